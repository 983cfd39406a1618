theorem dX8_scatter_2 : decode cX8_scatter 2 = .ok (.if_icmp .lt 9, 3) := by decide +kernel
theorem dX8_scatter_5 : decode cX8_scatter 5 = .ok (.iload_n 1, 1) := by decide +kernel
theorem dX8_scatter_6 : decode cX8_scatter 6 = .ok (.bipush 24, 2) := by decide +kernel
theorem dX8_scatter_8 : decode cX8_scatter 8 = .ok (.if_icmp .le 5, 3) := by decide +kernel
theorem dX8_scatter_11 : decode cX8_scatter 11 = .ok (.iconst (-1), 1) := by decide +kernel
theorem dX8_scatter_12 : decode cX8_scatter 12 = .ok (.ireturn, 1) := by decide +kernel
theorem dX8_scatter_13 : decode cX8_scatter 13 = .ok (.aload_n 0, 1) := by decide +kernel
theorem dX8_scatter_14 : decode cX8_scatter 14 = .ok (.invokevirtual 85, 3) := by decide +kernel
theorem dX8_scatter_17 : decode cX8_scatter 17 = .ok (.iconst 0, 1) := by decide +kernel
theorem dX8_scatter_18 : decode cX8_scatter 18 = .ok (.istore_n 2, 1) := by decide +kernel
theorem dX8_scatter_19 : decode cX8_scatter 19 = .ok (.iconst 0, 1) := by decide +kernel
theorem dX8_scatter_20 : decode cX8_scatter 20 = .ok (.istore_n 3, 1) := by decide +kernel
theorem dX8_scatter_21 : decode cX8_scatter 21 = .ok (.iload_n 3, 1) := by decide +kernel
theorem dX8_scatter_22 : decode cX8_scatter 22 = .ok (.iload_n 1, 1) := by decide +kernel
theorem dX8_scatter_23 : decode cX8_scatter 23 = .ok (.if_icmp .ge 73, 3) := by decide +kernel
theorem dX8_scatter_26 : decode cX8_scatter 26 = .ok (.aload_n 0, 1) := by decide +kernel
theorem dX8_scatter_27 : decode cX8_scatter 27 = .ok (.sipush 1024, 3) := by decide +kernel
theorem dX8_scatter_30 : decode cX8_scatter 30 = .ok (.invokevirtual 109, 3) := by decide +kernel
theorem dX8_scatter_33 : decode cX8_scatter 33 = .ok (.istore 4, 2) := by decide +kernel
theorem dX8_scatter_35 : decode cX8_scatter 35 = .ok (.aload_n 0, 1) := by decide +kernel
theorem dX8_scatter_36 : decode cX8_scatter 36 = .ok (.sipush 1024, 3) := by decide +kernel
theorem dX8_scatter_39 : decode cX8_scatter 39 = .ok (.invokevirtual 109, 3) := by decide +kernel
theorem dX8_scatter_42 : decode cX8_scatter 42 = .ok (.istore 5, 2) := by decide +kernel
theorem dX8_scatter_44 : decode cX8_scatter 44 = .ok (.aload_n 0, 1) := by decide +kernel
theorem dX8_scatter_45 : decode cX8_scatter 45 = .ok (.bipush 99, 2) := by decide +kernel
theorem dX8_scatter_47 : decode cX8_scatter 47 = .ok (.invokevirtual 109, 3) := by decide +kernel
theorem dX8_scatter_50 : decode cX8_scatter 50 = .ok (.iconst 1, 1) := by decide +kernel
theorem dX8_scatter_51 : decode cX8_scatter 51 = .ok (.iadd, 1) := by decide +kernel
theorem dX8_scatter_52 : decode cX8_scatter 52 = .ok (.istore 6, 2) := by decide +kernel
theorem dX8_scatter_54 : decode cX8_scatter 54 = .ok (.aload_n 0, 1) := by decide +kernel
theorem dX8_scatter_55 : decode cX8_scatter 55 = .ok (.getfield 12, 3) := by decide +kernel
theorem dX8_scatter_58 : decode cX8_scatter 58 = .ok (.getfield 75, 3) := by decide +kernel
theorem dX8_scatter_61 : decode cX8_scatter 61 = .ok (.iload 4, 2) := by decide +kernel
theorem dX8_scatter_63 : decode cX8_scatter 63 = .ok (.iload 5, 2) := by decide +kernel
theorem dX8_scatter_65 : decode cX8_scatter 65 = .ok (.invokevirtual 79, 3) := by decide +kernel
theorem dX8_scatter_68 : decode cX8_scatter 68 = .ok (.ifCond .eq 22, 3) := by decide +kernel
theorem dX8_scatter_71 : decode cX8_scatter 71 = .ok (.aload_n 0, 1) := by decide +kernel
theorem dX8_scatter_72 : decode cX8_scatter 72 = .ok (.getfield 12, 3) := by decide +kernel
theorem dX8_scatter_75 : decode cX8_scatter 75 = .ok (.getfield 75, 3) := by decide +kernel
theorem dX8_scatter_78 : decode cX8_scatter 78 = .ok (.iload 4, 2) := by decide +kernel
theorem dX8_scatter_80 : decode cX8_scatter 80 = .ok (.iload 5, 2) := by decide +kernel
theorem dX8_scatter_82 : decode cX8_scatter 82 = .ok (.iload 6, 2) := by decide +kernel
theorem dX8_scatter_84 : decode cX8_scatter 84 = .ok (.invokevirtual 88, 3) := by decide +kernel
theorem dX8_scatter_87 : decode cX8_scatter 87 = .ok (.iinc 2 1, 3) := by decide +kernel
theorem dX8_scatter_90 : decode cX8_scatter 90 = .ok (.iinc 3 1, 3) := by decide +kernel
theorem dX8_scatter_93 : decode cX8_scatter 93 = .ok (.goto (-72), 3) := by decide +kernel
theorem dX8_scatter_96 : decode cX8_scatter 96 = .ok (.aload_n 0, 1) := by decide +kernel
theorem dX8_scatter_97 : decode cX8_scatter 97 = .ok (.getfield 12, 3) := by decide +kernel
theorem dX8_scatter_100 : decode cX8_scatter 100 = .ok (.invokevirtual 92, 3) := by decide +kernel
theorem dX8_scatter_103 : decode cX8_scatter 103 = .ok (.iload_n 2, 1) := by decide +kernel
theorem dX8_scatter_104 : decode cX8_scatter 104 = .ok (.ireturn, 1) := by decide +kernel
theorem dX8_state_0 : decode cX8_state 0 = .ok (.aload_n 0, 1) := by decide +kernel
theorem dX8_state_1 : decode cX8_state 1 = .ok (.getfield 68, 3) := by decide +kernel
theorem dX8_state_4 : decode cX8_state 4 = .ok (.istore_n 2, 1) := by decide +kernel
theorem dX8_state_5 : decode cX8_state 5 = .ok (.aload_n 0, 1) := by decide +kernel
theorem dX8_state_6 : decode cX8_state 6 = .ok (.iload_n 1, 1) := by decide +kernel
theorem dX8_state_7 : decode cX8_state 7 = .ok (.putfield 68, 3) := by decide +kernel
theorem dX8_state_10 : decode cX8_state 10 = .ok (.iload_n 2, 1) := by decide +kernel
theorem dX8_state_11 : decode cX8_state 11 = .ok (.ireturn, 1) := by decide +kernel
theorem dX8_clear_0 : decode cX8_clear 0 = .ok (.aload_n 0, 1) := by decide +kernel
theorem dX8_clear_1 : decode cX8_clear 1 = .ok (.invokevirtual 85, 3) := by decide +kernel
theorem dX8_clear_4 : decode cX8_clear 4 = .ok (.aload_n 0, 1) := by decide +kernel
theorem dX8_clear_5 : decode cX8_clear 5 = .ok (.getfield 12, 3) := by decide +kernel
theorem dX8_clear_8 : decode cX8_clear 8 = .ok (.getfield 75, 3) := by decide +kernel
theorem dX8_clear_11 : decode cX8_clear 11 = .ok (.getfield 113, 3) := by decide +kernel
theorem dX8_clear_14 : decode cX8_clear 14 = .ok (.istore_n 1, 1) := by decide +kernel
theorem dX8_clear_15 : decode cX8_clear 15 = .ok (.aload_n 0, 1) := by decide +kernel
theorem dX8_clear_16 : decode cX8_clear 16 = .ok (.getfield 12, 3) := by decide +kernel
theorem dX8_clear_19 : decode cX8_clear 19 = .ok (.getfield 75, 3) := by decide +kernel
theorem dX8_clear_22 : decode cX8_clear 22 = .ok (.iconst 0, 1) := by decide +kernel
theorem dX8_clear_23 : decode cX8_clear 23 = .ok (.putfield 113, 3) := by decide +kernel
theorem dX8_clear_26 : decode cX8_clear 26 = .ok (.aload_n 0, 1) := by decide +kernel
theorem dX8_clear_27 : decode cX8_clear 27 = .ok (.getfield 12, 3) := by decide +kernel
theorem dX8_clear_30 : decode cX8_clear 30 = .ok (.invokevirtual 92, 3) := by decide +kernel
theorem dX8_clear_33 : decode cX8_clear 33 = .ok (.iload_n 1, 1) := by decide +kernel
theorem dX8_clear_34 : decode cX8_clear 34 = .ok (.ireturn, 1) := by decide +kernel
theorem dX8_size_0 : decode cX8_size 0 = .ok (.iload_n 1, 1) := by decide +kernel
theorem dX8_size_1 : decode cX8_size 1 = .ok (.ifCond .lt 10, 3) := by decide +kernel
theorem dX8_size_4 : decode cX8_size 4 = .ok (.iload_n 1, 1) := by decide +kernel
theorem dX8_size_5 : decode cX8_size 5 = .ok (.sipush 999, 3) := by decide +kernel
theorem dX8_size_8 : decode cX8_size 8 = .ok (.if_icmp .le 5, 3) := by decide +kernel
theorem dX8_size_11 : decode cX8_size 11 = .ok (.iconst (-1), 1) := by decide +kernel
theorem dX8_size_12 : decode cX8_size 12 = .ok (.ireturn, 1) := by decide +kernel
theorem dX8_size_13 : decode cX8_size 13 = .ok (.aload_n 0, 1) := by decide +kernel
theorem dX8_size_14 : decode cX8_size 14 = .ok (.getfield 64, 3) := by decide +kernel
theorem dX8_size_17 : decode cX8_size 17 = .ok (.istore_n 2, 1) := by decide +kernel
theorem dX8_size_18 : decode cX8_size 18 = .ok (.aload_n 0, 1) := by decide +kernel
theorem dX8_size_19 : decode cX8_size 19 = .ok (.iload_n 1, 1) := by decide +kernel
theorem dX8_size_20 : decode cX8_size 20 = .ok (.putfield 64, 3) := by decide +kernel
theorem dX8_size_23 : decode cX8_size 23 = .ok (.iload_n 2, 1) := by decide +kernel
theorem dX8_size_24 : decode cX8_size 24 = .ok (.ireturn, 1) := by decide +kernel
theorem dX8_point_0 : decode cX8_point 0 = .ok (.aload_n 0, 1) := by decide +kernel
theorem dX8_point_1 : decode cX8_point 1 = .ok (.iload_n 1, 1) := by decide +kernel
theorem dX8_point_2 : decode cX8_point 2 = .ok (.invokevirtual 99, 3) := by decide +kernel
theorem dX8_point_5 : decode cX8_point 5 = .ok (.ifCond .ne 5, 3) := by decide +kernel
theorem dX8_point_8 : decode cX8_point 8 = .ok (.iconst (-1), 1) := by decide +kernel
theorem dX8_point_9 : decode cX8_point 9 = .ok (.ireturn, 1) := by decide +kernel
theorem dX8_point_10 : decode cX8_point 10 = .ok (.aload_n 0, 1) := by decide +kernel
theorem dX8_point_11 : decode cX8_point 11 = .ok (.getfield 12, 3) := by decide +kernel
theorem dX8_point_14 : decode cX8_point 14 = .ok (.getfield 75, 3) := by decide +kernel
theorem dX8_point_17 : decode cX8_point 17 = .ok (.astore_n 3, 1) := by decide +kernel
theorem dX8_point_18 : decode cX8_point 18 = .ok (.iload_n 2, 1) := by decide +kernel
theorem dX8_point_19 : decode cX8_point 19 = .ok (.tableswitch 79 0 5 #[37, 44, 51, 58, 64, 70], 37) := by decide +kernel
theorem dX8_point_56 : decode cX8_point 56 = .ok (.aload_n 3, 1) := by decide +kernel
theorem dX8_point_57 : decode cX8_point 57 = .ok (.getfield 116, 3) := by decide +kernel
theorem dX8_point_60 : decode cX8_point 60 = .ok (.iload_n 1, 1) := by decide +kernel
theorem dX8_point_61 : decode cX8_point 61 = .ok (.iaload, 1) := by decide +kernel
theorem dX8_point_62 : decode cX8_point 62 = .ok (.ireturn, 1) := by decide +kernel
theorem dX8_point_63 : decode cX8_point 63 = .ok (.aload_n 3, 1) := by decide +kernel
theorem dX8_point_64 : decode cX8_point 64 = .ok (.getfield 119, 3) := by decide +kernel
theorem dX8_point_67 : decode cX8_point 67 = .ok (.iload_n 1, 1) := by decide +kernel
theorem dX8_point_68 : decode cX8_point 68 = .ok (.iaload, 1) := by decide +kernel
theorem dX8_point_69 : decode cX8_point 69 = .ok (.ireturn, 1) := by decide +kernel
theorem dX8_point_70 : decode cX8_point 70 = .ok (.aload_n 3, 1) := by decide +kernel
theorem dX8_point_71 : decode cX8_point 71 = .ok (.getfield 106, 3) := by decide +kernel
theorem dX8_point_74 : decode cX8_point 74 = .ok (.iload_n 1, 1) := by decide +kernel
theorem dX8_point_75 : decode cX8_point 75 = .ok (.iaload, 1) := by decide +kernel
theorem dX8_point_76 : decode cX8_point 76 = .ok (.ireturn, 1) := by decide +kernel
theorem dX8_point_77 : decode cX8_point 77 = .ok (.aload_n 3, 1) := by decide +kernel
theorem dX8_point_78 : decode cX8_point 78 = .ok (.iload_n 1, 1) := by decide +kernel
theorem dX8_point_79 : decode cX8_point 79 = .ok (.invokevirtual 122, 3) := by decide +kernel
theorem dX8_point_82 : decode cX8_point 82 = .ok (.ireturn, 1) := by decide +kernel
theorem dX8_point_83 : decode cX8_point 83 = .ok (.aload_n 3, 1) := by decide +kernel
theorem dX8_point_84 : decode cX8_point 84 = .ok (.iload_n 1, 1) := by decide +kernel
theorem dX8_point_85 : decode cX8_point 85 = .ok (.invokevirtual 125, 3) := by decide +kernel
theorem dX8_point_88 : decode cX8_point 88 = .ok (.ireturn, 1) := by decide +kernel
theorem dX8_point_89 : decode cX8_point 89 = .ok (.aload_n 0, 1) := by decide +kernel
theorem dX8_point_90 : decode cX8_point 90 = .ok (.getfield 12, 3) := by decide +kernel
theorem dX8_point_93 : decode cX8_point 93 = .ok (.iload_n 1, 1) := by decide +kernel
theorem dX8_point_94 : decode cX8_point 94 = .ok (.invokevirtual 128, 3) := by decide +kernel
theorem dX8_point_97 : decode cX8_point 97 = .ok (.ireturn, 1) := by decide +kernel
theorem dX8_point_98 : decode cX8_point 98 = .ok (.iconst (-1), 1) := by decide +kernel
theorem dX8_point_99 : decode cX8_point 99 = .ok (.ireturn, 1) := by decide +kernel
theorem dX8_at_0 : decode cX8_at 0 = .ok (.aload_n 0, 1) := by decide +kernel
theorem dX8_at_1 : decode cX8_at 1 = .ok (.getfield 12, 3) := by decide +kernel
theorem dX8_at_4 : decode cX8_at 4 = .ok (.getfield 75, 3) := by decide +kernel
theorem dX8_at_7 : decode cX8_at 7 = .ok (.iload_n 1, 1) := by decide +kernel
theorem dX8_at_8 : decode cX8_at 8 = .ok (.iload_n 2, 1) := by decide +kernel
theorem dX8_at_9 : decode cX8_at 9 = .ok (.invokevirtual 131, 3) := by decide +kernel
theorem dX8_at_12 : decode cX8_at 12 = .ok (.ireturn, 1) := by decide +kernel
theorem dX8_near_0 : decode cX8_near 0 = .ok (.iload_n 1, 1) := by decide +kernel
theorem dX8_near_1 : decode cX8_near 1 = .ok (.invokestatic 135, 3) := by decide +kernel
theorem dX8_near_4 : decode cX8_near 4 = .ok (.ifCond .eq 10, 3) := by decide +kernel
theorem dX8_near_7 : decode cX8_near 7 = .ok (.iload_n 2, 1) := by decide +kernel
theorem dX8_near_8 : decode cX8_near 8 = .ok (.invokestatic 135, 3) := by decide +kernel
theorem dX8_near_11 : decode cX8_near 11 = .ok (.ifCond .ne 5, 3) := by decide +kernel
theorem dX8_near_14 : decode cX8_near 14 = .ok (.iconst (-1), 1) := by decide +kernel
theorem dX8_near_15 : decode cX8_near 15 = .ok (.ireturn, 1) := by decide +kernel
theorem dX8_near_16 : decode cX8_near 16 = .ok (.aload_n 0, 1) := by decide +kernel
theorem dX8_near_17 : decode cX8_near 17 = .ok (.getfield 12, 3) := by decide +kernel
theorem dX8_near_20 : decode cX8_near 20 = .ok (.getfield 75, 3) := by decide +kernel
theorem dX8_near_23 : decode cX8_near 23 = .ok (.astore 4, 2) := by decide +kernel
theorem dX8_near_25 : decode cX8_near 25 = .ok (.iconst 0, 1) := by decide +kernel
theorem dX8_near_26 : decode cX8_near 26 = .ok (.istore 5, 2) := by decide +kernel
theorem dX8_near_28 : decode cX8_near 28 = .ok (.iload 5, 2) := by decide +kernel
theorem dX8_near_30 : decode cX8_near 30 = .ok (.aload 4, 2) := by decide +kernel
theorem dX8_near_32 : decode cX8_near 32 = .ok (.getfield 113, 3) := by decide +kernel
theorem dX8_near_35 : decode cX8_near 35 = .ok (.if_icmp .ge 25, 3) := by decide +kernel
theorem dX8_near_38 : decode cX8_near 38 = .ok (.aload_n 0, 1) := by decide +kernel
theorem dX8_near_39 : decode cX8_near 39 = .ok (.getfield 60, 3) := by decide +kernel
theorem dX8_near_42 : decode cX8_near 42 = .ok (.iload 5, 2) := by decide +kernel
theorem dX8_near_44 : decode cX8_near 44 = .ok (.aload 4, 2) := by decide +kernel
theorem dX8_near_46 : decode cX8_near 46 = .ok (.iload 5, 2) := by decide +kernel
theorem dX8_near_48 : decode cX8_near 48 = .ok (.iload_n 1, 1) := by decide +kernel
theorem dX8_near_49 : decode cX8_near 49 = .ok (.iload_n 2, 1) := by decide +kernel
theorem dX8_near_50 : decode cX8_near 50 = .ok (.invokevirtual 138, 3) := by decide +kernel
theorem dX8_near_53 : decode cX8_near 53 = .ok (.iastore, 1) := by decide +kernel
theorem dX8_near_54 : decode cX8_near 54 = .ok (.iinc 5 1, 3) := by decide +kernel
theorem dX8_near_57 : decode cX8_near 57 = .ok (.goto (-29), 3) := by decide +kernel
theorem dX8_near_60 : decode cX8_near 60 = .ok (.iconst 0, 1) := by decide +kernel
theorem dX8_near_61 : decode cX8_near 61 = .ok (.istore 5, 2) := by decide +kernel
theorem dX8_near_63 : decode cX8_near 63 = .ok (.iload 5, 2) := by decide +kernel
theorem dX8_near_65 : decode cX8_near 65 = .ok (.aload 4, 2) := by decide +kernel
theorem dX8_near_67 : decode cX8_near 67 = .ok (.getfield 113, 3) := by decide +kernel
theorem dX8_near_70 : decode cX8_near 70 = .ok (.if_icmp .ge 27, 3) := by decide +kernel
theorem dX8_near_73 : decode cX8_near 73 = .ok (.aload_n 0, 1) := by decide +kernel
theorem dX8_near_74 : decode cX8_near 74 = .ok (.iload 5, 2) := by decide +kernel
theorem dX8_near_76 : decode cX8_near 76 = .ok (.aload 4, 2) := by decide +kernel
theorem dX8_near_78 : decode cX8_near 78 = .ok (.getfield 113, 3) := by decide +kernel
theorem dX8_near_81 : decode cX8_near 81 = .ok (.invokevirtual 142, 3) := by decide +kernel
theorem dX8_near_84 : decode cX8_near 84 = .ok (.iload_n 3, 1) := by decide +kernel
theorem dX8_near_85 : decode cX8_near 85 = .ok (.if_icmp .ne 6, 3) := by decide +kernel
theorem dX8_near_88 : decode cX8_near 88 = .ok (.iload 5, 2) := by decide +kernel
theorem dX8_near_90 : decode cX8_near 90 = .ok (.ireturn, 1) := by decide +kernel
theorem dX8_near_91 : decode cX8_near 91 = .ok (.iinc 5 1, 3) := by decide +kernel
theorem dX8_near_94 : decode cX8_near 94 = .ok (.goto (-31), 3) := by decide +kernel
theorem dX8_near_97 : decode cX8_near 97 = .ok (.iconst (-1), 1) := by decide +kernel
theorem dX8_near_98 : decode cX8_near 98 = .ok (.ireturn, 1) := by decide +kernel
theorem dX8_join_0 : decode cX8_join 0 = .ok (.iload_n 1, 1) := by decide +kernel
theorem dX8_join_1 : decode cX8_join 1 = .ok (.ifCond .lt 14, 3) := by decide +kernel
theorem dX8_join_4 : decode cX8_join 4 = .ok (.iload_n 1, 1) := by decide +kernel
theorem dX8_join_5 : decode cX8_join 5 = .ok (.aload_n 0, 1) := by decide +kernel
theorem dX8_join_6 : decode cX8_join 6 = .ok (.getfield 12, 3) := by decide +kernel
theorem dX8_join_9 : decode cX8_join 9 = .ok (.getfield 145, 3) := by decide +kernel
theorem dX8_join_12 : decode cX8_join 12 = .ok (.if_icmp .lt 5, 3) := by decide +kernel
theorem dX8_join_15 : decode cX8_join 15 = .ok (.iconst (-1), 1) := by decide +kernel
theorem dX8_join_16 : decode cX8_join 16 = .ok (.ireturn, 1) := by decide +kernel
theorem dX8_join_17 : decode cX8_join 17 = .ok (.iload_n 2, 1) := by decide +kernel
theorem dX8_join_18 : decode cX8_join 18 = .ok (.tableswitch 184 0 9 #[54, 64, 74, 84, 97, 117, 127, 137, 147, 159], 54) := by decide +kernel
theorem dX8_join_72 : decode cX8_join 72 = .ok (.aload_n 0, 1) := by decide +kernel
theorem dX8_join_73 : decode cX8_join 73 = .ok (.getfield 12, 3) := by decide +kernel
theorem dX8_join_76 : decode cX8_join 76 = .ok (.getfield 146, 3) := by decide +kernel
theorem dX8_join_79 : decode cX8_join 79 = .ok (.iload_n 1, 1) := by decide +kernel
theorem dX8_join_80 : decode cX8_join 80 = .ok (.iaload, 1) := by decide +kernel
theorem dX8_join_81 : decode cX8_join 81 = .ok (.ireturn, 1) := by decide +kernel
theorem dX8_join_82 : decode cX8_join 82 = .ok (.aload_n 0, 1) := by decide +kernel
theorem dX8_join_83 : decode cX8_join 83 = .ok (.getfield 12, 3) := by decide +kernel
theorem dX8_join_86 : decode cX8_join 86 = .ok (.getfield 149, 3) := by decide +kernel
theorem dX8_join_89 : decode cX8_join 89 = .ok (.iload_n 1, 1) := by decide +kernel
theorem dX8_join_90 : decode cX8_join 90 = .ok (.iaload, 1) := by decide +kernel
theorem dX8_join_91 : decode cX8_join 91 = .ok (.ireturn, 1) := by decide +kernel
theorem dX8_join_92 : decode cX8_join 92 = .ok (.aload_n 0, 1) := by decide +kernel
theorem dX8_join_93 : decode cX8_join 93 = .ok (.getfield 12, 3) := by decide +kernel
theorem dX8_join_96 : decode cX8_join 96 = .ok (.getfield 152, 3) := by decide +kernel
theorem dX8_join_99 : decode cX8_join 99 = .ok (.iload_n 1, 1) := by decide +kernel
theorem dX8_join_100 : decode cX8_join 100 = .ok (.iaload, 1) := by decide +kernel
theorem dX8_join_101 : decode cX8_join 101 = .ok (.ireturn, 1) := by decide +kernel
theorem dX8_join_102 : decode cX8_join 102 = .ok (.aload_n 0, 1) := by decide +kernel
theorem dX8_join_103 : decode cX8_join 103 = .ok (.getfield 12, 3) := by decide +kernel
theorem dX8_join_106 : decode cX8_join 106 = .ok (.getfield 155, 3) := by decide +kernel
theorem dX8_join_109 : decode cX8_join 109 = .ok (.iload_n 1, 1) := by decide +kernel
theorem dX8_join_110 : decode cX8_join 110 = .ok (.iaload, 1) := by decide +kernel
theorem dX8_join_111 : decode cX8_join 111 = .ok (.invokestatic 158, 3) := by decide +kernel
theorem dX8_join_114 : decode cX8_join 114 = .ok (.ireturn, 1) := by decide +kernel
theorem dX8_join_115 : decode cX8_join 115 = .ok (.aload_n 0, 1) := by decide +kernel
theorem dX8_join_116 : decode cX8_join 116 = .ok (.getfield 12, 3) := by decide +kernel
theorem dX8_join_119 : decode cX8_join 119 = .ok (.getfield 75, 3) := by decide +kernel
theorem dX8_join_122 : decode cX8_join 122 = .ok (.aload_n 0, 1) := by decide +kernel
theorem dX8_join_123 : decode cX8_join 123 = .ok (.getfield 12, 3) := by decide +kernel
theorem dX8_join_126 : decode cX8_join 126 = .ok (.getfield 155, 3) := by decide +kernel
theorem dX8_join_129 : decode cX8_join 129 = .ok (.iload_n 1, 1) := by decide +kernel
theorem dX8_join_130 : decode cX8_join 130 = .ok (.iaload, 1) := by decide +kernel
theorem dX8_join_131 : decode cX8_join 131 = .ok (.invokevirtual 163, 3) := by decide +kernel
theorem dX8_join_134 : decode cX8_join 134 = .ok (.ireturn, 1) := by decide +kernel
theorem dX8_join_135 : decode cX8_join 135 = .ok (.aload_n 0, 1) := by decide +kernel
theorem dX8_join_136 : decode cX8_join 136 = .ok (.getfield 12, 3) := by decide +kernel
theorem dX8_join_139 : decode cX8_join 139 = .ok (.getfield 166, 3) := by decide +kernel
theorem dX8_join_142 : decode cX8_join 142 = .ok (.iload_n 1, 1) := by decide +kernel
theorem dX8_join_143 : decode cX8_join 143 = .ok (.iaload, 1) := by decide +kernel
theorem dX8_join_144 : decode cX8_join 144 = .ok (.ireturn, 1) := by decide +kernel
theorem dX8_join_145 : decode cX8_join 145 = .ok (.aload_n 0, 1) := by decide +kernel
theorem dX8_join_146 : decode cX8_join 146 = .ok (.getfield 12, 3) := by decide +kernel
theorem dX8_join_149 : decode cX8_join 149 = .ok (.getfield 169, 3) := by decide +kernel
theorem dX8_join_152 : decode cX8_join 152 = .ok (.iload_n 1, 1) := by decide +kernel
theorem dX8_join_153 : decode cX8_join 153 = .ok (.iaload, 1) := by decide +kernel
theorem dX8_join_154 : decode cX8_join 154 = .ok (.ireturn, 1) := by decide +kernel
theorem dX8_join_155 : decode cX8_join 155 = .ok (.aload_n 0, 1) := by decide +kernel
theorem dX8_join_156 : decode cX8_join 156 = .ok (.getfield 12, 3) := by decide +kernel
theorem dX8_join_159 : decode cX8_join 159 = .ok (.getfield 172, 3) := by decide +kernel
theorem dX8_join_162 : decode cX8_join 162 = .ok (.iload_n 1, 1) := by decide +kernel
theorem dX8_join_163 : decode cX8_join 163 = .ok (.iaload, 1) := by decide +kernel
theorem dX8_join_164 : decode cX8_join 164 = .ok (.ireturn, 1) := by decide +kernel
theorem dX8_join_165 : decode cX8_join 165 = .ok (.aload_n 0, 1) := by decide +kernel
theorem dX8_join_166 : decode cX8_join 166 = .ok (.getfield 12, 3) := by decide +kernel
theorem dX8_join_169 : decode cX8_join 169 = .ok (.bipush 100, 2) := by decide +kernel
theorem dX8_join_171 : decode cX8_join 171 = .ok (.iload_n 1, 1) := by decide +kernel
theorem dX8_join_172 : decode cX8_join 172 = .ok (.iadd, 1) := by decide +kernel
theorem dX8_join_173 : decode cX8_join 173 = .ok (.invokevirtual 175, 3) := by decide +kernel
theorem dX8_join_176 : decode cX8_join 176 = .ok (.ireturn, 1) := by decide +kernel
theorem dX8_join_177 : decode cX8_join 177 = .ok (.aload_n 0, 1) := by decide +kernel
theorem dX8_join_178 : decode cX8_join 178 = .ok (.getfield 16, 3) := by decide +kernel
theorem dX8_join_181 : decode cX8_join 181 = .ok (.aload_n 0, 1) := by decide +kernel
theorem dX8_join_182 : decode cX8_join 182 = .ok (.getfield 12, 3) := by decide +kernel
theorem dX8_join_185 : decode cX8_join 185 = .ok (.getfield 178, 3) := by decide +kernel
theorem dX8_join_188 : decode cX8_join 188 = .ok (.iload_n 1, 1) := by decide +kernel
theorem dX8_join_189 : decode cX8_join 189 = .ok (.laload, 1) := by decide +kernel
theorem dX8_join_190 : decode cX8_join 190 = .ok (.invokevirtual 182, 3) := by decide +kernel
theorem dX8_join_193 : decode cX8_join 193 = .ok (.ifCond .eq 7, 3) := by decide +kernel
theorem dX8_join_196 : decode cX8_join 196 = .ok (.iconst 0, 1) := by decide +kernel
theorem dX8_join_197 : decode cX8_join 197 = .ok (.goto 4, 3) := by decide +kernel
theorem dX8_join_200 : decode cX8_join 200 = .ok (.iconst 1, 1) := by decide +kernel
theorem dX8_join_201 : decode cX8_join 201 = .ok (.ireturn, 1) := by decide +kernel
theorem dX8_join_202 : decode cX8_join 202 = .ok (.iconst (-1), 1) := by decide +kernel
theorem dX8_join_203 : decode cX8_join 203 = .ok (.ireturn, 1) := by decide +kernel
theorem dX8_meets_0 : decode cX8_meets 0 = .ok (.aload_n 0, 1) := by decide +kernel
theorem dX8_meets_1 : decode cX8_meets 1 = .ok (.iload_n 1, 1) := by decide +kernel
theorem dX8_meets_2 : decode cX8_meets 2 = .ok (.invokevirtual 99, 3) := by decide +kernel
theorem dX8_meets_5 : decode cX8_meets 5 = .ok (.ifCond .eq 11, 3) := by decide +kernel
theorem dX8_meets_8 : decode cX8_meets 8 = .ok (.aload_n 0, 1) := by decide +kernel
theorem dX8_meets_9 : decode cX8_meets 9 = .ok (.iload_n 2, 1) := by decide +kernel
theorem dX8_meets_10 : decode cX8_meets 10 = .ok (.invokevirtual 99, 3) := by decide +kernel
theorem dX8_meets_13 : decode cX8_meets 13 = .ok (.ifCond .ne 5, 3) := by decide +kernel
theorem dX8_meets_16 : decode cX8_meets 16 = .ok (.iconst (-1), 1) := by decide +kernel
theorem dX8_meets_17 : decode cX8_meets 17 = .ok (.ireturn, 1) := by decide +kernel
theorem dX8_meets_18 : decode cX8_meets 18 = .ok (.aload_n 0, 1) := by decide +kernel
theorem dX8_meets_19 : decode cX8_meets 19 = .ok (.getfield 12, 3) := by decide +kernel
theorem dX8_meets_22 : decode cX8_meets 22 = .ok (.iload_n 1, 1) := by decide +kernel
theorem dX8_meets_23 : decode cX8_meets 23 = .ok (.iload_n 2, 1) := by decide +kernel
theorem dX8_meets_24 : decode cX8_meets 24 = .ok (.invokevirtual 186, 3) := by decide +kernel
theorem dX8_meets_27 : decode cX8_meets 27 = .ok (.ireturn, 1) := by decide +kernel
theorem dX8_path_0 : decode cX8_path 0 = .ok (.aload_n 0, 1) := by decide +kernel
theorem dX8_path_1 : decode cX8_path 1 = .ok (.iload_n 1, 1) := by decide +kernel
theorem dX8_path_2 : decode cX8_path 2 = .ok (.invokevirtual 99, 3) := by decide +kernel
theorem dX8_path_5 : decode cX8_path 5 = .ok (.ifCond .eq 11, 3) := by decide +kernel
theorem dX8_path_8 : decode cX8_path 8 = .ok (.aload_n 0, 1) := by decide +kernel
theorem dX8_path_9 : decode cX8_path 9 = .ok (.iload_n 2, 1) := by decide +kernel
theorem dX8_path_10 : decode cX8_path 10 = .ok (.invokevirtual 99, 3) := by decide +kernel
theorem dX8_path_13 : decode cX8_path 13 = .ok (.ifCond .ne 5, 3) := by decide +kernel
theorem dX8_path_16 : decode cX8_path 16 = .ok (.iconst (-1), 1) := by decide +kernel
theorem dX8_path_17 : decode cX8_path 17 = .ok (.ireturn, 1) := by decide +kernel
theorem dX8_path_18 : decode cX8_path 18 = .ok (.aload_n 0, 1) := by decide +kernel
theorem dX8_path_19 : decode cX8_path 19 = .ok (.getfield 49, 3) := by decide +kernel
theorem dX8_path_22 : decode cX8_path 22 = .ok (.aload_n 0, 1) := by decide +kernel
theorem dX8_path_23 : decode cX8_path 23 = .ok (.getfield 12, 3) := by decide +kernel
theorem dX8_path_26 : decode cX8_path 26 = .ok (.iconst 0, 1) := by decide +kernel
theorem dX8_path_27 : decode cX8_path 27 = .ok (.invokevirtual 189, 3) := by decide +kernel
theorem dX8_path_30 : decode cX8_path 30 = .ok (.aload_n 0, 1) := by decide +kernel
theorem dX8_path_31 : decode cX8_path 31 = .ok (.getfield 49, 3) := by decide +kernel
theorem dX8_path_34 : decode cX8_path 34 = .ok (.getfield 193, 3) := by decide +kernel
theorem dX8_path_37 : decode cX8_path 37 = .ok (.iload_n 1, 1) := by decide +kernel
theorem dX8_path_38 : decode cX8_path 38 = .ok (.aaload, 1) := by decide +kernel
theorem dX8_path_39 : decode cX8_path 39 = .ok (.iload_n 2, 1) := by decide +kernel
theorem dX8_path_40 : decode cX8_path 40 = .ok (.iaload, 1) := by decide +kernel
theorem dX8_path_41 : decode cX8_path 41 = .ok (.istore 4, 2) := by decide +kernel
theorem dX8_path_43 : decode cX8_path 43 = .ok (.iload_n 3, 1) := by decide +kernel
theorem dX8_path_44 : decode cX8_path 44 = .ok (.iconst (-1), 1) := by decide +kernel
theorem dX8_path_45 : decode cX8_path 45 = .ok (.if_icmp .ne 6, 3) := by decide +kernel
theorem dX8_path_48 : decode cX8_path 48 = .ok (.iload 4, 2) := by decide +kernel
theorem dX8_path_50 : decode cX8_path 50 = .ok (.ireturn, 1) := by decide +kernel
theorem dX8_path_51 : decode cX8_path 51 = .ok (.iload_n 3, 1) := by decide +kernel
theorem dX8_path_52 : decode cX8_path 52 = .ok (.ifCond .lt 9, 3) := by decide +kernel
theorem dX8_path_55 : decode cX8_path 55 = .ok (.iload_n 3, 1) := by decide +kernel
theorem dX8_path_56 : decode cX8_path 56 = .ok (.iload 4, 2) := by decide +kernel
theorem dX8_path_58 : decode cX8_path 58 = .ok (.if_icmp .le 5, 3) := by decide +kernel
theorem dX8_path_61 : decode cX8_path 61 = .ok (.iconst (-1), 1) := by decide +kernel
theorem dX8_path_62 : decode cX8_path 62 = .ok (.ireturn, 1) := by decide +kernel
theorem dX8_path_63 : decode cX8_path 63 = .ok (.iconst 0, 1) := by decide +kernel
theorem dX8_path_64 : decode cX8_path 64 = .ok (.istore 5, 2) := by decide +kernel
theorem dX8_path_66 : decode cX8_path 66 = .ok (.iload 5, 2) := by decide +kernel
theorem dX8_path_68 : decode cX8_path 68 = .ok (.aload_n 0, 1) := by decide +kernel
theorem dX8_path_69 : decode cX8_path 69 = .ok (.getfield 12, 3) := by decide +kernel
theorem dX8_path_72 : decode cX8_path 72 = .ok (.getfield 75, 3) := by decide +kernel
theorem dX8_path_75 : decode cX8_path 75 = .ok (.getfield 113, 3) := by decide +kernel
theorem dX8_path_78 : decode cX8_path 78 = .ok (.if_icmp .ge 47, 3) := by decide +kernel
theorem dX8_path_81 : decode cX8_path 81 = .ok (.aload_n 0, 1) := by decide +kernel
theorem dX8_path_82 : decode cX8_path 82 = .ok (.getfield 49, 3) := by decide +kernel
theorem dX8_path_85 : decode cX8_path 85 = .ok (.getfield 193, 3) := by decide +kernel
theorem dX8_path_88 : decode cX8_path 88 = .ok (.iload_n 1, 1) := by decide +kernel
theorem dX8_path_89 : decode cX8_path 89 = .ok (.aaload, 1) := by decide +kernel
theorem dX8_path_90 : decode cX8_path 90 = .ok (.iload 5, 2) := by decide +kernel
theorem dX8_path_92 : decode cX8_path 92 = .ok (.iaload, 1) := by decide +kernel
theorem dX8_path_93 : decode cX8_path 93 = .ok (.iload_n 3, 1) := by decide +kernel
theorem dX8_path_94 : decode cX8_path 94 = .ok (.if_icmp .ne 25, 3) := by decide +kernel
theorem dX8_path_97 : decode cX8_path 97 = .ok (.aload_n 0, 1) := by decide +kernel
theorem dX8_path_98 : decode cX8_path 98 = .ok (.getfield 49, 3) := by decide +kernel
theorem dX8_path_101 : decode cX8_path 101 = .ok (.getfield 193, 3) := by decide +kernel
theorem dX8_path_104 : decode cX8_path 104 = .ok (.iload 5, 2) := by decide +kernel
theorem dX8_path_106 : decode cX8_path 106 = .ok (.aaload, 1) := by decide +kernel
theorem dX8_path_107 : decode cX8_path 107 = .ok (.iload_n 2, 1) := by decide +kernel
theorem dX8_path_108 : decode cX8_path 108 = .ok (.iaload, 1) := by decide +kernel
theorem dX8_path_109 : decode cX8_path 109 = .ok (.iload 4, 2) := by decide +kernel
theorem dX8_path_111 : decode cX8_path 111 = .ok (.iload_n 3, 1) := by decide +kernel
theorem dX8_path_112 : decode cX8_path 112 = .ok (.isub, 1) := by decide +kernel
theorem dX8_path_113 : decode cX8_path 113 = .ok (.if_icmp .ne 6, 3) := by decide +kernel
theorem dX8_path_116 : decode cX8_path 116 = .ok (.iload 5, 2) := by decide +kernel
theorem dX8_path_118 : decode cX8_path 118 = .ok (.ireturn, 1) := by decide +kernel
theorem dX8_path_119 : decode cX8_path 119 = .ok (.iinc 5 1, 3) := by decide +kernel
theorem dX8_path_122 : decode cX8_path 122 = .ok (.goto (-56), 3) := by decide +kernel
theorem dX8_path_125 : decode cX8_path 125 = .ok (.iconst (-1), 1) := by decide +kernel
theorem dX8_path_126 : decode cX8_path 126 = .ok (.ireturn, 1) := by decide +kernel
theorem dX8_longest_0 : decode cX8_longest 0 = .ok (.aload_n 0, 1) := by decide +kernel
theorem dX8_longest_1 : decode cX8_longest 1 = .ok (.getfield 12, 3) := by decide +kernel
theorem dX8_longest_4 : decode cX8_longest 4 = .ok (.getfield 75, 3) := by decide +kernel
theorem dX8_longest_7 : decode cX8_longest 7 = .ok (.getfield 113, 3) := by decide +kernel
theorem dX8_longest_10 : decode cX8_longest 10 = .ok (.istore_n 2, 1) := by decide +kernel
theorem dX8_longest_11 : decode cX8_longest 11 = .ok (.iload_n 2, 1) := by decide +kernel
theorem dX8_longest_12 : decode cX8_longest 12 = .ok (.iconst 2, 1) := by decide +kernel
theorem dX8_longest_13 : decode cX8_longest 13 = .ok (.if_icmp .lt 12, 3) := by decide +kernel
theorem dX8_longest_16 : decode cX8_longest 16 = .ok (.iload_n 1, 1) := by decide +kernel
theorem dX8_longest_17 : decode cX8_longest 17 = .ok (.ifCond .lt 8, 3) := by decide +kernel
theorem dX8_longest_20 : decode cX8_longest 20 = .ok (.iload_n 1, 1) := by decide +kernel
theorem dX8_longest_21 : decode cX8_longest 21 = .ok (.iconst 2, 1) := by decide +kernel
theorem dX8_longest_22 : decode cX8_longest 22 = .ok (.if_icmp .le 5, 3) := by decide +kernel
theorem dX8_longest_25 : decode cX8_longest 25 = .ok (.iconst (-1), 1) := by decide +kernel
theorem dX8_longest_26 : decode cX8_longest 26 = .ok (.ireturn, 1) := by decide +kernel
theorem dX8_longest_27 : decode cX8_longest 27 = .ok (.aload_n 0, 1) := by decide +kernel
theorem dX8_longest_28 : decode cX8_longest 28 = .ok (.getfield 49, 3) := by decide +kernel
theorem dX8_longest_31 : decode cX8_longest 31 = .ok (.aload_n 0, 1) := by decide +kernel
theorem dX8_longest_32 : decode cX8_longest 32 = .ok (.getfield 12, 3) := by decide +kernel
theorem dX8_longest_35 : decode cX8_longest 35 = .ok (.iconst 1, 1) := by decide +kernel
theorem dX8_longest_36 : decode cX8_longest 36 = .ok (.invokevirtual 189, 3) := by decide +kernel
theorem dX8_longest_39 : decode cX8_longest 39 = .ok (.iconst (-1), 1) := by decide +kernel
theorem dX8_longest_40 : decode cX8_longest 40 = .ok (.istore_n 3, 1) := by decide +kernel
theorem dX8_longest_41 : decode cX8_longest 41 = .ok (.iconst (-1), 1) := by decide +kernel
theorem dX8_longest_42 : decode cX8_longest 42 = .ok (.istore 4, 2) := by decide +kernel
theorem dX8_longest_44 : decode cX8_longest 44 = .ok (.iconst (-1), 1) := by decide +kernel
theorem dX8_longest_45 : decode cX8_longest 45 = .ok (.istore 5, 2) := by decide +kernel
theorem dX8_longest_47 : decode cX8_longest 47 = .ok (.iconst 0, 1) := by decide +kernel
theorem dX8_longest_48 : decode cX8_longest 48 = .ok (.istore 6, 2) := by decide +kernel
theorem dX8_longest_50 : decode cX8_longest 50 = .ok (.iload 6, 2) := by decide +kernel
theorem dX8_longest_52 : decode cX8_longest 52 = .ok (.iload_n 2, 1) := by decide +kernel
theorem dX8_longest_53 : decode cX8_longest 53 = .ok (.if_icmp .ge 66, 3) := by decide +kernel
theorem dX8_longest_56 : decode cX8_longest 56 = .ok (.iload 6, 2) := by decide +kernel
theorem dX8_longest_58 : decode cX8_longest 58 = .ok (.iconst 1, 1) := by decide +kernel
theorem dX8_longest_59 : decode cX8_longest 59 = .ok (.iadd, 1) := by decide +kernel
theorem dX8_longest_60 : decode cX8_longest 60 = .ok (.istore 7, 2) := by decide +kernel
theorem dX8_longest_62 : decode cX8_longest 62 = .ok (.iload 7, 2) := by decide +kernel
theorem dX8_longest_64 : decode cX8_longest 64 = .ok (.iload_n 2, 1) := by decide +kernel
theorem dX8_longest_65 : decode cX8_longest 65 = .ok (.if_icmp .ge 48, 3) := by decide +kernel
theorem dX8_longest_68 : decode cX8_longest 68 = .ok (.aload_n 0, 1) := by decide +kernel
theorem dX8_longest_69 : decode cX8_longest 69 = .ok (.getfield 49, 3) := by decide +kernel
theorem dX8_longest_72 : decode cX8_longest 72 = .ok (.getfield 193, 3) := by decide +kernel
theorem dX8_longest_75 : decode cX8_longest 75 = .ok (.iload 6, 2) := by decide +kernel
theorem dX8_longest_77 : decode cX8_longest 77 = .ok (.aaload, 1) := by decide +kernel
theorem dX8_longest_78 : decode cX8_longest 78 = .ok (.iload 7, 2) := by decide +kernel
theorem dX8_longest_80 : decode cX8_longest 80 = .ok (.iaload, 1) := by decide +kernel
theorem dX8_longest_81 : decode cX8_longest 81 = .ok (.iload_n 3, 1) := by decide +kernel
theorem dX8_longest_82 : decode cX8_longest 82 = .ok (.if_icmp .le 25, 3) := by decide +kernel
theorem dX8_longest_85 : decode cX8_longest 85 = .ok (.aload_n 0, 1) := by decide +kernel
theorem dX8_longest_86 : decode cX8_longest 86 = .ok (.getfield 49, 3) := by decide +kernel
theorem dX8_longest_89 : decode cX8_longest 89 = .ok (.getfield 193, 3) := by decide +kernel
theorem dX8_longest_92 : decode cX8_longest 92 = .ok (.iload 6, 2) := by decide +kernel
theorem dX8_longest_94 : decode cX8_longest 94 = .ok (.aaload, 1) := by decide +kernel
theorem dX8_longest_95 : decode cX8_longest 95 = .ok (.iload 7, 2) := by decide +kernel
theorem dX8_longest_97 : decode cX8_longest 97 = .ok (.iaload, 1) := by decide +kernel
theorem dX8_longest_98 : decode cX8_longest 98 = .ok (.istore_n 3, 1) := by decide +kernel
theorem dX8_longest_99 : decode cX8_longest 99 = .ok (.iload 6, 2) := by decide +kernel
theorem dX8_longest_101 : decode cX8_longest 101 = .ok (.istore 4, 2) := by decide +kernel
theorem dX8_longest_103 : decode cX8_longest 103 = .ok (.iload 7, 2) := by decide +kernel
theorem dX8_longest_105 : decode cX8_longest 105 = .ok (.istore 5, 2) := by decide +kernel
theorem dX8_longest_107 : decode cX8_longest 107 = .ok (.iinc 7 1, 3) := by decide +kernel
theorem dX8_longest_110 : decode cX8_longest 110 = .ok (.goto (-48), 3) := by decide +kernel
theorem dX8_longest_113 : decode cX8_longest 113 = .ok (.iinc 6 1, 3) := by decide +kernel
theorem dX8_longest_116 : decode cX8_longest 116 = .ok (.goto (-66), 3) := by decide +kernel
theorem dX8_longest_119 : decode cX8_longest 119 = .ok (.iload_n 1, 1) := by decide +kernel
theorem dX8_longest_120 : decode cX8_longest 120 = .ok (.ifCond .ne 7, 3) := by decide +kernel
theorem dX8_longest_123 : decode cX8_longest 123 = .ok (.iload_n 3, 1) := by decide +kernel
theorem dX8_longest_124 : decode cX8_longest 124 = .ok (.goto 15, 3) := by decide +kernel
theorem dX8_longest_127 : decode cX8_longest 127 = .ok (.iload_n 1, 1) := by decide +kernel
theorem dX8_longest_128 : decode cX8_longest 128 = .ok (.iconst 1, 1) := by decide +kernel
theorem dX8_longest_129 : decode cX8_longest 129 = .ok (.if_icmp .ne 8, 3) := by decide +kernel
theorem dX8_longest_132 : decode cX8_longest 132 = .ok (.iload 4, 2) := by decide +kernel
theorem dX8_longest_134 : decode cX8_longest 134 = .ok (.goto 5, 3) := by decide +kernel
theorem dX8_longest_137 : decode cX8_longest 137 = .ok (.iload 5, 2) := by decide +kernel
theorem dX8_longest_139 : decode cX8_longest 139 = .ok (.ireturn, 1) := by decide +kernel
theorem dX8_zoom_0 : decode cX8_zoom 0 = .ok (.aload_n 0, 1) := by decide +kernel
theorem dX8_zoom_1 : decode cX8_zoom 1 = .ok (.iload_n 1, 1) := by decide +kernel
theorem dX8_zoom_2 : decode cX8_zoom 2 = .ok (.iload_n 2, 1) := by decide +kernel
theorem dX8_zoom_3 : decode cX8_zoom 3 = .ok (.invokevirtual 197, 3) := by decide +kernel
theorem dX8_zoom_6 : decode cX8_zoom 6 = .ok (.istore_n 3, 1) := by decide +kernel
theorem dX8_zoom_7 : decode cX8_zoom 7 = .ok (.iload_n 3, 1) := by decide +kernel
theorem dX8_zoom_8 : decode cX8_zoom 8 = .ok (.ifCond .lt 14, 3) := by decide +kernel
theorem dX8_zoom_11 : decode cX8_zoom 11 = .ok (.iload_n 3, 1) := by decide +kernel
theorem dX8_zoom_12 : decode cX8_zoom 12 = .ok (.aload_n 0, 1) := by decide +kernel
theorem dX8_zoom_13 : decode cX8_zoom 13 = .ok (.getfield 12, 3) := by decide +kernel
theorem dX8_zoom_16 : decode cX8_zoom 16 = .ok (.getfield 145, 3) := by decide +kernel
theorem dX8_zoom_19 : decode cX8_zoom 19 = .ok (.if_icmp .lt 5, 3) := by decide +kernel
theorem dX8_zoom_22 : decode cX8_zoom 22 = .ok (.iconst (-1), 1) := by decide +kernel
theorem dX8_zoom_23 : decode cX8_zoom 23 = .ok (.ireturn, 1) := by decide +kernel
theorem dX8_zoom_24 : decode cX8_zoom 24 = .ok (.bipush 10, 2) := by decide +kernel
theorem dX8_zoom_26 : decode cX8_zoom 26 = .ok (.istore 4, 2) := by decide +kernel
theorem dX8_zoom_28 : decode cX8_zoom 28 = .ok (.iload 4, 2) := by decide +kernel
theorem dX8_zoom_30 : decode cX8_zoom 30 = .ok (.ifCond .lt 25, 3) := by decide +kernel
theorem dX8_zoom_33 : decode cX8_zoom 33 = .ok (.iload_n 3, 1) := by decide +kernel
theorem dX8_zoom_34 : decode cX8_zoom 34 = .ok (.aload_n 0, 1) := by decide +kernel
theorem dX8_zoom_35 : decode cX8_zoom 35 = .ok (.getfield 12, 3) := by decide +kernel
theorem dX8_zoom_38 : decode cX8_zoom 38 = .ok (.iload 4, 2) := by decide +kernel
theorem dX8_zoom_40 : decode cX8_zoom 40 = .ok (.invokevirtual 200, 3) := by decide +kernel
theorem dX8_zoom_43 : decode cX8_zoom 43 = .ok (.if_icmp .ge 6, 3) := by decide +kernel
theorem dX8_zoom_46 : decode cX8_zoom 46 = .ok (.iload 4, 2) := by decide +kernel
theorem dX8_zoom_48 : decode cX8_zoom 48 = .ok (.ireturn, 1) := by decide +kernel
theorem dX8_zoom_49 : decode cX8_zoom 49 = .ok (.iinc 4 (-1), 3) := by decide +kernel
theorem dX8_zoom_52 : decode cX8_zoom 52 = .ok (.goto (-24), 3) := by decide +kernel
theorem dX8_zoom_55 : decode cX8_zoom 55 = .ok (.iconst (-1), 1) := by decide +kernel
theorem dX8_zoom_56 : decode cX8_zoom 56 = .ok (.ireturn, 1) := by decide +kernel
theorem dX8_groups_0 : decode cX8_groups 0 = .ok (.iload_n 1, 1) := by decide +kernel
theorem dX8_groups_1 : decode cX8_groups 1 = .ok (.invokestatic 203, 3) := by decide +kernel
theorem dX8_groups_4 : decode cX8_groups 4 = .ok (.ifCond .eq 25, 3) := by decide +kernel
theorem dX8_groups_7 : decode cX8_groups 7 = .ok (.aload_n 0, 1) := by decide +kernel
theorem dX8_groups_8 : decode cX8_groups 8 = .ok (.getfield 12, 3) := by decide +kernel
theorem dX8_groups_11 : decode cX8_groups 11 = .ok (.getfield 75, 3) := by decide +kernel
theorem dX8_groups_14 : decode cX8_groups 14 = .ok (.getfield 113, 3) := by decide +kernel
theorem dX8_groups_17 : decode cX8_groups 17 = .ok (.aload_n 0, 1) := by decide +kernel
theorem dX8_groups_18 : decode cX8_groups 18 = .ok (.getfield 12, 3) := by decide +kernel
theorem dX8_groups_21 : decode cX8_groups 21 = .ok (.iload_n 1, 1) := by decide +kernel
theorem dX8_groups_22 : decode cX8_groups 22 = .ok (.invokevirtual 200, 3) := by decide +kernel
theorem dX8_groups_25 : decode cX8_groups 25 = .ok (.isub, 1) := by decide +kernel
theorem dX8_groups_26 : decode cX8_groups 26 = .ok (.goto 4, 3) := by decide +kernel
theorem dX8_groups_29 : decode cX8_groups 29 = .ok (.iconst (-1), 1) := by decide +kernel
theorem dX8_groups_30 : decode cX8_groups 30 = .ok (.ireturn, 1) := by decide +kernel
theorem dX8_groupOf_0 : decode cX8_groupOf 0 = .ok (.iload_n 1, 1) := by decide +kernel
theorem dX8_groupOf_1 : decode cX8_groupOf 1 = .ok (.invokestatic 203, 3) := by decide +kernel
theorem dX8_groupOf_4 : decode cX8_groupOf 4 = .ok (.ifCond .eq 11, 3) := by decide +kernel
theorem dX8_groupOf_7 : decode cX8_groupOf 7 = .ok (.aload_n 0, 1) := by decide +kernel
theorem dX8_groupOf_8 : decode cX8_groupOf 8 = .ok (.iload_n 2, 1) := by decide +kernel
theorem dX8_groupOf_9 : decode cX8_groupOf 9 = .ok (.invokevirtual 99, 3) := by decide +kernel
theorem dX8_groupOf_12 : decode cX8_groupOf 12 = .ok (.ifCond .ne 5, 3) := by decide +kernel
theorem dX8_groupOf_15 : decode cX8_groupOf 15 = .ok (.iconst (-1), 1) := by decide +kernel
theorem dX8_groupOf_16 : decode cX8_groupOf 16 = .ok (.ireturn, 1) := by decide +kernel
theorem dX8_groupOf_17 : decode cX8_groupOf 17 = .ok (.aload_n 0, 1) := by decide +kernel
theorem dX8_groupOf_18 : decode cX8_groupOf 18 = .ok (.getfield 25, 3) := by decide +kernel
theorem dX8_groupOf_21 : decode cX8_groupOf 21 = .ok (.aload_n 0, 1) := by decide +kernel
theorem dX8_groupOf_22 : decode cX8_groupOf 22 = .ok (.getfield 12, 3) := by decide +kernel
theorem dX8_groupOf_25 : decode cX8_groupOf 25 = .ok (.iload_n 1, 1) := by decide +kernel
theorem dX8_groupOf_26 : decode cX8_groupOf 26 = .ok (.invokevirtual 206, 3) := by decide +kernel
theorem dX8_groupOf_29 : decode cX8_groupOf 29 = .ok (.aload_n 0, 1) := by decide +kernel
theorem dX8_groupOf_30 : decode cX8_groupOf 30 = .ok (.getfield 25, 3) := by decide +kernel
theorem dX8_groupOf_33 : decode cX8_groupOf 33 = .ok (.getfield 210, 3) := by decide +kernel
theorem dX8_groupOf_36 : decode cX8_groupOf 36 = .ok (.iload_n 2, 1) := by decide +kernel
theorem dX8_groupOf_37 : decode cX8_groupOf 37 = .ok (.iaload, 1) := by decide +kernel
theorem dX8_groupOf_38 : decode cX8_groupOf 38 = .ok (.ireturn, 1) := by decide +kernel
theorem dX8_group_0 : decode cX8_group 0 = .ok (.aload_n 0, 1) := by decide +kernel
theorem dX8_group_1 : decode cX8_group 1 = .ok (.iload_n 1, 1) := by decide +kernel
theorem dX8_group_2 : decode cX8_group 2 = .ok (.iload_n 2, 1) := by decide +kernel
theorem dX8_group_3 : decode cX8_group 3 = .ok (.invokevirtual 213, 3) := by decide +kernel
theorem dX8_group_6 : decode cX8_group 6 = .ok (.ifCond .ne 5, 3) := by decide +kernel
theorem dX8_group_9 : decode cX8_group 9 = .ok (.iconst (-1), 1) := by decide +kernel
theorem dX8_group_10 : decode cX8_group 10 = .ok (.ireturn, 1) := by decide +kernel
theorem dX8_group_11 : decode cX8_group 11 = .ok (.aload_n 0, 1) := by decide +kernel
theorem dX8_group_12 : decode cX8_group 12 = .ok (.getfield 12, 3) := by decide +kernel
theorem dX8_group_15 : decode cX8_group 15 = .ok (.getfield 75, 3) := by decide +kernel
theorem dX8_group_18 : decode cX8_group 18 = .ok (.astore 4, 2) := by decide +kernel
theorem dX8_group_20 : decode cX8_group 20 = .ok (.aload_n 0, 1) := by decide +kernel
theorem dX8_group_21 : decode cX8_group 21 = .ok (.getfield 25, 3) := by decide +kernel
theorem dX8_group_24 : decode cX8_group 24 = .ok (.getfield 216, 3) := by decide +kernel
theorem dX8_group_27 : decode cX8_group 27 = .ok (.iload_n 2, 1) := by decide +kernel
theorem dX8_group_28 : decode cX8_group 28 = .ok (.iaload, 1) := by decide +kernel
theorem dX8_group_29 : decode cX8_group 29 = .ok (.istore 5, 2) := by decide +kernel
theorem dX8_group_31 : decode cX8_group 31 = .ok (.iload_n 3, 1) := by decide +kernel
theorem dX8_group_32 : decode cX8_group 32 = .ok (.tableswitch 188 0 12 #[68, 74, 80, 90, 101, 112, 123, 134, 144, 154, 162, 172, 180], 68) := by decide +kernel
theorem dX8_group_100 : decode cX8_group 100 = .ok (.iload 5, 2) := by decide +kernel
theorem dX8_group_102 : decode cX8_group 102 = .ok (.invokestatic 219, 3) := by decide +kernel
theorem dX8_group_105 : decode cX8_group 105 = .ok (.ireturn, 1) := by decide +kernel
theorem dX8_group_106 : decode cX8_group 106 = .ok (.iload 5, 2) := by decide +kernel
theorem dX8_group_108 : decode cX8_group 108 = .ok (.invokestatic 158, 3) := by decide +kernel
theorem dX8_group_111 : decode cX8_group 111 = .ok (.ireturn, 1) := by decide +kernel
theorem dX8_group_112 : decode cX8_group 112 = .ok (.aload_n 0, 1) := by decide +kernel
theorem dX8_group_113 : decode cX8_group 113 = .ok (.getfield 25, 3) := by decide +kernel
theorem dX8_group_116 : decode cX8_group 116 = .ok (.getfield 224, 3) := by decide +kernel
theorem dX8_group_119 : decode cX8_group 119 = .ok (.iload_n 2, 1) := by decide +kernel
theorem dX8_group_120 : decode cX8_group 120 = .ok (.iaload, 1) := by decide +kernel
theorem dX8_group_121 : decode cX8_group 121 = .ok (.ireturn, 1) := by decide +kernel
theorem dX8_group_122 : decode cX8_group 122 = .ok (.aload 4, 2) := by decide +kernel
theorem dX8_group_124 : decode cX8_group 124 = .ok (.getfield 116, 3) := by decide +kernel
theorem dX8_group_127 : decode cX8_group 127 = .ok (.iload 5, 2) := by decide +kernel
theorem dX8_group_129 : decode cX8_group 129 = .ok (.invokestatic 227, 3) := by decide +kernel
theorem dX8_group_132 : decode cX8_group 132 = .ok (.ireturn, 1) := by decide +kernel
theorem dX8_group_133 : decode cX8_group 133 = .ok (.aload 4, 2) := by decide +kernel
theorem dX8_group_135 : decode cX8_group 135 = .ok (.getfield 116, 3) := by decide +kernel
theorem dX8_group_138 : decode cX8_group 138 = .ok (.iload 5, 2) := by decide +kernel
theorem dX8_group_140 : decode cX8_group 140 = .ok (.invokestatic 231, 3) := by decide +kernel
theorem dX8_group_143 : decode cX8_group 143 = .ok (.ireturn, 1) := by decide +kernel
theorem dX8_group_144 : decode cX8_group 144 = .ok (.aload 4, 2) := by decide +kernel
theorem dX8_group_146 : decode cX8_group 146 = .ok (.getfield 119, 3) := by decide +kernel
theorem dX8_group_149 : decode cX8_group 149 = .ok (.iload 5, 2) := by decide +kernel
theorem dX8_group_151 : decode cX8_group 151 = .ok (.invokestatic 227, 3) := by decide +kernel
theorem dX8_group_154 : decode cX8_group 154 = .ok (.ireturn, 1) := by decide +kernel
theorem dX8_group_155 : decode cX8_group 155 = .ok (.aload 4, 2) := by decide +kernel
theorem dX8_group_157 : decode cX8_group 157 = .ok (.getfield 119, 3) := by decide +kernel
theorem dX8_group_160 : decode cX8_group 160 = .ok (.iload 5, 2) := by decide +kernel
theorem dX8_group_162 : decode cX8_group 162 = .ok (.invokestatic 231, 3) := by decide +kernel
theorem dX8_group_165 : decode cX8_group 165 = .ok (.ireturn, 1) := by decide +kernel
theorem dX8_group_166 : decode cX8_group 166 = .ok (.aload_n 0, 1) := by decide +kernel
theorem dX8_group_167 : decode cX8_group 167 = .ok (.getfield 25, 3) := by decide +kernel
theorem dX8_group_170 : decode cX8_group 170 = .ok (.getfield 234, 3) := by decide +kernel
theorem dX8_group_173 : decode cX8_group 173 = .ok (.iload_n 2, 1) := by decide +kernel
theorem dX8_group_174 : decode cX8_group 174 = .ok (.iaload, 1) := by decide +kernel
theorem dX8_group_175 : decode cX8_group 175 = .ok (.ireturn, 1) := by decide +kernel
theorem dX8_group_176 : decode cX8_group 176 = .ok (.aload_n 0, 1) := by decide +kernel
theorem dX8_group_177 : decode cX8_group 177 = .ok (.getfield 25, 3) := by decide +kernel
theorem dX8_group_180 : decode cX8_group 180 = .ok (.getfield 235, 3) := by decide +kernel
theorem dX8_group_183 : decode cX8_group 183 = .ok (.iload_n 2, 1) := by decide +kernel
theorem dX8_group_184 : decode cX8_group 184 = .ok (.iaload, 1) := by decide +kernel
theorem dX8_group_185 : decode cX8_group 185 = .ok (.ireturn, 1) := by decide +kernel
theorem dX8_group_186 : decode cX8_group 186 = .ok (.aload 4, 2) := by decide +kernel
theorem dX8_group_188 : decode cX8_group 188 = .ok (.iload 5, 2) := by decide +kernel
theorem dX8_group_190 : decode cX8_group 190 = .ok (.invokevirtual 236, 3) := by decide +kernel
theorem dX8_group_193 : decode cX8_group 193 = .ok (.ireturn, 1) := by decide +kernel
theorem dX8_group_194 : decode cX8_group 194 = .ok (.aload_n 0, 1) := by decide +kernel
theorem dX8_group_195 : decode cX8_group 195 = .ok (.getfield 12, 3) := by decide +kernel
theorem dX8_group_198 : decode cX8_group 198 = .ok (.iload 5, 2) := by decide +kernel
theorem dX8_group_200 : decode cX8_group 200 = .ok (.invokevirtual 239, 3) := by decide +kernel
theorem dX8_group_203 : decode cX8_group 203 = .ok (.ireturn, 1) := by decide +kernel
theorem dX8_group_204 : decode cX8_group 204 = .ok (.aload_n 0, 1) := by decide +kernel
theorem dX8_group_205 : decode cX8_group 205 = .ok (.iload_n 1, 1) := by decide +kernel
theorem dX8_group_206 : decode cX8_group 206 = .ok (.iload 5, 2) := by decide +kernel
theorem dX8_group_208 : decode cX8_group 208 = .ok (.invokevirtual 242, 3) := by decide +kernel
theorem dX8_group_211 : decode cX8_group 211 = .ok (.ireturn, 1) := by decide +kernel
theorem dX8_group_212 : decode cX8_group 212 = .ok (.aload 4, 2) := by decide +kernel
theorem dX8_group_214 : decode cX8_group 214 = .ok (.iload 5, 2) := by decide +kernel
theorem dX8_group_216 : decode cX8_group 216 = .ok (.invokevirtual 245, 3) := by decide +kernel
theorem dX8_group_219 : decode cX8_group 219 = .ok (.ireturn, 1) := by decide +kernel
theorem dX8_group_220 : decode cX8_group 220 = .ok (.iconst (-1), 1) := by decide +kernel
theorem dX8_group_221 : decode cX8_group 221 = .ok (.ireturn, 1) := by decide +kernel
theorem dX8_member_0 : decode cX8_member 0 = .ok (.aload_n 0, 1) := by decide +kernel
theorem dX8_member_1 : decode cX8_member 1 = .ok (.iload_n 1, 1) := by decide +kernel
theorem dX8_member_2 : decode cX8_member 2 = .ok (.iload_n 2, 1) := by decide +kernel
theorem dX8_member_3 : decode cX8_member 3 = .ok (.invokevirtual 213, 3) := by decide +kernel
theorem dX8_member_6 : decode cX8_member 6 = .ok (.ifCond .eq 19, 3) := by decide +kernel
theorem dX8_member_9 : decode cX8_member 9 = .ok (.aload_n 0, 1) := by decide +kernel
theorem dX8_member_10 : decode cX8_member 10 = .ok (.getfield 25, 3) := by decide +kernel
theorem dX8_member_13 : decode cX8_member 13 = .ok (.getfield 216, 3) := by decide +kernel
theorem dX8_member_16 : decode cX8_member 16 = .ok (.iload_n 2, 1) := by decide +kernel
theorem dX8_member_17 : decode cX8_member 17 = .ok (.iaload, 1) := by decide +kernel
theorem dX8_member_18 : decode cX8_member 18 = .ok (.iload_n 3, 1) := by decide +kernel
theorem dX8_member_19 : decode cX8_member 19 = .ok (.invokestatic 248, 3) := by decide +kernel
theorem dX8_member_22 : decode cX8_member 22 = .ok (.goto 4, 3) := by decide +kernel
theorem dX8_member_25 : decode cX8_member 25 = .ok (.iconst (-1), 1) := by decide +kernel
theorem dX8_member_26 : decode cX8_member 26 = .ok (.ireturn, 1) := by decide +kernel
theorem dX8_splits_0 : decode cX8_splits 0 = .ok (.iload_n 1, 1) := by decide +kernel
theorem dX8_splits_1 : decode cX8_splits 1 = .ok (.bipush 10, 2) := by decide +kernel
theorem dX8_splits_3 : decode cX8_splits 3 = .ok (.if_icmp .eq 12, 3) := by decide +kernel
theorem dX8_splits_6 : decode cX8_splits 6 = .ok (.aload_n 0, 1) := by decide +kernel
theorem dX8_splits_7 : decode cX8_splits 7 = .ok (.iload_n 1, 1) := by decide +kernel
theorem dX8_splits_8 : decode cX8_splits 8 = .ok (.iload_n 2, 1) := by decide +kernel
theorem dX8_splits_9 : decode cX8_splits 9 = .ok (.invokevirtual 213, 3) := by decide +kernel
theorem dX8_splits_12 : decode cX8_splits 12 = .ok (.ifCond .ne 5, 3) := by decide +kernel
theorem dX8_splits_15 : decode cX8_splits 15 = .ok (.iconst (-1), 1) := by decide +kernel
theorem dX8_splits_16 : decode cX8_splits 16 = .ok (.ireturn, 1) := by decide +kernel
theorem dX8_splits_17 : decode cX8_splits 17 = .ok (.aload_n 0, 1) := by decide +kernel
theorem dX8_splits_18 : decode cX8_splits 18 = .ok (.getfield 29, 3) := by decide +kernel
theorem dX8_splits_21 : decode cX8_splits 21 = .ok (.aload_n 0, 1) := by decide +kernel
theorem dX8_splits_22 : decode cX8_splits 22 = .ok (.getfield 12, 3) := by decide +kernel
theorem dX8_splits_25 : decode cX8_splits 25 = .ok (.iload_n 1, 1) := by decide +kernel
theorem dX8_splits_26 : decode cX8_splits 26 = .ok (.iconst 1, 1) := by decide +kernel
theorem dX8_splits_27 : decode cX8_splits 27 = .ok (.iadd, 1) := by decide +kernel
theorem dX8_splits_28 : decode cX8_splits 28 = .ok (.invokevirtual 206, 3) := by decide +kernel
theorem dX8_splits_31 : decode cX8_splits 31 = .ok (.aload_n 0, 1) := by decide +kernel
theorem dX8_splits_32 : decode cX8_splits 32 = .ok (.getfield 29, 3) := by decide +kernel
theorem dX8_splits_35 : decode cX8_splits 35 = .ok (.aload_n 0, 1) := by decide +kernel
theorem dX8_splits_36 : decode cX8_splits 36 = .ok (.getfield 25, 3) := by decide +kernel
theorem dX8_splits_39 : decode cX8_splits 39 = .ok (.getfield 216, 3) := by decide +kernel
theorem dX8_splits_42 : decode cX8_splits 42 = .ok (.iload_n 2, 1) := by decide +kernel
theorem dX8_splits_43 : decode cX8_splits 43 = .ok (.iaload, 1) := by decide +kernel
theorem dX8_splits_44 : decode cX8_splits 44 = .ok (.invokevirtual 251, 3) := by decide +kernel
theorem dX8_splits_47 : decode cX8_splits 47 = .ok (.iload_n 3, 1) := by decide +kernel
theorem dX8_splits_48 : decode cX8_splits 48 = .ok (.invokestatic 248, 3) := by decide +kernel
theorem dX8_splits_51 : decode cX8_splits 51 = .ok (.ireturn, 1) := by decide +kernel
theorem dX8_window_0 : decode cX8_window 0 = .ok (.iload_n 1, 1) := by decide +kernel
theorem dX8_window_1 : decode cX8_window 1 = .ok (.invokestatic 203, 3) := by decide +kernel
theorem dX8_window_4 : decode cX8_window 4 = .ok (.ifCond .ne 5, 3) := by decide +kernel
theorem dX8_window_7 : decode cX8_window 7 = .ok (.iconst (-1), 1) := by decide +kernel
theorem dX8_window_8 : decode cX8_window 8 = .ok (.ireturn, 1) := by decide +kernel
theorem dX8_window_9 : decode cX8_window 9 = .ok (.aload_n 0, 1) := by decide +kernel
theorem dX8_window_10 : decode cX8_window 10 = .ok (.getfield 25, 3) := by decide +kernel
theorem dX8_window_13 : decode cX8_window 13 = .ok (.aload_n 0, 1) := by decide +kernel
theorem dX8_window_14 : decode cX8_window 14 = .ok (.getfield 12, 3) := by decide +kernel
theorem dX8_window_17 : decode cX8_window 17 = .ok (.iload_n 1, 1) := by decide +kernel
theorem dX8_window_18 : decode cX8_window 18 = .ok (.invokevirtual 206, 3) := by decide +kernel
theorem dX8_window_21 : decode cX8_window 21 = .ok (.aload_n 0, 1) := by decide +kernel
theorem dX8_window_22 : decode cX8_window 22 = .ok (.getfield 25, 3) := by decide +kernel
theorem dX8_window_25 : decode cX8_window 25 = .ok (.iload_n 2, 1) := by decide +kernel
theorem dX8_window_26 : decode cX8_window 26 = .ok (.iload_n 3, 1) := by decide +kernel
theorem dX8_window_27 : decode cX8_window 27 = .ok (.iload 4, 2) := by decide +kernel
theorem dX8_window_29 : decode cX8_window 29 = .ok (.iload 5, 2) := by decide +kernel
theorem dX8_window_31 : decode cX8_window 31 = .ok (.invokevirtual 254, 3) := by decide +kernel
theorem dX8_window_34 : decode cX8_window 34 = .ok (.istore 7, 2) := by decide +kernel
theorem dX8_window_36 : decode cX8_window 36 = .ok (.aload_n 0, 1) := by decide +kernel
theorem dX8_window_37 : decode cX8_window 37 = .ok (.getfield 12, 3) := by decide +kernel
theorem dX8_window_40 : decode cX8_window 40 = .ok (.getfield 75, 3) := by decide +kernel
theorem dX8_window_43 : decode cX8_window 43 = .ok (.iload_n 2, 1) := by decide +kernel
theorem dX8_window_44 : decode cX8_window 44 = .ok (.iload_n 3, 1) := by decide +kernel
theorem dX8_window_45 : decode cX8_window 45 = .ok (.iload 4, 2) := by decide +kernel
theorem dX8_window_47 : decode cX8_window 47 = .ok (.iload 5, 2) := by decide +kernel
theorem dX8_window_49 : decode cX8_window 49 = .ok (.invokevirtual 258, 3) := by decide +kernel
theorem dX8_window_52 : decode cX8_window 52 = .ok (.istore 8, 2) := by decide +kernel
theorem dX8_window_54 : decode cX8_window 54 = .ok (.iload 6, 2) := by decide +kernel
theorem dX8_window_56 : decode cX8_window 56 = .ok (.tableswitch 67 0 3 #[32, 38, 48, 54], 32) := by decide +kernel
theorem dX8_window_88 : decode cX8_window 88 = .ok (.iload 7, 2) := by decide +kernel
theorem dX8_window_90 : decode cX8_window 90 = .ok (.invokestatic 158, 3) := by decide +kernel
theorem dX8_window_93 : decode cX8_window 93 = .ok (.ireturn, 1) := by decide +kernel
theorem dX8_window_94 : decode cX8_window 94 = .ok (.aload_n 0, 1) := by decide +kernel
theorem dX8_window_95 : decode cX8_window 95 = .ok (.getfield 25, 3) := by decide +kernel
theorem dX8_window_98 : decode cX8_window 98 = .ok (.iload 7, 2) := by decide +kernel
theorem dX8_window_100 : decode cX8_window 100 = .ok (.invokevirtual 261, 3) := by decide +kernel
theorem dX8_window_103 : decode cX8_window 103 = .ok (.ireturn, 1) := by decide +kernel
theorem dX8_window_104 : decode cX8_window 104 = .ok (.iload 8, 2) := by decide +kernel
theorem dX8_window_106 : decode cX8_window 106 = .ok (.invokestatic 158, 3) := by decide +kernel
theorem dX8_window_109 : decode cX8_window 109 = .ok (.ireturn, 1) := by decide +kernel
theorem dX8_window_110 : decode cX8_window 110 = .ok (.aload_n 0, 1) := by decide +kernel
theorem dX8_window_111 : decode cX8_window 111 = .ok (.getfield 12, 3) := by decide +kernel
theorem dX8_window_114 : decode cX8_window 114 = .ok (.getfield 75, 3) := by decide +kernel
theorem dX8_window_117 : decode cX8_window 117 = .ok (.iload 8, 2) := by decide +kernel
theorem dX8_window_119 : decode cX8_window 119 = .ok (.invokevirtual 163, 3) := by decide +kernel
theorem dX8_window_122 : decode cX8_window 122 = .ok (.ireturn, 1) := by decide +kernel
theorem dX8_window_123 : decode cX8_window 123 = .ok (.iconst (-1), 1) := by decide +kernel
theorem dX8_window_124 : decode cX8_window 124 = .ok (.ireturn, 1) := by decide +kernel
theorem dX8_top_0 : decode cX8_top 0 = .ok (.iload_n 1, 1) := by decide +kernel
theorem dX8_top_1 : decode cX8_top 1 = .ok (.invokestatic 203, 3) := by decide +kernel
theorem dX8_top_4 : decode cX8_top 4 = .ok (.ifCond .ne 5, 3) := by decide +kernel
theorem dX8_top_7 : decode cX8_top 7 = .ok (.iconst (-1), 1) := by decide +kernel
theorem dX8_top_8 : decode cX8_top 8 = .ok (.ireturn, 1) := by decide +kernel
theorem dX8_top_9 : decode cX8_top 9 = .ok (.aload_n 0, 1) := by decide +kernel
theorem dX8_top_10 : decode cX8_top 10 = .ok (.getfield 25, 3) := by decide +kernel
theorem dX8_top_13 : decode cX8_top 13 = .ok (.aload_n 0, 1) := by decide +kernel
theorem dX8_top_14 : decode cX8_top 14 = .ok (.getfield 12, 3) := by decide +kernel
theorem dX8_top_17 : decode cX8_top 17 = .ok (.iload_n 1, 1) := by decide +kernel
theorem dX8_top_18 : decode cX8_top 18 = .ok (.invokevirtual 206, 3) := by decide +kernel
theorem dX8_top_21 : decode cX8_top 21 = .ok (.aload_n 0, 1) := by decide +kernel
theorem dX8_top_22 : decode cX8_top 22 = .ok (.getfield 25, 3) := by decide +kernel
theorem dX8_top_25 : decode cX8_top 25 = .ok (.aload_n 0, 1) := by decide +kernel
theorem dX8_top_26 : decode cX8_top 26 = .ok (.getfield 25, 3) := by decide +kernel
theorem dX8_top_29 : decode cX8_top 29 = .ok (.iload_n 2, 1) := by decide +kernel
theorem dX8_top_30 : decode cX8_top 30 = .ok (.iload_n 3, 1) := by decide +kernel
theorem dX8_top_31 : decode cX8_top 31 = .ok (.iload 4, 2) := by decide +kernel
theorem dX8_top_33 : decode cX8_top 33 = .ok (.iload 5, 2) := by decide +kernel
theorem dX8_top_35 : decode cX8_top 35 = .ok (.invokevirtual 254, 3) := by decide +kernel
theorem dX8_top_38 : decode cX8_top 38 = .ok (.iload 6, 2) := by decide +kernel
theorem dX8_top_40 : decode cX8_top 40 = .ok (.invokevirtual 262, 3) := by decide +kernel
theorem dX8_top_43 : decode cX8_top 43 = .ok (.ireturn, 1) := by decide +kernel
theorem dX8_filled_0 : decode cX8_filled 0 = .ok (.iload_n 1, 1) := by decide +kernel
theorem dX8_filled_1 : decode cX8_filled 1 = .ok (.invokestatic 203, 3) := by decide +kernel
theorem dX8_filled_4 : decode cX8_filled 4 = .ok (.ifCond .eq 8, 3) := by decide +kernel
theorem dX8_filled_7 : decode cX8_filled 7 = .ok (.iload_n 2, 1) := by decide +kernel
theorem dX8_filled_8 : decode cX8_filled 8 = .ok (.iconst (-1), 1) := by decide +kernel
theorem dX8_filled_9 : decode cX8_filled 9 = .ok (.if_icmp .ge 5, 3) := by decide +kernel
theorem dX8_filled_12 : decode cX8_filled 12 = .ok (.iconst (-1), 1) := by decide +kernel
theorem dX8_filled_13 : decode cX8_filled 13 = .ok (.ireturn, 1) := by decide +kernel
theorem dX8_filled_14 : decode cX8_filled 14 = .ok (.aload_n 0, 1) := by decide +kernel
theorem dX8_filled_15 : decode cX8_filled 15 = .ok (.getfield 12, 3) := by decide +kernel
theorem dX8_filled_18 : decode cX8_filled 18 = .ok (.getfield 75, 3) := by decide +kernel
theorem dX8_filled_21 : decode cX8_filled 21 = .ok (.astore_n 3, 1) := by decide +kernel
theorem dX8_filled_22 : decode cX8_filled 22 = .ok (.bipush 10, 2) := by decide +kernel
theorem dX8_filled_24 : decode cX8_filled 24 = .ok (.iload_n 1, 1) := by decide +kernel
theorem dX8_filled_25 : decode cX8_filled 25 = .ok (.isub, 1) := by decide +kernel
theorem dX8_filled_26 : decode cX8_filled 26 = .ok (.istore 4, 2) := by decide +kernel
theorem dX8_filled_28 : decode cX8_filled 28 = .ok (.iconst 0, 1) := by decide +kernel
theorem dX8_filled_29 : decode cX8_filled 29 = .ok (.istore 5, 2) := by decide +kernel
theorem dX8_filled_31 : decode cX8_filled 31 = .ok (.iload 5, 2) := by decide +kernel
theorem dX8_filled_33 : decode cX8_filled 33 = .ok (.aload_n 3, 1) := by decide +kernel
theorem dX8_filled_34 : decode cX8_filled 34 = .ok (.getfield 113, 3) := by decide +kernel
theorem dX8_filled_37 : decode cX8_filled 37 = .ok (.if_icmp .ge 41, 3) := by decide +kernel
theorem dX8_filled_40 : decode cX8_filled 40 = .ok (.aload_n 0, 1) := by decide +kernel
theorem dX8_filled_41 : decode cX8_filled 41 = .ok (.getfield 60, 3) := by decide +kernel
theorem dX8_filled_44 : decode cX8_filled 44 = .ok (.iload 5, 2) := by decide +kernel
theorem dX8_filled_46 : decode cX8_filled 46 = .ok (.sipush 1024, 3) := by decide +kernel
theorem dX8_filled_49 : decode cX8_filled 49 = .ok (.aload_n 3, 1) := by decide +kernel
theorem dX8_filled_50 : decode cX8_filled 50 = .ok (.getfield 119, 3) := by decide +kernel
theorem dX8_filled_53 : decode cX8_filled 53 = .ok (.iload 5, 2) := by decide +kernel
theorem dX8_filled_55 : decode cX8_filled 55 = .ok (.iaload, 1) := by decide +kernel
theorem dX8_filled_56 : decode cX8_filled 56 = .ok (.iload 4, 2) := by decide +kernel
theorem dX8_filled_58 : decode cX8_filled 58 = .ok (.ishr, 1) := by decide +kernel
theorem dX8_filled_59 : decode cX8_filled 59 = .ok (.imul, 1) := by decide +kernel
theorem dX8_filled_60 : decode cX8_filled 60 = .ok (.aload_n 3, 1) := by decide +kernel
theorem dX8_filled_61 : decode cX8_filled 61 = .ok (.getfield 116, 3) := by decide +kernel
theorem dX8_filled_64 : decode cX8_filled 64 = .ok (.iload 5, 2) := by decide +kernel
theorem dX8_filled_66 : decode cX8_filled 66 = .ok (.iaload, 1) := by decide +kernel
theorem dX8_filled_67 : decode cX8_filled 67 = .ok (.iload 4, 2) := by decide +kernel
theorem dX8_filled_69 : decode cX8_filled 69 = .ok (.ishr, 1) := by decide +kernel
theorem dX8_filled_70 : decode cX8_filled 70 = .ok (.iadd, 1) := by decide +kernel
theorem dX8_filled_71 : decode cX8_filled 71 = .ok (.iastore, 1) := by decide +kernel
theorem dX8_filled_72 : decode cX8_filled 72 = .ok (.iinc 5 1, 3) := by decide +kernel
theorem dX8_filled_75 : decode cX8_filled 75 = .ok (.goto (-44), 3) := by decide +kernel
theorem dX8_filled_78 : decode cX8_filled 78 = .ok (.iconst (-1), 1) := by decide +kernel
theorem dX8_filled_79 : decode cX8_filled 79 = .ok (.istore 5, 2) := by decide +kernel
theorem dX8_filled_81 : decode cX8_filled 81 = .ok (.iconst 0, 1) := by decide +kernel
theorem dX8_filled_82 : decode cX8_filled 82 = .ok (.istore 6, 2) := by decide +kernel
theorem dX8_filled_84 : decode cX8_filled 84 = .ok (.iload 6, 2) := by decide +kernel
theorem dX8_filled_86 : decode cX8_filled 86 = .ok (.aload_n 3, 1) := by decide +kernel
theorem dX8_filled_87 : decode cX8_filled 87 = .ok (.getfield 113, 3) := by decide +kernel
theorem dX8_filled_90 : decode cX8_filled 90 = .ok (.if_icmp .gt 48, 3) := by decide +kernel
theorem dX8_filled_93 : decode cX8_filled 93 = .ok (.aload_n 0, 1) := by decide +kernel
theorem dX8_filled_94 : decode cX8_filled 94 = .ok (.iload 5, 2) := by decide +kernel
theorem dX8_filled_96 : decode cX8_filled 96 = .ok (.aload_n 3, 1) := by decide +kernel
theorem dX8_filled_97 : decode cX8_filled 97 = .ok (.getfield 113, 3) := by decide +kernel
theorem dX8_filled_100 : decode cX8_filled 100 = .ok (.invokevirtual 265, 3) := by decide +kernel
theorem dX8_filled_103 : decode cX8_filled 103 = .ok (.istore 5, 2) := by decide +kernel
theorem dX8_filled_105 : decode cX8_filled 105 = .ok (.iload 5, 2) := by decide +kernel
theorem dX8_filled_107 : decode cX8_filled 107 = .ok (.iconst (-1), 1) := by decide +kernel
theorem dX8_filled_108 : decode cX8_filled 108 = .ok (.if_icmp .ne 15, 3) := by decide +kernel
theorem dX8_filled_111 : decode cX8_filled 111 = .ok (.iload_n 2, 1) := by decide +kernel
theorem dX8_filled_112 : decode cX8_filled 112 = .ok (.iconst (-1), 1) := by decide +kernel
theorem dX8_filled_113 : decode cX8_filled 113 = .ok (.if_icmp .ne 8, 3) := by decide +kernel
theorem dX8_filled_116 : decode cX8_filled 116 = .ok (.iload 6, 2) := by decide +kernel
theorem dX8_filled_118 : decode cX8_filled 118 = .ok (.goto 4, 3) := by decide +kernel
theorem dX8_filled_121 : decode cX8_filled 121 = .ok (.iconst (-1), 1) := by decide +kernel
theorem dX8_filled_122 : decode cX8_filled 122 = .ok (.ireturn, 1) := by decide +kernel
theorem dX8_filled_123 : decode cX8_filled 123 = .ok (.iload 6, 2) := by decide +kernel
theorem dX8_filled_125 : decode cX8_filled 125 = .ok (.iload_n 2, 1) := by decide +kernel
theorem dX8_filled_126 : decode cX8_filled 126 = .ok (.if_icmp .ne 6, 3) := by decide +kernel
theorem dX8_filled_129 : decode cX8_filled 129 = .ok (.iload 5, 2) := by decide +kernel
theorem dX8_filled_131 : decode cX8_filled 131 = .ok (.ireturn, 1) := by decide +kernel
theorem dX8_filled_132 : decode cX8_filled 132 = .ok (.iinc 6 1, 3) := by decide +kernel
theorem dX8_filled_135 : decode cX8_filled 135 = .ok (.goto (-51), 3) := by decide +kernel
theorem dX8_filled_138 : decode cX8_filled 138 = .ok (.iconst (-1), 1) := by decide +kernel
theorem dX8_filled_139 : decode cX8_filled 139 = .ok (.ireturn, 1) := by decide +kernel
theorem dX8_densest_0 : decode cX8_densest 0 = .ok (.aload_n 0, 1) := by decide +kernel
theorem dX8_densest_1 : decode cX8_densest 1 = .ok (.getfield 12, 3) := by decide +kernel
theorem dX8_densest_4 : decode cX8_densest 4 = .ok (.getfield 75, 3) := by decide +kernel
theorem dX8_densest_7 : decode cX8_densest 7 = .ok (.astore_n 3, 1) := by decide +kernel
theorem dX8_densest_8 : decode cX8_densest 8 = .ok (.iload_n 1, 1) := by decide +kernel
theorem dX8_densest_9 : decode cX8_densest 9 = .ok (.invokestatic 203, 3) := by decide +kernel
theorem dX8_densest_12 : decode cX8_densest 12 = .ok (.ifCond .eq 10, 3) := by decide +kernel
theorem dX8_densest_15 : decode cX8_densest 15 = .ok (.aload_n 3, 1) := by decide +kernel
theorem dX8_densest_16 : decode cX8_densest 16 = .ok (.getfield 113, 3) := by decide +kernel
theorem dX8_densest_19 : decode cX8_densest 19 = .ok (.ifCond .ne 5, 3) := by decide +kernel
theorem dX8_densest_22 : decode cX8_densest 22 = .ok (.iconst (-1), 1) := by decide +kernel
theorem dX8_densest_23 : decode cX8_densest 23 = .ok (.ireturn, 1) := by decide +kernel
theorem dX8_densest_24 : decode cX8_densest 24 = .ok (.sipush 1024, 3) := by decide +kernel
theorem dX8_densest_27 : decode cX8_densest 27 = .ok (.iload_n 1, 1) := by decide +kernel
theorem dX8_densest_28 : decode cX8_densest 28 = .ok (.ishr, 1) := by decide +kernel
theorem dX8_densest_29 : decode cX8_densest 29 = .ok (.iconst 1, 1) := by decide +kernel
theorem dX8_densest_30 : decode cX8_densest 30 = .ok (.isub, 1) := by decide +kernel
theorem dX8_densest_31 : decode cX8_densest 31 = .ok (.istore 4, 2) := by decide +kernel
theorem dX8_densest_33 : decode cX8_densest 33 = .ok (.sipush 1024, 3) := by decide +kernel
theorem dX8_densest_36 : decode cX8_densest 36 = .ok (.istore 5, 2) := by decide +kernel
theorem dX8_densest_38 : decode cX8_densest 38 = .ok (.sipush 1024, 3) := by decide +kernel
theorem dX8_densest_41 : decode cX8_densest 41 = .ok (.istore 6, 2) := by decide +kernel
theorem dX8_densest_43 : decode cX8_densest 43 = .ok (.iconst 0, 1) := by decide +kernel
theorem dX8_densest_44 : decode cX8_densest 44 = .ok (.istore 7, 2) := by decide +kernel
theorem dX8_densest_46 : decode cX8_densest 46 = .ok (.iconst 0, 1) := by decide +kernel
theorem dX8_densest_47 : decode cX8_densest 47 = .ok (.istore 8, 2) := by decide +kernel
theorem dX8_densest_49 : decode cX8_densest 49 = .ok (.iload 8, 2) := by decide +kernel
theorem dX8_densest_51 : decode cX8_densest 51 = .ok (.aload_n 3, 1) := by decide +kernel
theorem dX8_densest_52 : decode cX8_densest 52 = .ok (.getfield 113, 3) := by decide +kernel
theorem dX8_densest_55 : decode cX8_densest 55 = .ok (.if_icmp .ge 128, 3) := by decide +kernel
theorem dX8_densest_58 : decode cX8_densest 58 = .ok (.iconst 0, 1) := by decide +kernel
theorem dX8_densest_59 : decode cX8_densest 59 = .ok (.istore 9, 2) := by decide +kernel
theorem dX8_densest_61 : decode cX8_densest 61 = .ok (.iload 9, 2) := by decide +kernel
theorem dX8_densest_63 : decode cX8_densest 63 = .ok (.aload_n 3, 1) := by decide +kernel
theorem dX8_densest_64 : decode cX8_densest 64 = .ok (.getfield 113, 3) := by decide +kernel
theorem dX8_densest_67 : decode cX8_densest 67 = .ok (.if_icmp .ge 110, 3) := by decide +kernel
theorem dX8_densest_70 : decode cX8_densest 70 = .ok (.aload_n 3, 1) := by decide +kernel
theorem dX8_densest_71 : decode cX8_densest 71 = .ok (.getfield 116, 3) := by decide +kernel
theorem dX8_densest_74 : decode cX8_densest 74 = .ok (.iload 8, 2) := by decide +kernel
theorem dX8_densest_76 : decode cX8_densest 76 = .ok (.iaload, 1) := by decide +kernel
theorem dX8_densest_77 : decode cX8_densest 77 = .ok (.istore 10, 2) := by decide +kernel
theorem dX8_densest_79 : decode cX8_densest 79 = .ok (.aload_n 3, 1) := by decide +kernel
theorem dX8_densest_80 : decode cX8_densest 80 = .ok (.getfield 119, 3) := by decide +kernel
theorem dX8_densest_83 : decode cX8_densest 83 = .ok (.iload 9, 2) := by decide +kernel
theorem dX8_densest_85 : decode cX8_densest 85 = .ok (.iaload, 1) := by decide +kernel
theorem dX8_densest_86 : decode cX8_densest 86 = .ok (.istore 11, 2) := by decide +kernel
theorem dX8_densest_88 : decode cX8_densest 88 = .ok (.aload_n 3, 1) := by decide +kernel
theorem dX8_densest_89 : decode cX8_densest 89 = .ok (.aload_n 3, 1) := by decide +kernel
theorem dX8_densest_90 : decode cX8_densest 90 = .ok (.iload 10, 2) := by decide +kernel
theorem dX8_densest_92 : decode cX8_densest 92 = .ok (.iload 10, 2) := by decide +kernel
theorem dX8_densest_94 : decode cX8_densest 94 = .ok (.iload 4, 2) := by decide +kernel
theorem dX8_densest_96 : decode cX8_densest 96 = .ok (.iadd, 1) := by decide +kernel
theorem dX8_densest_97 : decode cX8_densest 97 = .ok (.iload 11, 2) := by decide +kernel
theorem dX8_densest_99 : decode cX8_densest 99 = .ok (.iload 11, 2) := by decide +kernel
theorem dX8_densest_101 : decode cX8_densest 101 = .ok (.iload 4, 2) := by decide +kernel
theorem dX8_densest_103 : decode cX8_densest 103 = .ok (.iadd, 1) := by decide +kernel
theorem dX8_densest_104 : decode cX8_densest 104 = .ok (.invokevirtual 258, 3) := by decide +kernel
theorem dX8_densest_107 : decode cX8_densest 107 = .ok (.invokevirtual 163, 3) := by decide +kernel
theorem dX8_densest_110 : decode cX8_densest 110 = .ok (.istore 12, 2) := by decide +kernel
theorem dX8_densest_112 : decode cX8_densest 112 = .ok (.iload 10, 2) := by decide +kernel
theorem dX8_densest_114 : decode cX8_densest 114 = .ok (.iload 5, 2) := by decide +kernel
theorem dX8_densest_116 : decode cX8_densest 116 = .ok (.if_icmp .lt 17, 3) := by decide +kernel
theorem dX8_densest_119 : decode cX8_densest 119 = .ok (.iload 10, 2) := by decide +kernel
theorem dX8_densest_121 : decode cX8_densest 121 = .ok (.iload 5, 2) := by decide +kernel
theorem dX8_densest_123 : decode cX8_densest 123 = .ok (.if_icmp .ne 14, 3) := by decide +kernel
theorem dX8_densest_126 : decode cX8_densest 126 = .ok (.iload 11, 2) := by decide +kernel
theorem dX8_densest_128 : decode cX8_densest 128 = .ok (.iload 6, 2) := by decide +kernel
theorem dX8_densest_130 : decode cX8_densest 130 = .ok (.if_icmp .ge 7, 3) := by decide +kernel
theorem dX8_densest_133 : decode cX8_densest 133 = .ok (.iconst 1, 1) := by decide +kernel
theorem dX8_densest_134 : decode cX8_densest 134 = .ok (.goto 4, 3) := by decide +kernel
theorem dX8_densest_137 : decode cX8_densest 137 = .ok (.iconst 0, 1) := by decide +kernel
theorem dX8_densest_138 : decode cX8_densest 138 = .ok (.istore 13, 2) := by decide +kernel
theorem dX8_densest_140 : decode cX8_densest 140 = .ok (.iload 12, 2) := by decide +kernel
theorem dX8_densest_142 : decode cX8_densest 142 = .ok (.iload 7, 2) := by decide +kernel
theorem dX8_densest_144 : decode cX8_densest 144 = .ok (.if_icmp .gt 15, 3) := by decide +kernel
theorem dX8_densest_147 : decode cX8_densest 147 = .ok (.iload 12, 2) := by decide +kernel
theorem dX8_densest_149 : decode cX8_densest 149 = .ok (.iload 7, 2) := by decide +kernel
theorem dX8_densest_151 : decode cX8_densest 151 = .ok (.if_icmp .ne 20, 3) := by decide +kernel
theorem dX8_densest_154 : decode cX8_densest 154 = .ok (.iload 13, 2) := by decide +kernel
theorem dX8_densest_156 : decode cX8_densest 156 = .ok (.ifCond .eq 15, 3) := by decide +kernel
theorem dX8_densest_159 : decode cX8_densest 159 = .ok (.iload 10, 2) := by decide +kernel
theorem dX8_densest_161 : decode cX8_densest 161 = .ok (.istore 5, 2) := by decide +kernel
theorem dX8_densest_163 : decode cX8_densest 163 = .ok (.iload 11, 2) := by decide +kernel
theorem dX8_densest_165 : decode cX8_densest 165 = .ok (.istore 6, 2) := by decide +kernel
theorem dX8_densest_167 : decode cX8_densest 167 = .ok (.iload 12, 2) := by decide +kernel
theorem dX8_densest_169 : decode cX8_densest 169 = .ok (.istore 7, 2) := by decide +kernel
theorem dX8_densest_171 : decode cX8_densest 171 = .ok (.iinc 9 1, 3) := by decide +kernel
theorem dX8_densest_174 : decode cX8_densest 174 = .ok (.goto (-113), 3) := by decide +kernel
theorem dX8_densest_177 : decode cX8_densest 177 = .ok (.iinc 8 1, 3) := by decide +kernel
theorem dX8_densest_180 : decode cX8_densest 180 = .ok (.goto (-131), 3) := by decide +kernel
theorem dX8_densest_183 : decode cX8_densest 183 = .ok (.iload_n 2, 1) := by decide +kernel
theorem dX8_densest_184 : decode cX8_densest 184 = .ok (.tableswitch 63 0 3 #[32, 35, 38, 41], 32) := by decide +kernel
theorem dX8_densest_216 : decode cX8_densest 216 = .ok (.iload 5, 2) := by decide +kernel
theorem dX8_densest_218 : decode cX8_densest 218 = .ok (.ireturn, 1) := by decide +kernel
theorem dX8_densest_219 : decode cX8_densest 219 = .ok (.iload 6, 2) := by decide +kernel
theorem dX8_densest_221 : decode cX8_densest 221 = .ok (.ireturn, 1) := by decide +kernel
theorem dX8_densest_222 : decode cX8_densest 222 = .ok (.iload 7, 2) := by decide +kernel
theorem dX8_densest_224 : decode cX8_densest 224 = .ok (.ireturn, 1) := by decide +kernel
theorem dX8_densest_225 : decode cX8_densest 225 = .ok (.aload_n 3, 1) := by decide +kernel
theorem dX8_densest_226 : decode cX8_densest 226 = .ok (.iload 5, 2) := by decide +kernel
theorem dX8_densest_228 : decode cX8_densest 228 = .ok (.iload 5, 2) := by decide +kernel
theorem dX8_densest_230 : decode cX8_densest 230 = .ok (.iload 4, 2) := by decide +kernel
theorem dX8_densest_232 : decode cX8_densest 232 = .ok (.iadd, 1) := by decide +kernel
theorem dX8_densest_233 : decode cX8_densest 233 = .ok (.iload 6, 2) := by decide +kernel
theorem dX8_densest_235 : decode cX8_densest 235 = .ok (.iload 6, 2) := by decide +kernel
theorem dX8_densest_237 : decode cX8_densest 237 = .ok (.iload 4, 2) := by decide +kernel
theorem dX8_densest_239 : decode cX8_densest 239 = .ok (.iadd, 1) := by decide +kernel
theorem dX8_densest_240 : decode cX8_densest 240 = .ok (.invokevirtual 258, 3) := by decide +kernel
theorem dX8_densest_243 : decode cX8_densest 243 = .ok (.invokestatic 158, 3) := by decide +kernel
theorem dX8_densest_246 : decode cX8_densest 246 = .ok (.ireturn, 1) := by decide +kernel
theorem dX8_densest_247 : decode cX8_densest 247 = .ok (.iconst (-1), 1) := by decide +kernel
theorem dX8_densest_248 : decode cX8_densest 248 = .ok (.ireturn, 1) := by decide +kernel
theorem dX8_cover_0 : decode cX8_cover 0 = .ok (.aload_n 0, 1) := by decide +kernel
theorem dX8_cover_1 : decode cX8_cover 1 = .ok (.iload_n 1, 1) := by decide +kernel
theorem dX8_cover_2 : decode cX8_cover 2 = .ok (.iload_n 2, 1) := by decide +kernel
theorem dX8_cover_3 : decode cX8_cover 3 = .ok (.invokevirtual 213, 3) := by decide +kernel
theorem dX8_cover_6 : decode cX8_cover 6 = .ok (.ifCond .ne 5, 3) := by decide +kernel
theorem dX8_cover_9 : decode cX8_cover 9 = .ok (.iconst (-1), 1) := by decide +kernel
theorem dX8_cover_10 : decode cX8_cover 10 = .ok (.ireturn, 1) := by decide +kernel
theorem dX8_cover_11 : decode cX8_cover 11 = .ok (.aload_n 0, 1) := by decide +kernel
theorem dX8_cover_12 : decode cX8_cover 12 = .ok (.getfield 25, 3) := by decide +kernel
theorem dX8_cover_15 : decode cX8_cover 15 = .ok (.getfield 216, 3) := by decide +kernel
theorem dX8_cover_18 : decode cX8_cover 18 = .ok (.iload_n 2, 1) := by decide +kernel
theorem dX8_cover_19 : decode cX8_cover 19 = .ok (.iaload, 1) := by decide +kernel
theorem dX8_cover_20 : decode cX8_cover 20 = .ok (.istore_n 3, 1) := by decide +kernel
theorem dX8_cover_21 : decode cX8_cover 21 = .ok (.iconst 0, 1) := by decide +kernel
theorem dX8_cover_22 : decode cX8_cover 22 = .ok (.istore 4, 2) := by decide +kernel
theorem dX8_cover_24 : decode cX8_cover 24 = .ok (.iconst 0, 1) := by decide +kernel
theorem dX8_cover_25 : decode cX8_cover 25 = .ok (.istore 5, 2) := by decide +kernel
theorem dX8_cover_27 : decode cX8_cover 27 = .ok (.iload 5, 2) := by decide +kernel
theorem dX8_cover_29 : decode cX8_cover 29 = .ok (.aload_n 0, 1) := by decide +kernel
theorem dX8_cover_30 : decode cX8_cover 30 = .ok (.getfield 12, 3) := by decide +kernel
theorem dX8_cover_33 : decode cX8_cover 33 = .ok (.getfield 75, 3) := by decide +kernel
theorem dX8_cover_36 : decode cX8_cover 36 = .ok (.getfield 113, 3) := by decide +kernel
theorem dX8_cover_39 : decode cX8_cover 39 = .ok (.if_icmp .ge 36, 3) := by decide +kernel
theorem dX8_cover_42 : decode cX8_cover 42 = .ok (.iload_n 3, 1) := by decide +kernel
theorem dX8_cover_43 : decode cX8_cover 43 = .ok (.iload 5, 2) := by decide +kernel
theorem dX8_cover_45 : decode cX8_cover 45 = .ok (.invokestatic 268, 3) := by decide +kernel
theorem dX8_cover_48 : decode cX8_cover 48 = .ok (.ifCond .eq 21, 3) := by decide +kernel
theorem dX8_cover_51 : decode cX8_cover 51 = .ok (.aload_n 0, 1) := by decide +kernel
theorem dX8_cover_52 : decode cX8_cover 52 = .ok (.iload 5, 2) := by decide +kernel
theorem dX8_cover_54 : decode cX8_cover 54 = .ok (.iload_n 3, 1) := by decide +kernel
theorem dX8_cover_55 : decode cX8_cover 55 = .ok (.invokevirtual 271, 3) := by decide +kernel
theorem dX8_cover_58 : decode cX8_cover 58 = .ok (.invokestatic 219, 3) := by decide +kernel
theorem dX8_cover_61 : decode cX8_cover 61 = .ok (.iload 5, 2) := by decide +kernel
theorem dX8_cover_63 : decode cX8_cover 63 = .ok (.if_icmp .ne 6, 3) := by decide +kernel
theorem dX8_cover_66 : decode cX8_cover 66 = .ok (.iinc 4 1, 3) := by decide +kernel
theorem dX8_cover_69 : decode cX8_cover 69 = .ok (.iinc 5 1, 3) := by decide +kernel
theorem dX8_cover_72 : decode cX8_cover 72 = .ok (.goto (-45), 3) := by decide +kernel
theorem dX8_cover_75 : decode cX8_cover 75 = .ok (.iload 4, 2) := by decide +kernel
theorem dX8_cover_77 : decode cX8_cover 77 = .ok (.ireturn, 1) := by decide +kernel
theorem dX8_outline_0 : decode cX8_outline 0 = .ok (.aload_n 0, 1) := by decide +kernel
theorem dX8_outline_1 : decode cX8_outline 1 = .ok (.iload_n 1, 1) := by decide +kernel
theorem dX8_outline_2 : decode cX8_outline 2 = .ok (.iload_n 2, 1) := by decide +kernel
theorem dX8_outline_3 : decode cX8_outline 3 = .ok (.invokevirtual 213, 3) := by decide +kernel
theorem dX8_outline_6 : decode cX8_outline 6 = .ok (.ifCond .ne 5, 3) := by decide +kernel
theorem dX8_outline_9 : decode cX8_outline 9 = .ok (.iconst (-1), 1) := by decide +kernel
theorem dX8_outline_10 : decode cX8_outline 10 = .ok (.ireturn, 1) := by decide +kernel
theorem dX8_outline_11 : decode cX8_outline 11 = .ok (.aload_n 0, 1) := by decide +kernel
theorem dX8_outline_12 : decode cX8_outline 12 = .ok (.getfield 42, 3) := by decide +kernel
theorem dX8_outline_15 : decode cX8_outline 15 = .ok (.aload_n 0, 1) := by decide +kernel
theorem dX8_outline_16 : decode cX8_outline 16 = .ok (.getfield 12, 3) := by decide +kernel
theorem dX8_outline_19 : decode cX8_outline 19 = .ok (.getfield 75, 3) := by decide +kernel
theorem dX8_outline_22 : decode cX8_outline 22 = .ok (.aload_n 0, 1) := by decide +kernel
theorem dX8_outline_23 : decode cX8_outline 23 = .ok (.getfield 25, 3) := by decide +kernel
theorem dX8_outline_26 : decode cX8_outline 26 = .ok (.getfield 216, 3) := by decide +kernel
theorem dX8_outline_29 : decode cX8_outline 29 = .ok (.iload_n 2, 1) := by decide +kernel
theorem dX8_outline_30 : decode cX8_outline 30 = .ok (.iaload, 1) := by decide +kernel
theorem dX8_outline_31 : decode cX8_outline 31 = .ok (.invokevirtual 274, 3) := by decide +kernel
theorem dX8_outline_34 : decode cX8_outline 34 = .ok (.iload_n 3, 1) := by decide +kernel
theorem dX8_outline_35 : decode cX8_outline 35 = .ok (.iconst (-1), 1) := by decide +kernel
theorem dX8_outline_36 : decode cX8_outline 36 = .ok (.if_icmp .ne 11, 3) := by decide +kernel
theorem dX8_outline_39 : decode cX8_outline 39 = .ok (.aload_n 0, 1) := by decide +kernel
theorem dX8_outline_40 : decode cX8_outline 40 = .ok (.getfield 42, 3) := by decide +kernel
theorem dX8_outline_43 : decode cX8_outline 43 = .ok (.getfield 277, 3) := by decide +kernel
theorem dX8_outline_46 : decode cX8_outline 46 = .ok (.ireturn, 1) := by decide +kernel
theorem dX8_outline_47 : decode cX8_outline 47 = .ok (.iload_n 3, 1) := by decide +kernel
theorem dX8_outline_48 : decode cX8_outline 48 = .ok (.ifCond .lt 26, 3) := by decide +kernel
theorem dX8_outline_51 : decode cX8_outline 51 = .ok (.iload_n 3, 1) := by decide +kernel
theorem dX8_outline_52 : decode cX8_outline 52 = .ok (.aload_n 0, 1) := by decide +kernel
theorem dX8_outline_53 : decode cX8_outline 53 = .ok (.getfield 42, 3) := by decide +kernel
theorem dX8_outline_56 : decode cX8_outline 56 = .ok (.getfield 277, 3) := by decide +kernel
theorem dX8_outline_59 : decode cX8_outline 59 = .ok (.if_icmp .ge 15, 3) := by decide +kernel
theorem dX8_outline_62 : decode cX8_outline 62 = .ok (.aload_n 0, 1) := by decide +kernel
theorem dX8_outline_63 : decode cX8_outline 63 = .ok (.getfield 42, 3) := by decide +kernel
theorem dX8_outline_66 : decode cX8_outline 66 = .ok (.getfield 278, 3) := by decide +kernel
theorem dX8_outline_69 : decode cX8_outline 69 = .ok (.iload_n 3, 1) := by decide +kernel
theorem dX8_outline_70 : decode cX8_outline 70 = .ok (.iaload, 1) := by decide +kernel
theorem dX8_outline_71 : decode cX8_outline 71 = .ok (.goto 4, 3) := by decide +kernel
theorem dX8_outline_74 : decode cX8_outline 74 = .ok (.iconst (-1), 1) := by decide +kernel
theorem dX8_outline_75 : decode cX8_outline 75 = .ok (.ireturn, 1) := by decide +kernel
theorem dX8_area_0 : decode cX8_area 0 = .ok (.aload_n 0, 1) := by decide +kernel
theorem dX8_area_1 : decode cX8_area 1 = .ok (.iload_n 1, 1) := by decide +kernel
theorem dX8_area_2 : decode cX8_area 2 = .ok (.iload_n 2, 1) := by decide +kernel
theorem dX8_area_3 : decode cX8_area 3 = .ok (.invokevirtual 213, 3) := by decide +kernel
theorem dX8_area_6 : decode cX8_area 6 = .ok (.ifCond .ne 5, 3) := by decide +kernel
theorem dX8_area_9 : decode cX8_area 9 = .ok (.iconst (-1), 1) := by decide +kernel
theorem dX8_area_10 : decode cX8_area 10 = .ok (.ireturn, 1) := by decide +kernel
theorem dX8_area_11 : decode cX8_area 11 = .ok (.aload_n 0, 1) := by decide +kernel
theorem dX8_area_12 : decode cX8_area 12 = .ok (.getfield 42, 3) := by decide +kernel
theorem dX8_area_15 : decode cX8_area 15 = .ok (.aload_n 0, 1) := by decide +kernel
theorem dX8_area_16 : decode cX8_area 16 = .ok (.getfield 12, 3) := by decide +kernel
theorem dX8_area_19 : decode cX8_area 19 = .ok (.getfield 75, 3) := by decide +kernel
theorem dX8_area_22 : decode cX8_area 22 = .ok (.aload_n 0, 1) := by decide +kernel
theorem dX8_area_23 : decode cX8_area 23 = .ok (.getfield 25, 3) := by decide +kernel
theorem dX8_area_26 : decode cX8_area 26 = .ok (.getfield 216, 3) := by decide +kernel
theorem dX8_area_29 : decode cX8_area 29 = .ok (.iload_n 2, 1) := by decide +kernel
theorem dX8_area_30 : decode cX8_area 30 = .ok (.iaload, 1) := by decide +kernel
theorem dX8_area_31 : decode cX8_area 31 = .ok (.invokevirtual 274, 3) := by decide +kernel
theorem dX8_area_34 : decode cX8_area 34 = .ok (.aload_n 0, 1) := by decide +kernel
theorem dX8_area_35 : decode cX8_area 35 = .ok (.getfield 42, 3) := by decide +kernel
theorem dX8_area_38 : decode cX8_area 38 = .ok (.aload_n 0, 1) := by decide +kernel
theorem dX8_area_39 : decode cX8_area 39 = .ok (.getfield 12, 3) := by decide +kernel
theorem dX8_area_42 : decode cX8_area 42 = .ok (.getfield 75, 3) := by decide +kernel
theorem dX8_area_45 : decode cX8_area 45 = .ok (.invokevirtual 279, 3) := by decide +kernel
theorem dX8_area_48 : decode cX8_area 48 = .ok (.ireturn, 1) := by decide +kernel
theorem dX8_drift_0 : decode cX8_drift 0 = .ok (.iload_n 1, 1) := by decide +kernel
theorem dX8_drift_1 : decode cX8_drift 1 = .ok (.ifCond .lt 9, 3) := by decide +kernel
theorem dX8_drift_4 : decode cX8_drift 4 = .ok (.iload_n 1, 1) := by decide +kernel
theorem dX8_drift_5 : decode cX8_drift 5 = .ok (.bipush 10, 2) := by decide +kernel
theorem dX8_drift_7 : decode cX8_drift 7 = .ok (.if_icmp .lt 5, 3) := by decide +kernel
theorem dX8_drift_10 : decode cX8_drift 10 = .ok (.iconst (-1), 1) := by decide +kernel
theorem dX8_drift_11 : decode cX8_drift 11 = .ok (.ireturn, 1) := by decide +kernel
theorem dX8_drift_12 : decode cX8_drift 12 = .ok (.aload_n 0, 1) := by decide +kernel
theorem dX8_drift_13 : decode cX8_drift 13 = .ok (.getfield 25, 3) := by decide +kernel
theorem dX8_drift_16 : decode cX8_drift 16 = .ok (.aload_n 0, 1) := by decide +kernel
theorem dX8_drift_17 : decode cX8_drift 17 = .ok (.getfield 12, 3) := by decide +kernel
theorem dX8_drift_20 : decode cX8_drift 20 = .ok (.iload_n 1, 1) := by decide +kernel
theorem dX8_drift_21 : decode cX8_drift 21 = .ok (.invokevirtual 206, 3) := by decide +kernel
theorem dX8_drift_24 : decode cX8_drift 24 = .ok (.aload_n 0, 1) := by decide +kernel
theorem dX8_drift_25 : decode cX8_drift 25 = .ok (.getfield 29, 3) := by decide +kernel
theorem dX8_drift_28 : decode cX8_drift 28 = .ok (.aload_n 0, 1) := by decide +kernel
theorem dX8_drift_29 : decode cX8_drift 29 = .ok (.getfield 12, 3) := by decide +kernel
theorem dX8_drift_32 : decode cX8_drift 32 = .ok (.iload_n 1, 1) := by decide +kernel
theorem dX8_drift_33 : decode cX8_drift 33 = .ok (.iconst 1, 1) := by decide +kernel
theorem dX8_drift_34 : decode cX8_drift 34 = .ok (.iadd, 1) := by decide +kernel
theorem dX8_drift_35 : decode cX8_drift 35 = .ok (.invokevirtual 206, 3) := by decide +kernel
theorem dX8_drift_38 : decode cX8_drift 38 = .ok (.iconst 0, 1) := by decide +kernel
theorem dX8_drift_39 : decode cX8_drift 39 = .ok (.istore_n 2, 1) := by decide +kernel
theorem dX8_drift_40 : decode cX8_drift 40 = .ok (.iconst 0, 1) := by decide +kernel
theorem dX8_drift_41 : decode cX8_drift 41 = .ok (.istore_n 3, 1) := by decide +kernel
theorem dX8_drift_42 : decode cX8_drift 42 = .ok (.iload_n 3, 1) := by decide +kernel
theorem dX8_drift_43 : decode cX8_drift 43 = .ok (.aload_n 0, 1) := by decide +kernel
theorem dX8_drift_44 : decode cX8_drift 44 = .ok (.getfield 29, 3) := by decide +kernel
theorem dX8_drift_47 : decode cX8_drift 47 = .ok (.getfield 283, 3) := by decide +kernel
theorem dX8_drift_50 : decode cX8_drift 50 = .ok (.if_icmp .ge 79, 3) := by decide +kernel
theorem dX8_drift_53 : decode cX8_drift 53 = .ok (.aload_n 0, 1) := by decide +kernel
theorem dX8_drift_54 : decode cX8_drift 54 = .ok (.getfield 25, 3) := by decide +kernel
theorem dX8_drift_57 : decode cX8_drift 57 = .ok (.aload_n 0, 1) := by decide +kernel
theorem dX8_drift_58 : decode cX8_drift 58 = .ok (.getfield 29, 3) := by decide +kernel
theorem dX8_drift_61 : decode cX8_drift 61 = .ok (.getfield 216, 3) := by decide +kernel
theorem dX8_drift_64 : decode cX8_drift 64 = .ok (.iload_n 3, 1) := by decide +kernel
theorem dX8_drift_65 : decode cX8_drift 65 = .ok (.iaload, 1) := by decide +kernel
theorem dX8_drift_66 : decode cX8_drift 66 = .ok (.invokevirtual 284, 3) := by decide +kernel
theorem dX8_drift_69 : decode cX8_drift 69 = .ok (.istore 4, 2) := by decide +kernel
theorem dX8_drift_71 : decode cX8_drift 71 = .ok (.iload 4, 2) := by decide +kernel
theorem dX8_drift_73 : decode cX8_drift 73 = .ok (.iconst (-1), 1) := by decide +kernel
theorem dX8_drift_74 : decode cX8_drift 74 = .ok (.if_icmp .eq 49, 3) := by decide +kernel
theorem dX8_drift_77 : decode cX8_drift 77 = .ok (.iload_n 2, 1) := by decide +kernel
theorem dX8_drift_78 : decode cX8_drift 78 = .ok (.aload_n 0, 1) := by decide +kernel
theorem dX8_drift_79 : decode cX8_drift 79 = .ok (.getfield 29, 3) := by decide +kernel
theorem dX8_drift_82 : decode cX8_drift 82 = .ok (.getfield 234, 3) := by decide +kernel
theorem dX8_drift_85 : decode cX8_drift 85 = .ok (.iload_n 3, 1) := by decide +kernel
theorem dX8_drift_86 : decode cX8_drift 86 = .ok (.iaload, 1) := by decide +kernel
theorem dX8_drift_87 : decode cX8_drift 87 = .ok (.aload_n 0, 1) := by decide +kernel
theorem dX8_drift_88 : decode cX8_drift 88 = .ok (.getfield 25, 3) := by decide +kernel
theorem dX8_drift_91 : decode cX8_drift 91 = .ok (.getfield 234, 3) := by decide +kernel
theorem dX8_drift_94 : decode cX8_drift 94 = .ok (.iload 4, 2) := by decide +kernel
theorem dX8_drift_96 : decode cX8_drift 96 = .ok (.iaload, 1) := by decide +kernel
theorem dX8_drift_97 : decode cX8_drift 97 = .ok (.isub, 1) := by decide +kernel
theorem dX8_drift_98 : decode cX8_drift 98 = .ok (.aload_n 0, 1) := by decide +kernel
theorem dX8_drift_99 : decode cX8_drift 99 = .ok (.getfield 29, 3) := by decide +kernel
theorem dX8_drift_102 : decode cX8_drift 102 = .ok (.getfield 235, 3) := by decide +kernel
theorem dX8_drift_105 : decode cX8_drift 105 = .ok (.iload_n 3, 1) := by decide +kernel
theorem dX8_drift_106 : decode cX8_drift 106 = .ok (.iaload, 1) := by decide +kernel
theorem dX8_drift_107 : decode cX8_drift 107 = .ok (.aload_n 0, 1) := by decide +kernel
theorem dX8_drift_108 : decode cX8_drift 108 = .ok (.getfield 25, 3) := by decide +kernel
theorem dX8_drift_111 : decode cX8_drift 111 = .ok (.getfield 235, 3) := by decide +kernel
theorem dX8_drift_114 : decode cX8_drift 114 = .ok (.iload 4, 2) := by decide +kernel
theorem dX8_drift_116 : decode cX8_drift 116 = .ok (.iaload, 1) := by decide +kernel
theorem dX8_drift_117 : decode cX8_drift 117 = .ok (.isub, 1) := by decide +kernel
theorem dX8_drift_118 : decode cX8_drift 118 = .ok (.invokestatic 287, 3) := by decide +kernel
theorem dX8_drift_121 : decode cX8_drift 121 = .ok (.iadd, 1) := by decide +kernel
theorem dX8_drift_122 : decode cX8_drift 122 = .ok (.istore_n 2, 1) := by decide +kernel
theorem dX8_drift_123 : decode cX8_drift 123 = .ok (.iinc 3 1, 3) := by decide +kernel
theorem dX8_drift_126 : decode cX8_drift 126 = .ok (.goto (-84), 3) := by decide +kernel
theorem dX8_drift_129 : decode cX8_drift 129 = .ok (.iload_n 2, 1) := by decide +kernel
theorem dX8_drift_130 : decode cX8_drift 130 = .ok (.ireturn, 1) := by decide +kernel
theorem dX8_tile_0 : decode cX8_tile 0 = .ok (.iload_n 1, 1) := by decide +kernel
theorem dX8_tile_1 : decode cX8_tile 1 = .ok (.iload_n 2, 1) := by decide +kernel
theorem dX8_tile_2 : decode cX8_tile 2 = .ok (.invokestatic 290, 3) := by decide +kernel
theorem dX8_tile_5 : decode cX8_tile 5 = .ok (.ifCond .eq 11, 3) := by decide +kernel
theorem dX8_tile_8 : decode cX8_tile 8 = .ok (.iload_n 1, 1) := by decide +kernel
theorem dX8_tile_9 : decode cX8_tile 9 = .ok (.iload_n 3, 1) := by decide +kernel
theorem dX8_tile_10 : decode cX8_tile 10 = .ok (.invokestatic 290, 3) := by decide +kernel
theorem dX8_tile_13 : decode cX8_tile 13 = .ok (.ifCond .ne 5, 3) := by decide +kernel
theorem dX8_tile_16 : decode cX8_tile 16 = .ok (.iconst (-1), 1) := by decide +kernel
theorem dX8_tile_17 : decode cX8_tile 17 = .ok (.ireturn, 1) := by decide +kernel
theorem dX8_tile_18 : decode cX8_tile 18 = .ok (.aload_n 0, 1) := by decide +kernel
theorem dX8_tile_19 : decode cX8_tile 19 = .ok (.iload_n 1, 1) := by decide +kernel
theorem dX8_tile_20 : decode cX8_tile 20 = .ok (.iload_n 2, 1) := by decide +kernel
theorem dX8_tile_21 : decode cX8_tile 21 = .ok (.iload_n 3, 1) := by decide +kernel
theorem dX8_tile_22 : decode cX8_tile 22 = .ok (.invokevirtual 293, 3) := by decide +kernel
theorem dX8_tile_25 : decode cX8_tile 25 = .ok (.istore 5, 2) := by decide +kernel
theorem dX8_tile_27 : decode cX8_tile 27 = .ok (.iload 4, 2) := by decide +kernel
theorem dX8_tile_29 : decode cX8_tile 29 = .ok (.tableswitch 128 0 3 #[31, 37, 50, 110], 31) := by decide +kernel
theorem dX8_tile_60 : decode cX8_tile 60 = .ok (.iload 5, 2) := by decide +kernel
theorem dX8_tile_62 : decode cX8_tile 62 = .ok (.invokestatic 158, 3) := by decide +kernel
theorem dX8_tile_65 : decode cX8_tile 65 = .ok (.ireturn, 1) := by decide +kernel
theorem dX8_tile_66 : decode cX8_tile 66 = .ok (.aload_n 0, 1) := by decide +kernel
theorem dX8_tile_67 : decode cX8_tile 67 = .ok (.getfield 12, 3) := by decide +kernel
theorem dX8_tile_70 : decode cX8_tile 70 = .ok (.getfield 75, 3) := by decide +kernel
theorem dX8_tile_73 : decode cX8_tile 73 = .ok (.iload 5, 2) := by decide +kernel
theorem dX8_tile_75 : decode cX8_tile 75 = .ok (.invokevirtual 163, 3) := by decide +kernel
theorem dX8_tile_78 : decode cX8_tile 78 = .ok (.ireturn, 1) := by decide +kernel
theorem dX8_tile_79 : decode cX8_tile 79 = .ok (.sipush 1024, 3) := by decide +kernel
theorem dX8_tile_82 : decode cX8_tile 82 = .ok (.iload_n 1, 1) := by decide +kernel
theorem dX8_tile_83 : decode cX8_tile 83 = .ok (.ishr, 1) := by decide +kernel
theorem dX8_tile_84 : decode cX8_tile 84 = .ok (.istore 6, 2) := by decide +kernel
theorem dX8_tile_86 : decode cX8_tile 86 = .ok (.iload_n 2, 1) := by decide +kernel
theorem dX8_tile_87 : decode cX8_tile 87 = .ok (.iload 6, 2) := by decide +kernel
theorem dX8_tile_89 : decode cX8_tile 89 = .ok (.imul, 1) := by decide +kernel
theorem dX8_tile_90 : decode cX8_tile 90 = .ok (.istore 7, 2) := by decide +kernel
theorem dX8_tile_92 : decode cX8_tile 92 = .ok (.iload_n 3, 1) := by decide +kernel
theorem dX8_tile_93 : decode cX8_tile 93 = .ok (.iload 6, 2) := by decide +kernel
theorem dX8_tile_95 : decode cX8_tile 95 = .ok (.imul, 1) := by decide +kernel
theorem dX8_tile_96 : decode cX8_tile 96 = .ok (.istore 8, 2) := by decide +kernel
theorem dX8_tile_98 : decode cX8_tile 98 = .ok (.aload_n 0, 1) := by decide +kernel
theorem dX8_tile_99 : decode cX8_tile 99 = .ok (.getfield 25, 3) := by decide +kernel
theorem dX8_tile_102 : decode cX8_tile 102 = .ok (.aload_n 0, 1) := by decide +kernel
theorem dX8_tile_103 : decode cX8_tile 103 = .ok (.getfield 12, 3) := by decide +kernel
theorem dX8_tile_106 : decode cX8_tile 106 = .ok (.iload_n 1, 1) := by decide +kernel
theorem dX8_tile_107 : decode cX8_tile 107 = .ok (.invokevirtual 206, 3) := by decide +kernel
theorem dX8_tile_110 : decode cX8_tile 110 = .ok (.aload_n 0, 1) := by decide +kernel
theorem dX8_tile_111 : decode cX8_tile 111 = .ok (.getfield 25, 3) := by decide +kernel
theorem dX8_tile_114 : decode cX8_tile 114 = .ok (.iload 7, 2) := by decide +kernel
theorem dX8_tile_116 : decode cX8_tile 116 = .ok (.iload 7, 2) := by decide +kernel
theorem dX8_tile_118 : decode cX8_tile 118 = .ok (.iload 6, 2) := by decide +kernel
theorem dX8_tile_120 : decode cX8_tile 120 = .ok (.iadd, 1) := by decide +kernel
theorem dX8_tile_121 : decode cX8_tile 121 = .ok (.iconst 1, 1) := by decide +kernel
theorem dX8_tile_122 : decode cX8_tile 122 = .ok (.isub, 1) := by decide +kernel
theorem dX8_tile_123 : decode cX8_tile 123 = .ok (.iload 8, 2) := by decide +kernel
theorem dX8_tile_125 : decode cX8_tile 125 = .ok (.iload 8, 2) := by decide +kernel
theorem dX8_tile_127 : decode cX8_tile 127 = .ok (.iload 6, 2) := by decide +kernel
theorem dX8_tile_129 : decode cX8_tile 129 = .ok (.iadd, 1) := by decide +kernel
theorem dX8_tile_130 : decode cX8_tile 130 = .ok (.iconst 1, 1) := by decide +kernel
theorem dX8_tile_131 : decode cX8_tile 131 = .ok (.isub, 1) := by decide +kernel
theorem dX8_tile_132 : decode cX8_tile 132 = .ok (.invokevirtual 254, 3) := by decide +kernel
theorem dX8_tile_135 : decode cX8_tile 135 = .ok (.invokestatic 158, 3) := by decide +kernel
theorem dX8_tile_138 : decode cX8_tile 138 = .ok (.ireturn, 1) := by decide +kernel
theorem dX8_tile_139 : decode cX8_tile 139 = .ok (.iload_n 1, 1) := by decide +kernel
theorem dX8_tile_140 : decode cX8_tile 140 = .ok (.bipush 10, 2) := by decide +kernel
theorem dX8_tile_142 : decode cX8_tile 142 = .ok (.if_icmp .ne 7, 3) := by decide +kernel
theorem dX8_tile_145 : decode cX8_tile 145 = .ok (.iconst 0, 1) := by decide +kernel
theorem dX8_tile_146 : decode cX8_tile 146 = .ok (.goto 10, 3) := by decide +kernel
theorem dX8_tile_149 : decode cX8_tile 149 = .ok (.aload_n 0, 1) := by decide +kernel
theorem dX8_tile_150 : decode cX8_tile 150 = .ok (.iload_n 1, 1) := by decide +kernel
theorem dX8_tile_151 : decode cX8_tile 151 = .ok (.iload_n 2, 1) := by decide +kernel
theorem dX8_tile_152 : decode cX8_tile 152 = .ok (.iload_n 3, 1) := by decide +kernel
theorem dX8_tile_153 : decode cX8_tile 153 = .ok (.invokevirtual 296, 3) := by decide +kernel
theorem dX8_tile_156 : decode cX8_tile 156 = .ok (.ireturn, 1) := by decide +kernel
theorem dX8_tile_157 : decode cX8_tile 157 = .ok (.iconst (-1), 1) := by decide +kernel
theorem dX8_tile_158 : decode cX8_tile 158 = .ok (.ireturn, 1) := by decide +kernel
theorem dX8_part_0 : decode cX8_part 0 = .ok (.iload_n 1, 1) := by decide +kernel
theorem dX8_part_1 : decode cX8_part 1 = .ok (.iconst 1, 1) := by decide +kernel
theorem dX8_part_2 : decode cX8_part 2 = .ok (.if_icmp .lt 25, 3) := by decide +kernel
theorem dX8_part_5 : decode cX8_part 5 = .ok (.iload_n 1, 1) := by decide +kernel
theorem dX8_part_6 : decode cX8_part 6 = .ok (.aload_n 0, 1) := by decide +kernel
theorem dX8_part_7 : decode cX8_part 7 = .ok (.getfield 12, 3) := by decide +kernel
theorem dX8_part_10 : decode cX8_part 10 = .ok (.getfield 75, 3) := by decide +kernel
theorem dX8_part_13 : decode cX8_part 13 = .ok (.getfield 113, 3) := by decide +kernel
theorem dX8_part_16 : decode cX8_part 16 = .ok (.if_icmp .gt 11, 3) := by decide +kernel
theorem dX8_part_19 : decode cX8_part 19 = .ok (.aload_n 0, 1) := by decide +kernel
theorem dX8_part_20 : decode cX8_part 20 = .ok (.iload_n 2, 1) := by decide +kernel
theorem dX8_part_21 : decode cX8_part 21 = .ok (.invokevirtual 99, 3) := by decide +kernel
theorem dX8_part_24 : decode cX8_part 24 = .ok (.ifCond .ne 5, 3) := by decide +kernel
theorem dX8_part_27 : decode cX8_part 27 = .ok (.iconst (-1), 1) := by decide +kernel
theorem dX8_part_28 : decode cX8_part 28 = .ok (.ireturn, 1) := by decide +kernel
theorem dX8_part_29 : decode cX8_part 29 = .ok (.aload_n 0, 1) := by decide +kernel
theorem dX8_part_30 : decode cX8_part 30 = .ok (.getfield 12, 3) := by decide +kernel
theorem dX8_part_33 : decode cX8_part 33 = .ok (.iload_n 2, 1) := by decide +kernel
theorem dX8_part_34 : decode cX8_part 34 = .ok (.aload_n 0, 1) := by decide +kernel
theorem dX8_part_35 : decode cX8_part 35 = .ok (.getfield 12, 3) := by decide +kernel
theorem dX8_part_38 : decode cX8_part 38 = .ok (.getfield 75, 3) := by decide +kernel
theorem dX8_part_41 : decode cX8_part 41 = .ok (.getfield 113, 3) := by decide +kernel
theorem dX8_part_44 : decode cX8_part 44 = .ok (.iload_n 1, 1) := by decide +kernel
theorem dX8_part_45 : decode cX8_part 45 = .ok (.isub, 1) := by decide +kernel
theorem dX8_part_46 : decode cX8_part 46 = .ok (.invokevirtual 299, 3) := by decide +kernel
theorem dX8_part_49 : decode cX8_part 49 = .ok (.invokestatic 219, 3) := by decide +kernel
theorem dX8_part_52 : decode cX8_part 52 = .ok (.ireturn, 1) := by decide +kernel
theorem dX8_clearest_0 : decode cX8_clearest 0 = .ok (.iconst (-1), 1) := by decide +kernel
theorem dX8_clearest_1 : decode cX8_clearest 1 = .ok (.istore_n 1, 1) := by decide +kernel
theorem dX8_clearest_2 : decode cX8_clearest 2 = .ok (.iconst (-1), 1) := by decide +kernel
theorem dX8_clearest_3 : decode cX8_clearest 3 = .ok (.istore_n 2, 1) := by decide +kernel
theorem dX8_clearest_4 : decode cX8_clearest 4 = .ok (.aload_n 0, 1) := by decide +kernel
theorem dX8_clearest_5 : decode cX8_clearest 5 = .ok (.getfield 12, 3) := by decide +kernel
theorem dX8_clearest_8 : decode cX8_clearest 8 = .ok (.getfield 145, 3) := by decide +kernel
theorem dX8_clearest_11 : decode cX8_clearest 11 = .ok (.iconst 1, 1) := by decide +kernel
theorem dX8_clearest_12 : decode cX8_clearest 12 = .ok (.isub, 1) := by decide +kernel
theorem dX8_clearest_13 : decode cX8_clearest 13 = .ok (.istore_n 3, 1) := by decide +kernel
theorem dX8_clearest_14 : decode cX8_clearest 14 = .ok (.iload_n 3, 1) := by decide +kernel
theorem dX8_clearest_15 : decode cX8_clearest 15 = .ok (.iconst 1, 1) := by decide +kernel
theorem dX8_clearest_16 : decode cX8_clearest 16 = .ok (.if_icmp .lt 54, 3) := by decide +kernel
theorem dX8_clearest_19 : decode cX8_clearest 19 = .ok (.aload_n 0, 1) := by decide +kernel
theorem dX8_clearest_20 : decode cX8_clearest 20 = .ok (.getfield 12, 3) := by decide +kernel
theorem dX8_clearest_23 : decode cX8_clearest 23 = .ok (.getfield 302, 3) := by decide +kernel
theorem dX8_clearest_26 : decode cX8_clearest 26 = .ok (.iload_n 3, 1) := by decide +kernel
theorem dX8_clearest_27 : decode cX8_clearest 27 = .ok (.iaload, 1) := by decide +kernel
theorem dX8_clearest_28 : decode cX8_clearest 28 = .ok (.aload_n 0, 1) := by decide +kernel
theorem dX8_clearest_29 : decode cX8_clearest 29 = .ok (.getfield 12, 3) := by decide +kernel
theorem dX8_clearest_32 : decode cX8_clearest 32 = .ok (.getfield 302, 3) := by decide +kernel
theorem dX8_clearest_35 : decode cX8_clearest 35 = .ok (.iload_n 3, 1) := by decide +kernel
theorem dX8_clearest_36 : decode cX8_clearest 36 = .ok (.iconst 1, 1) := by decide +kernel
theorem dX8_clearest_37 : decode cX8_clearest 37 = .ok (.isub, 1) := by decide +kernel
theorem dX8_clearest_38 : decode cX8_clearest 38 = .ok (.iaload, 1) := by decide +kernel
theorem dX8_clearest_39 : decode cX8_clearest 39 = .ok (.isub, 1) := by decide +kernel
theorem dX8_clearest_40 : decode cX8_clearest 40 = .ok (.istore 4, 2) := by decide +kernel
theorem dX8_clearest_42 : decode cX8_clearest 42 = .ok (.iload 4, 2) := by decide +kernel
theorem dX8_clearest_44 : decode cX8_clearest 44 = .ok (.iload_n 2, 1) := by decide +kernel
theorem dX8_clearest_45 : decode cX8_clearest 45 = .ok (.if_icmp .le 19, 3) := by decide +kernel
theorem dX8_clearest_48 : decode cX8_clearest 48 = .ok (.iload 4, 2) := by decide +kernel
theorem dX8_clearest_50 : decode cX8_clearest 50 = .ok (.istore_n 2, 1) := by decide +kernel
theorem dX8_clearest_51 : decode cX8_clearest 51 = .ok (.aload_n 0, 1) := by decide +kernel
theorem dX8_clearest_52 : decode cX8_clearest 52 = .ok (.getfield 12, 3) := by decide +kernel
theorem dX8_clearest_55 : decode cX8_clearest 55 = .ok (.getfield 75, 3) := by decide +kernel
theorem dX8_clearest_58 : decode cX8_clearest 58 = .ok (.getfield 113, 3) := by decide +kernel
theorem dX8_clearest_61 : decode cX8_clearest 61 = .ok (.iload_n 3, 1) := by decide +kernel
theorem dX8_clearest_62 : decode cX8_clearest 62 = .ok (.isub, 1) := by decide +kernel
theorem dX8_clearest_63 : decode cX8_clearest 63 = .ok (.istore_n 1, 1) := by decide +kernel
theorem dX8_clearest_64 : decode cX8_clearest 64 = .ok (.iinc 3 (-1), 3) := by decide +kernel
theorem dX8_clearest_67 : decode cX8_clearest 67 = .ok (.goto (-53), 3) := by decide +kernel
theorem dX8_clearest_70 : decode cX8_clearest 70 = .ok (.iload_n 1, 1) := by decide +kernel
theorem dX8_clearest_71 : decode cX8_clearest 71 = .ok (.ireturn, 1) := by decide +kernel
theorem dX8_best_0 : decode cX8_best 0 = .ok (.aload_n 0, 1) := by decide +kernel
theorem dX8_best_1 : decode cX8_best 1 = .ok (.getfield 56, 3) := by decide +kernel
theorem dX8_best_4 : decode cX8_best 4 = .ok (.aload_n 0, 1) := by decide +kernel
theorem dX8_best_5 : decode cX8_best 5 = .ok (.getfield 12, 3) := by decide +kernel
theorem dX8_best_8 : decode cX8_best 8 = .ok (.invokevirtual 305, 3) := by decide +kernel
theorem dX8_best_11 : decode cX8_best 11 = .ok (.iload_n 1, 1) := by decide +kernel
theorem dX8_best_12 : decode cX8_best 12 = .ok (.ifCond .ne 11, 3) := by decide +kernel
theorem dX8_best_15 : decode cX8_best 15 = .ok (.aload_n 0, 1) := by decide +kernel
theorem dX8_best_16 : decode cX8_best 16 = .ok (.getfield 56, 3) := by decide +kernel
theorem dX8_best_19 : decode cX8_best 19 = .ok (.getfield 309, 3) := by decide +kernel
theorem dX8_best_22 : decode cX8_best 22 = .ok (.ireturn, 1) := by decide +kernel
theorem dX8_best_23 : decode cX8_best 23 = .ok (.iload_n 1, 1) := by decide +kernel
theorem dX8_best_24 : decode cX8_best 24 = .ok (.iconst 1, 1) := by decide +kernel
theorem dX8_best_25 : decode cX8_best 25 = .ok (.if_icmp .ne 11, 3) := by decide +kernel
theorem dX8_best_28 : decode cX8_best 28 = .ok (.aload_n 0, 1) := by decide +kernel
theorem dX8_best_29 : decode cX8_best 29 = .ok (.getfield 56, 3) := by decide +kernel
theorem dX8_best_32 : decode cX8_best 32 = .ok (.getfield 312, 3) := by decide +kernel
theorem dX8_best_35 : decode cX8_best 35 = .ok (.ireturn, 1) := by decide +kernel
theorem dX8_best_36 : decode cX8_best 36 = .ok (.iload_n 1, 1) := by decide +kernel
theorem dX8_best_37 : decode cX8_best 37 = .ok (.bipush 10, 2) := by decide +kernel
theorem dX8_best_39 : decode cX8_best 39 = .ok (.if_icmp .lt 27, 3) := by decide +kernel
theorem dX8_best_42 : decode cX8_best 42 = .ok (.aload_n 0, 1) := by decide +kernel
theorem dX8_best_43 : decode cX8_best 43 = .ok (.getfield 56, 3) := by decide +kernel
theorem dX8_best_46 : decode cX8_best 46 = .ok (.iload_n 1, 1) := by decide +kernel
theorem dX8_best_47 : decode cX8_best 47 = .ok (.bipush 10, 2) := by decide +kernel
theorem dX8_best_49 : decode cX8_best 49 = .ok (.isub, 1) := by decide +kernel
theorem dX8_best_50 : decode cX8_best 50 = .ok (.aload_n 0, 1) := by decide +kernel
theorem dX8_best_51 : decode cX8_best 51 = .ok (.getfield 12, 3) := by decide +kernel
theorem dX8_best_54 : decode cX8_best 54 = .ok (.getfield 75, 3) := by decide +kernel
theorem dX8_best_57 : decode cX8_best 57 = .ok (.getfield 113, 3) := by decide +kernel
theorem dX8_best_60 : decode cX8_best 60 = .ok (.invokevirtual 313, 3) := by decide +kernel
theorem dX8_best_63 : decode cX8_best 63 = .ok (.goto 4, 3) := by decide +kernel
theorem dX8_best_66 : decode cX8_best 66 = .ok (.iconst (-1), 1) := by decide +kernel
theorem dX8_best_67 : decode cX8_best 67 = .ok (.ireturn, 1) := by decide +kernel
theorem dX8_shown_0 : decode cX8_shown 0 = .ok (.iload_n 1, 1) := by decide +kernel
theorem dX8_shown_1 : decode cX8_shown 1 = .ok (.invokestatic 203, 3) := by decide +kernel
theorem dX8_shown_4 : decode cX8_shown 4 = .ok (.ifCond .ne 5, 3) := by decide +kernel
theorem dX8_shown_7 : decode cX8_shown 7 = .ok (.iconst (-1), 1) := by decide +kernel
theorem dX8_shown_8 : decode cX8_shown 8 = .ok (.ireturn, 1) := by decide +kernel
theorem dX8_shown_9 : decode cX8_shown 9 = .ok (.aload_n 0, 1) := by decide +kernel
theorem dX8_shown_10 : decode cX8_shown 10 = .ok (.iload_n 1, 1) := by decide +kernel
theorem dX8_shown_11 : decode cX8_shown 11 = .ok (.invokevirtual 314, 3) := by decide +kernel
theorem dX8_shown_14 : decode cX8_shown 14 = .ok (.aload_n 0, 1) := by decide +kernel
theorem dX8_shown_15 : decode cX8_shown 15 = .ok (.getfield 35, 3) := by decide +kernel
theorem dX8_shown_18 : decode cX8_shown 18 = .ok (.getfield 317, 3) := by decide +kernel
theorem dX8_shown_21 : decode cX8_shown 21 = .ok (.ireturn, 1) := by decide +kernel
theorem dX8_label_0 : decode cX8_label 0 = .ok (.iload_n 1, 1) := by decide +kernel
theorem dX8_label_1 : decode cX8_label 1 = .ok (.invokestatic 203, 3) := by decide +kernel
theorem dX8_label_4 : decode cX8_label 4 = .ok (.ifCond .ne 5, 3) := by decide +kernel
theorem dX8_label_7 : decode cX8_label 7 = .ok (.iconst (-1), 1) := by decide +kernel
theorem dX8_label_8 : decode cX8_label 8 = .ok (.ireturn, 1) := by decide +kernel
theorem dX8_label_9 : decode cX8_label 9 = .ok (.aload_n 0, 1) := by decide +kernel
theorem dX8_label_10 : decode cX8_label 10 = .ok (.iload_n 1, 1) := by decide +kernel
theorem dX8_label_11 : decode cX8_label 11 = .ok (.invokevirtual 314, 3) := by decide +kernel
theorem dX8_label_14 : decode cX8_label 14 = .ok (.iload_n 2, 1) := by decide +kernel
theorem dX8_label_15 : decode cX8_label 15 = .ok (.ifCond .lt 14, 3) := by decide +kernel
theorem dX8_label_18 : decode cX8_label 18 = .ok (.iload_n 2, 1) := by decide +kernel
theorem dX8_label_19 : decode cX8_label 19 = .ok (.aload_n 0, 1) := by decide +kernel
theorem dX8_label_20 : decode cX8_label 20 = .ok (.getfield 35, 3) := by decide +kernel
theorem dX8_label_23 : decode cX8_label 23 = .ok (.getfield 317, 3) := by decide +kernel
theorem dX8_label_26 : decode cX8_label 26 = .ok (.if_icmp .lt 5, 3) := by decide +kernel
theorem dX8_label_29 : decode cX8_label 29 = .ok (.iconst (-1), 1) := by decide +kernel
theorem dX8_label_30 : decode cX8_label 30 = .ok (.ireturn, 1) := by decide +kernel
theorem dX8_label_31 : decode cX8_label 31 = .ok (.aload_n 0, 1) := by decide +kernel
theorem dX8_label_32 : decode cX8_label 32 = .ok (.getfield 35, 3) := by decide +kernel
theorem dX8_label_35 : decode cX8_label 35 = .ok (.iload_n 2, 1) := by decide +kernel
theorem dX8_label_36 : decode cX8_label 36 = .ok (.aload_n 0, 1) := by decide +kernel
theorem dX8_label_37 : decode cX8_label 37 = .ok (.getfield 25, 3) := by decide +kernel
theorem dX8_label_40 : decode cX8_label 40 = .ok (.getfield 283, 3) := by decide +kernel
theorem dX8_label_43 : decode cX8_label 43 = .ok (.invokevirtual 318, 3) := by decide +kernel
theorem dX8_label_46 : decode cX8_label 46 = .ok (.istore 4, 2) := by decide +kernel
theorem dX8_label_48 : decode cX8_label 48 = .ok (.iload_n 3, 1) := by decide +kernel
theorem dX8_label_49 : decode cX8_label 49 = .ok (.tableswitch 55 0 2 #[27, 37, 47], 27) := by decide +kernel
theorem dX8_label_76 : decode cX8_label 76 = .ok (.aload_n 0, 1) := by decide +kernel
theorem dX8_label_77 : decode cX8_label 77 = .ok (.getfield 35, 3) := by decide +kernel
theorem dX8_label_80 : decode cX8_label 80 = .ok (.getfield 321, 3) := by decide +kernel
theorem dX8_label_83 : decode cX8_label 83 = .ok (.iload_n 2, 1) := by decide +kernel
theorem dX8_label_84 : decode cX8_label 84 = .ok (.iaload, 1) := by decide +kernel
theorem dX8_label_85 : decode cX8_label 85 = .ok (.ireturn, 1) := by decide +kernel
theorem dX8_label_86 : decode cX8_label 86 = .ok (.aload_n 0, 1) := by decide +kernel
theorem dX8_label_87 : decode cX8_label 87 = .ok (.getfield 25, 3) := by decide +kernel
theorem dX8_label_90 : decode cX8_label 90 = .ok (.iload 4, 2) := by decide +kernel
theorem dX8_label_92 : decode cX8_label 92 = .ok (.invokevirtual 261, 3) := by decide +kernel
theorem dX8_label_95 : decode cX8_label 95 = .ok (.ireturn, 1) := by decide +kernel
theorem dX8_label_96 : decode cX8_label 96 = .ok (.iload 4, 2) := by decide +kernel
theorem dX8_label_98 : decode cX8_label 98 = .ok (.invokestatic 158, 3) := by decide +kernel
theorem dX8_label_101 : decode cX8_label 101 = .ok (.iconst 1, 1) := by decide +kernel
theorem dX8_label_102 : decode cX8_label 102 = .ok (.isub, 1) := by decide +kernel
theorem dX8_label_103 : decode cX8_label 103 = .ok (.ireturn, 1) := by decide +kernel
theorem dX8_label_104 : decode cX8_label 104 = .ok (.iconst (-1), 1) := by decide +kernel
theorem dX8_label_105 : decode cX8_label 105 = .ok (.ireturn, 1) := by decide +kernel
theorem dX8_counted_0 : decode cX8_counted 0 = .ok (.iload_n 1, 1) := by decide +kernel
theorem dX8_counted_1 : decode cX8_counted 1 = .ok (.invokestatic 203, 3) := by decide +kernel
theorem dX8_counted_4 : decode cX8_counted 4 = .ok (.ifCond .ne 5, 3) := by decide +kernel
theorem dX8_counted_7 : decode cX8_counted 7 = .ok (.iconst (-1), 1) := by decide +kernel
theorem dX8_counted_8 : decode cX8_counted 8 = .ok (.ireturn, 1) := by decide +kernel
theorem dX8_counted_9 : decode cX8_counted 9 = .ok (.aload_n 0, 1) := by decide +kernel
theorem dX8_counted_10 : decode cX8_counted 10 = .ok (.iload_n 1, 1) := by decide +kernel
theorem dX8_counted_11 : decode cX8_counted 11 = .ok (.invokevirtual 314, 3) := by decide +kernel
theorem dX8_counted_14 : decode cX8_counted 14 = .ok (.iload_n 2, 1) := by decide +kernel
theorem dX8_counted_15 : decode cX8_counted 15 = .ok (.ifCond .lt 14, 3) := by decide +kernel
theorem dX8_counted_18 : decode cX8_counted 18 = .ok (.iload_n 2, 1) := by decide +kernel
theorem dX8_counted_19 : decode cX8_counted 19 = .ok (.aload_n 0, 1) := by decide +kernel
theorem dX8_counted_20 : decode cX8_counted 20 = .ok (.getfield 25, 3) := by decide +kernel
theorem dX8_counted_23 : decode cX8_counted 23 = .ok (.getfield 283, 3) := by decide +kernel
theorem dX8_counted_26 : decode cX8_counted 26 = .ok (.if_icmp .lt 5, 3) := by decide +kernel
theorem dX8_counted_29 : decode cX8_counted 29 = .ok (.iconst (-1), 1) := by decide +kernel
theorem dX8_counted_30 : decode cX8_counted 30 = .ok (.ireturn, 1) := by decide +kernel
theorem dX8_counted_31 : decode cX8_counted 31 = .ok (.aload_n 0, 1) := by decide +kernel
theorem dX8_counted_32 : decode cX8_counted 32 = .ok (.getfield 35, 3) := by decide +kernel
theorem dX8_counted_35 : decode cX8_counted 35 = .ok (.getfield 324, 3) := by decide +kernel
theorem dX8_counted_38 : decode cX8_counted 38 = .ok (.iload_n 2, 1) := by decide +kernel
theorem dX8_counted_39 : decode cX8_counted 39 = .ok (.iaload, 1) := by decide +kernel
theorem dX8_counted_40 : decode cX8_counted 40 = .ok (.istore_n 3, 1) := by decide +kernel
theorem dX8_counted_41 : decode cX8_counted 41 = .ok (.iload_n 3, 1) := by decide +kernel
theorem dX8_counted_42 : decode cX8_counted 42 = .ok (.ifCond .lt 26, 3) := by decide +kernel
theorem dX8_counted_45 : decode cX8_counted 45 = .ok (.iload_n 3, 1) := by decide +kernel
theorem dX8_counted_46 : decode cX8_counted 46 = .ok (.aload_n 0, 1) := by decide +kernel
theorem dX8_counted_47 : decode cX8_counted 47 = .ok (.getfield 35, 3) := by decide +kernel
theorem dX8_counted_50 : decode cX8_counted 50 = .ok (.getfield 317, 3) := by decide +kernel
theorem dX8_counted_53 : decode cX8_counted 53 = .ok (.if_icmp .ge 15, 3) := by decide +kernel
theorem dX8_counted_56 : decode cX8_counted 56 = .ok (.aload_n 0, 1) := by decide +kernel
theorem dX8_counted_57 : decode cX8_counted 57 = .ok (.getfield 35, 3) := by decide +kernel
theorem dX8_counted_60 : decode cX8_counted 60 = .ok (.getfield 321, 3) := by decide +kernel
theorem dX8_counted_63 : decode cX8_counted 63 = .ok (.iload_n 3, 1) := by decide +kernel
theorem dX8_counted_64 : decode cX8_counted 64 = .ok (.iaload, 1) := by decide +kernel
theorem dX8_counted_65 : decode cX8_counted 65 = .ok (.goto 4, 3) := by decide +kernel
theorem dX8_counted_68 : decode cX8_counted 68 = .ok (.iconst (-1), 1) := by decide +kernel
theorem dX8_counted_69 : decode cX8_counted 69 = .ok (.ireturn, 1) := by decide +kernel
theorem dX8_repaired_0 : decode cX8_repaired 0 = .ok (.iload_n 1, 1) := by decide +kernel
theorem dX8_repaired_1 : decode cX8_repaired 1 = .ok (.tableswitch 83 0 3 #[31, 43, 55, 71], 31) := by decide +kernel
theorem dX8_repaired_32 : decode cX8_repaired 32 = .ok (.aload_n 0, 1) := by decide +kernel
theorem dX8_repaired_33 : decode cX8_repaired 33 = .ok (.getfield 12, 3) := by decide +kernel
theorem dX8_repaired_36 : decode cX8_repaired 36 = .ok (.aload_n 0, 1) := by decide +kernel
theorem dX8_repaired_37 : decode cX8_repaired 37 = .ok (.getfield 16, 3) := by decide +kernel
theorem dX8_repaired_40 : decode cX8_repaired 40 = .ok (.invokevirtual 95, 3) := by decide +kernel
theorem dX8_repaired_43 : decode cX8_repaired 43 = .ok (.ireturn, 1) := by decide +kernel
theorem dX8_repaired_44 : decode cX8_repaired 44 = .ok (.aload_n 0, 1) := by decide +kernel
theorem dX8_repaired_45 : decode cX8_repaired 45 = .ok (.getfield 16, 3) := by decide +kernel
theorem dX8_repaired_48 : decode cX8_repaired 48 = .ok (.aload_n 0, 1) := by decide +kernel
theorem dX8_repaired_49 : decode cX8_repaired 49 = .ok (.getfield 12, 3) := by decide +kernel
theorem dX8_repaired_52 : decode cX8_repaired 52 = .ok (.invokevirtual 95, 3) := by decide +kernel
theorem dX8_repaired_55 : decode cX8_repaired 55 = .ok (.ireturn, 1) := by decide +kernel
theorem dX8_repaired_56 : decode cX8_repaired 56 = .ok (.aload_n 0, 1) := by decide +kernel
theorem dX8_repaired_57 : decode cX8_repaired 57 = .ok (.getfield 12, 3) := by decide +kernel
theorem dX8_repaired_60 : decode cX8_repaired 60 = .ok (.invokevirtual 327, 3) := by decide +kernel
theorem dX8_repaired_63 : decode cX8_repaired 63 = .ok (.aload_n 0, 1) := by decide +kernel
theorem dX8_repaired_64 : decode cX8_repaired 64 = .ok (.getfield 16, 3) := by decide +kernel
theorem dX8_repaired_67 : decode cX8_repaired 67 = .ok (.invokevirtual 327, 3) := by decide +kernel
theorem dX8_repaired_70 : decode cX8_repaired 70 = .ok (.isub, 1) := by decide +kernel
theorem dX8_repaired_71 : decode cX8_repaired 71 = .ok (.ireturn, 1) := by decide +kernel
theorem dX8_repaired_72 : decode cX8_repaired 72 = .ok (.aload_n 0, 1) := by decide +kernel
theorem dX8_repaired_73 : decode cX8_repaired 73 = .ok (.getfield 12, 3) := by decide +kernel
theorem dX8_repaired_76 : decode cX8_repaired 76 = .ok (.aload_n 0, 1) := by decide +kernel
theorem dX8_repaired_77 : decode cX8_repaired 77 = .ok (.getfield 16, 3) := by decide +kernel
theorem dX8_repaired_80 : decode cX8_repaired 80 = .ok (.invokevirtual 331, 3) := by decide +kernel
theorem dX8_repaired_83 : decode cX8_repaired 83 = .ok (.ireturn, 1) := by decide +kernel
theorem dX8_repaired_84 : decode cX8_repaired 84 = .ok (.bipush (-2), 2) := by decide +kernel
theorem dX8_repaired_86 : decode cX8_repaired 86 = .ok (.ireturn, 1) := by decide +kernel
theorem dX8_would_0 : decode cX8_would 0 = .ok (.iload_n 3, 1) := by decide +kernel
theorem dX8_would_1 : decode cX8_would 1 = .ok (.ifCond .lt 23, 3) := by decide +kernel
theorem dX8_would_4 : decode cX8_would 4 = .ok (.iload_n 3, 1) := by decide +kernel
theorem dX8_would_5 : decode cX8_would 5 = .ok (.iconst 1, 1) := by decide +kernel
theorem dX8_would_6 : decode cX8_would 6 = .ok (.if_icmp .gt 18, 3) := by decide +kernel
theorem dX8_would_9 : decode cX8_would 9 = .ok (.aload_n 0, 1) := by decide +kernel
theorem dX8_would_10 : decode cX8_would 10 = .ok (.getfield 12, 3) := by decide +kernel
theorem dX8_would_13 : decode cX8_would 13 = .ok (.getfield 75, 3) := by decide +kernel
theorem dX8_would_16 : decode cX8_would 16 = .ok (.iload_n 1, 1) := by decide +kernel
theorem dX8_would_17 : decode cX8_would 17 = .ok (.iload_n 2, 1) := by decide +kernel
theorem dX8_would_18 : decode cX8_would 18 = .ok (.invokevirtual 79, 3) := by decide +kernel
theorem dX8_would_21 : decode cX8_would 21 = .ok (.ifCond .ne 7, 3) := by decide +kernel
theorem dX8_would_24 : decode cX8_would 24 = .ok (.ldc_w 334, 3) := by decide +kernel
theorem dX8_would_27 : decode cX8_would 27 = .ok (.ireturn, 1) := by decide +kernel
theorem dX8_would_28 : decode cX8_would 28 = .ok (.aload_n 0, 1) := by decide +kernel
theorem dX8_would_29 : decode cX8_would 29 = .ok (.getfield 19, 3) := by decide +kernel
theorem dX8_would_32 : decode cX8_would 32 = .ok (.getfield 75, 3) := by decide +kernel
theorem dX8_would_35 : decode cX8_would 35 = .ok (.aload_n 0, 1) := by decide +kernel
theorem dX8_would_36 : decode cX8_would 36 = .ok (.getfield 12, 3) := by decide +kernel
theorem dX8_would_39 : decode cX8_would 39 = .ok (.getfield 75, 3) := by decide +kernel
theorem dX8_would_42 : decode cX8_would 42 = .ok (.invokevirtual 335, 3) := by decide +kernel
theorem dX8_would_45 : decode cX8_would 45 = .ok (.aload_n 0, 1) := by decide +kernel
theorem dX8_would_46 : decode cX8_would 46 = .ok (.getfield 19, 3) := by decide +kernel
theorem dX8_would_49 : decode cX8_would 49 = .ok (.getfield 75, 3) := by decide +kernel
theorem dX8_would_52 : decode cX8_would 52 = .ok (.iload_n 1, 1) := by decide +kernel
theorem dX8_would_53 : decode cX8_would 53 = .ok (.iload_n 2, 1) := by decide +kernel
theorem dX8_would_54 : decode cX8_would 54 = .ok (.iconst 1, 1) := by decide +kernel
theorem dX8_would_55 : decode cX8_would 55 = .ok (.invokevirtual 88, 3) := by decide +kernel
theorem dX8_would_58 : decode cX8_would 58 = .ok (.aload_n 0, 1) := by decide +kernel
theorem dX8_would_59 : decode cX8_would 59 = .ok (.getfield 19, 3) := by decide +kernel
theorem dX8_would_62 : decode cX8_would 62 = .ok (.invokevirtual 92, 3) := by decide +kernel
theorem dX8_would_65 : decode cX8_would 65 = .ok (.iload_n 3, 1) := by decide +kernel
theorem dX8_would_66 : decode cX8_would 66 = .ok (.ifCond .ne 17, 3) := by decide +kernel
theorem dX8_would_69 : decode cX8_would 69 = .ok (.aload_n 0, 1) := by decide +kernel
theorem dX8_would_70 : decode cX8_would 70 = .ok (.getfield 19, 3) := by decide +kernel
theorem dX8_would_73 : decode cX8_would 73 = .ok (.aload_n 0, 1) := by decide +kernel
theorem dX8_would_74 : decode cX8_would 74 = .ok (.getfield 12, 3) := by decide +kernel
theorem dX8_would_77 : decode cX8_would 77 = .ok (.invokevirtual 95, 3) := by decide +kernel
theorem dX8_would_80 : decode cX8_would 80 = .ok (.goto 18, 3) := by decide +kernel
theorem dX8_would_83 : decode cX8_would 83 = .ok (.aload_n 0, 1) := by decide +kernel
theorem dX8_would_84 : decode cX8_would 84 = .ok (.getfield 19, 3) := by decide +kernel
theorem dX8_would_87 : decode cX8_would 87 = .ok (.invokevirtual 327, 3) := by decide +kernel
theorem dX8_would_90 : decode cX8_would 90 = .ok (.aload_n 0, 1) := by decide +kernel
theorem dX8_would_91 : decode cX8_would 91 = .ok (.getfield 12, 3) := by decide +kernel
theorem dX8_would_94 : decode cX8_would 94 = .ok (.invokevirtual 327, 3) := by decide +kernel
theorem dX8_would_97 : decode cX8_would 97 = .ok (.isub, 1) := by decide +kernel
theorem dX8_would_98 : decode cX8_would 98 = .ok (.ireturn, 1) := by decide +kernel
theorem dX8_stirred_0 : decode cX8_stirred 0 = .ok (.iload_n 1, 1) := by decide +kernel
theorem dX8_stirred_1 : decode cX8_stirred 1 = .ok (.invokestatic 203, 3) := by decide +kernel
theorem dX8_stirred_4 : decode cX8_stirred 4 = .ok (.ifCond .ne 5, 3) := by decide +kernel
theorem dX8_stirred_7 : decode cX8_stirred 7 = .ok (.iconst (-1), 1) := by decide +kernel
theorem dX8_stirred_8 : decode cX8_stirred 8 = .ok (.ireturn, 1) := by decide +kernel
theorem dX8_stirred_9 : decode cX8_stirred 9 = .ok (.aload_n 0, 1) := by decide +kernel
theorem dX8_stirred_10 : decode cX8_stirred 10 = .ok (.getfield 25, 3) := by decide +kernel
theorem dX8_stirred_13 : decode cX8_stirred 13 = .ok (.aload_n 0, 1) := by decide +kernel
theorem dX8_stirred_14 : decode cX8_stirred 14 = .ok (.getfield 12, 3) := by decide +kernel
theorem dX8_stirred_17 : decode cX8_stirred 17 = .ok (.iload_n 1, 1) := by decide +kernel
theorem dX8_stirred_18 : decode cX8_stirred 18 = .ok (.invokevirtual 206, 3) := by decide +kernel
theorem dX8_stirred_21 : decode cX8_stirred 21 = .ok (.aload_n 0, 1) := by decide +kernel
theorem dX8_stirred_22 : decode cX8_stirred 22 = .ok (.getfield 29, 3) := by decide +kernel
theorem dX8_stirred_25 : decode cX8_stirred 25 = .ok (.aload_n 0, 1) := by decide +kernel
theorem dX8_stirred_26 : decode cX8_stirred 26 = .ok (.getfield 16, 3) := by decide +kernel
theorem dX8_stirred_29 : decode cX8_stirred 29 = .ok (.iload_n 1, 1) := by decide +kernel
theorem dX8_stirred_30 : decode cX8_stirred 30 = .ok (.invokevirtual 206, 3) := by decide +kernel
theorem dX8_stirred_33 : decode cX8_stirred 33 = .ok (.iconst 0, 1) := by decide +kernel
theorem dX8_stirred_34 : decode cX8_stirred 34 = .ok (.istore_n 2, 1) := by decide +kernel
theorem dX8_stirred_35 : decode cX8_stirred 35 = .ok (.iconst 0, 1) := by decide +kernel
theorem dX8_stirred_36 : decode cX8_stirred 36 = .ok (.istore_n 3, 1) := by decide +kernel
theorem dX8_stirred_37 : decode cX8_stirred 37 = .ok (.iload_n 3, 1) := by decide +kernel
theorem dX8_stirred_38 : decode cX8_stirred 38 = .ok (.aload_n 0, 1) := by decide +kernel
theorem dX8_stirred_39 : decode cX8_stirred 39 = .ok (.getfield 12, 3) := by decide +kernel
theorem dX8_stirred_42 : decode cX8_stirred 42 = .ok (.getfield 75, 3) := by decide +kernel
theorem dX8_stirred_45 : decode cX8_stirred 45 = .ok (.getfield 113, 3) := by decide +kernel
theorem dX8_stirred_48 : decode cX8_stirred 48 = .ok (.if_icmp .ge 168, 3) := by decide +kernel
theorem dX8_stirred_51 : decode cX8_stirred 51 = .ok (.aload_n 0, 1) := by decide +kernel
theorem dX8_stirred_52 : decode cX8_stirred 52 = .ok (.getfield 60, 3) := by decide +kernel
theorem dX8_stirred_55 : decode cX8_stirred 55 = .ok (.iload_n 3, 1) := by decide +kernel
theorem dX8_stirred_56 : decode cX8_stirred 56 = .ok (.aload_n 0, 1) := by decide +kernel
theorem dX8_stirred_57 : decode cX8_stirred 57 = .ok (.getfield 16, 3) := by decide +kernel
theorem dX8_stirred_60 : decode cX8_stirred 60 = .ok (.getfield 75, 3) := by decide +kernel
theorem dX8_stirred_63 : decode cX8_stirred 63 = .ok (.aload_n 0, 1) := by decide +kernel
theorem dX8_stirred_64 : decode cX8_stirred 64 = .ok (.getfield 12, 3) := by decide +kernel
theorem dX8_stirred_67 : decode cX8_stirred 67 = .ok (.getfield 75, 3) := by decide +kernel
theorem dX8_stirred_70 : decode cX8_stirred 70 = .ok (.getfield 116, 3) := by decide +kernel
theorem dX8_stirred_73 : decode cX8_stirred 73 = .ok (.iload_n 3, 1) := by decide +kernel
theorem dX8_stirred_74 : decode cX8_stirred 74 = .ok (.iaload, 1) := by decide +kernel
theorem dX8_stirred_75 : decode cX8_stirred 75 = .ok (.aload_n 0, 1) := by decide +kernel
theorem dX8_stirred_76 : decode cX8_stirred 76 = .ok (.getfield 12, 3) := by decide +kernel
theorem dX8_stirred_79 : decode cX8_stirred 79 = .ok (.getfield 75, 3) := by decide +kernel
theorem dX8_stirred_82 : decode cX8_stirred 82 = .ok (.getfield 119, 3) := by decide +kernel
theorem dX8_stirred_85 : decode cX8_stirred 85 = .ok (.iload_n 3, 1) := by decide +kernel
theorem dX8_stirred_86 : decode cX8_stirred 86 = .ok (.iaload, 1) := by decide +kernel
theorem dX8_stirred_87 : decode cX8_stirred 87 = .ok (.invokevirtual 131, 3) := by decide +kernel
theorem dX8_stirred_90 : decode cX8_stirred 90 = .ok (.iastore, 1) := by decide +kernel
theorem dX8_stirred_91 : decode cX8_stirred 91 = .ok (.iconst 0, 1) := by decide +kernel
theorem dX8_stirred_92 : decode cX8_stirred 92 = .ok (.istore 4, 2) := by decide +kernel
theorem dX8_stirred_94 : decode cX8_stirred 94 = .ok (.iload 4, 2) := by decide +kernel
theorem dX8_stirred_96 : decode cX8_stirred 96 = .ok (.iload_n 3, 1) := by decide +kernel
theorem dX8_stirred_97 : decode cX8_stirred 97 = .ok (.if_icmp .ge 113, 3) := by decide +kernel
theorem dX8_stirred_100 : decode cX8_stirred 100 = .ok (.aload_n 0, 1) := by decide +kernel
theorem dX8_stirred_101 : decode cX8_stirred 101 = .ok (.getfield 60, 3) := by decide +kernel
theorem dX8_stirred_104 : decode cX8_stirred 104 = .ok (.iload_n 3, 1) := by decide +kernel
theorem dX8_stirred_105 : decode cX8_stirred 105 = .ok (.iaload, 1) := by decide +kernel
theorem dX8_stirred_106 : decode cX8_stirred 106 = .ok (.iconst (-1), 1) := by decide +kernel
theorem dX8_stirred_107 : decode cX8_stirred 107 = .ok (.if_icmp .eq 103, 3) := by decide +kernel
theorem dX8_stirred_110 : decode cX8_stirred 110 = .ok (.aload_n 0, 1) := by decide +kernel
theorem dX8_stirred_111 : decode cX8_stirred 111 = .ok (.getfield 60, 3) := by decide +kernel
theorem dX8_stirred_114 : decode cX8_stirred 114 = .ok (.iload 4, 2) := by decide +kernel
theorem dX8_stirred_116 : decode cX8_stirred 116 = .ok (.iaload, 1) := by decide +kernel
theorem dX8_stirred_117 : decode cX8_stirred 117 = .ok (.iconst (-1), 1) := by decide +kernel
theorem dX8_stirred_118 : decode cX8_stirred 118 = .ok (.if_icmp .eq 86, 3) := by decide +kernel
theorem dX8_stirred_121 : decode cX8_stirred 121 = .ok (.aload_n 0, 1) := by decide +kernel
theorem dX8_stirred_122 : decode cX8_stirred 122 = .ok (.getfield 25, 3) := by decide +kernel
theorem dX8_stirred_125 : decode cX8_stirred 125 = .ok (.getfield 210, 3) := by decide +kernel
theorem dX8_stirred_128 : decode cX8_stirred 128 = .ok (.iload_n 3, 1) := by decide +kernel
theorem dX8_stirred_129 : decode cX8_stirred 129 = .ok (.iaload, 1) := by decide +kernel
theorem dX8_stirred_130 : decode cX8_stirred 130 = .ok (.aload_n 0, 1) := by decide +kernel
theorem dX8_stirred_131 : decode cX8_stirred 131 = .ok (.getfield 25, 3) := by decide +kernel
theorem dX8_stirred_134 : decode cX8_stirred 134 = .ok (.getfield 210, 3) := by decide +kernel
theorem dX8_stirred_137 : decode cX8_stirred 137 = .ok (.iload 4, 2) := by decide +kernel
theorem dX8_stirred_139 : decode cX8_stirred 139 = .ok (.iaload, 1) := by decide +kernel
theorem dX8_stirred_140 : decode cX8_stirred 140 = .ok (.if_icmp .ne 7, 3) := by decide +kernel
theorem dX8_stirred_143 : decode cX8_stirred 143 = .ok (.iconst 1, 1) := by decide +kernel
theorem dX8_stirred_144 : decode cX8_stirred 144 = .ok (.goto 4, 3) := by decide +kernel
theorem dX8_stirred_147 : decode cX8_stirred 147 = .ok (.iconst 0, 1) := by decide +kernel
theorem dX8_stirred_148 : decode cX8_stirred 148 = .ok (.istore 5, 2) := by decide +kernel
theorem dX8_stirred_150 : decode cX8_stirred 150 = .ok (.aload_n 0, 1) := by decide +kernel
theorem dX8_stirred_151 : decode cX8_stirred 151 = .ok (.getfield 29, 3) := by decide +kernel
theorem dX8_stirred_154 : decode cX8_stirred 154 = .ok (.getfield 210, 3) := by decide +kernel
theorem dX8_stirred_157 : decode cX8_stirred 157 = .ok (.aload_n 0, 1) := by decide +kernel
theorem dX8_stirred_158 : decode cX8_stirred 158 = .ok (.getfield 60, 3) := by decide +kernel
theorem dX8_stirred_161 : decode cX8_stirred 161 = .ok (.iload_n 3, 1) := by decide +kernel
theorem dX8_stirred_162 : decode cX8_stirred 162 = .ok (.iaload, 1) := by decide +kernel
theorem dX8_stirred_163 : decode cX8_stirred 163 = .ok (.iaload, 1) := by decide +kernel
theorem dX8_stirred_164 : decode cX8_stirred 164 = .ok (.aload_n 0, 1) := by decide +kernel
theorem dX8_stirred_165 : decode cX8_stirred 165 = .ok (.getfield 29, 3) := by decide +kernel
theorem dX8_stirred_168 : decode cX8_stirred 168 = .ok (.getfield 210, 3) := by decide +kernel
theorem dX8_stirred_171 : decode cX8_stirred 171 = .ok (.aload_n 0, 1) := by decide +kernel
theorem dX8_stirred_172 : decode cX8_stirred 172 = .ok (.getfield 60, 3) := by decide +kernel
theorem dX8_stirred_175 : decode cX8_stirred 175 = .ok (.iload 4, 2) := by decide +kernel
theorem dX8_stirred_177 : decode cX8_stirred 177 = .ok (.iaload, 1) := by decide +kernel
theorem dX8_stirred_178 : decode cX8_stirred 178 = .ok (.iaload, 1) := by decide +kernel
theorem dX8_stirred_179 : decode cX8_stirred 179 = .ok (.if_icmp .ne 7, 3) := by decide +kernel
theorem dX8_stirred_182 : decode cX8_stirred 182 = .ok (.iconst 1, 1) := by decide +kernel
theorem dX8_stirred_183 : decode cX8_stirred 183 = .ok (.goto 4, 3) := by decide +kernel
theorem dX8_stirred_186 : decode cX8_stirred 186 = .ok (.iconst 0, 1) := by decide +kernel
theorem dX8_stirred_187 : decode cX8_stirred 187 = .ok (.istore 6, 2) := by decide +kernel
theorem dX8_stirred_189 : decode cX8_stirred 189 = .ok (.iload_n 2, 1) := by decide +kernel
theorem dX8_stirred_190 : decode cX8_stirred 190 = .ok (.iload 5, 2) := by decide +kernel
theorem dX8_stirred_192 : decode cX8_stirred 192 = .ok (.iload 6, 2) := by decide +kernel
theorem dX8_stirred_194 : decode cX8_stirred 194 = .ok (.if_icmp .eq 7, 3) := by decide +kernel
theorem dX8_stirred_197 : decode cX8_stirred 197 = .ok (.iconst 1, 1) := by decide +kernel
theorem dX8_stirred_198 : decode cX8_stirred 198 = .ok (.goto 4, 3) := by decide +kernel
theorem dX8_stirred_201 : decode cX8_stirred 201 = .ok (.iconst 0, 1) := by decide +kernel
theorem dX8_stirred_202 : decode cX8_stirred 202 = .ok (.iadd, 1) := by decide +kernel
theorem dX8_stirred_203 : decode cX8_stirred 203 = .ok (.istore_n 2, 1) := by decide +kernel
theorem dX8_stirred_204 : decode cX8_stirred 204 = .ok (.iinc 4 1, 3) := by decide +kernel
theorem dX8_stirred_207 : decode cX8_stirred 207 = .ok (.goto (-113), 3) := by decide +kernel
theorem dX8_stirred_210 : decode cX8_stirred 210 = .ok (.iinc 3 1, 3) := by decide +kernel
theorem dX8_stirred_213 : decode cX8_stirred 213 = .ok (.goto (-176), 3) := by decide +kernel
theorem dX8_stirred_216 : decode cX8_stirred 216 = .ok (.iload_n 2, 1) := by decide +kernel
theorem dX8_stirred_217 : decode cX8_stirred 217 = .ok (.ireturn, 1) := by decide +kernel
theorem dX8_look_0 : decode cX8_look 0 = .ok (.aload_n 0, 1) := by decide +kernel
theorem dX8_look_1 : decode cX8_look 1 = .ok (.getfield 12, 3) := by decide +kernel
theorem dX8_look_4 : decode cX8_look 4 = .ok (.getfield 75, 3) := by decide +kernel
theorem dX8_look_7 : decode cX8_look 7 = .ok (.getfield 113, 3) := by decide +kernel
theorem dX8_look_10 : decode cX8_look 10 = .ok (.invokestatic 339, 3) := by decide +kernel
theorem dX8_look_13 : decode cX8_look 13 = .ok (.istore_n 2, 1) := by decide +kernel
theorem dX8_look_14 : decode cX8_look 14 = .ok (.iload_n 1, 1) := by decide +kernel
theorem dX8_look_15 : decode cX8_look 15 = .ok (.tableswitch 123 0 8 #[49, 60, 72, 77, 82, 90, 98, 110, 118], 49) := by decide +kernel
theorem dX8_look_64 : decode cX8_look 64 = .ok (.aload_n 0, 1) := by decide +kernel
theorem dX8_look_65 : decode cX8_look 65 = .ok (.getfield 12, 3) := by decide +kernel
theorem dX8_look_68 : decode cX8_look 68 = .ok (.getfield 75, 3) := by decide +kernel
theorem dX8_look_71 : decode cX8_look 71 = .ok (.getfield 113, 3) := by decide +kernel
theorem dX8_look_74 : decode cX8_look 74 = .ok (.ireturn, 1) := by decide +kernel
theorem dX8_look_75 : decode cX8_look 75 = .ok (.aload_n 0, 1) := by decide +kernel
theorem dX8_look_76 : decode cX8_look 76 = .ok (.getfield 12, 3) := by decide +kernel
theorem dX8_look_79 : decode cX8_look 79 = .ok (.getfield 75, 3) := by decide +kernel
theorem dX8_look_82 : decode cX8_look 82 = .ok (.iload_n 2, 1) := by decide +kernel
theorem dX8_look_83 : decode cX8_look 83 = .ok (.invokevirtual 163, 3) := by decide +kernel
theorem dX8_look_86 : decode cX8_look 86 = .ok (.ireturn, 1) := by decide +kernel
theorem dX8_look_87 : decode cX8_look 87 = .ok (.aload_n 0, 1) := by decide +kernel
theorem dX8_look_88 : decode cX8_look 88 = .ok (.getfield 64, 3) := by decide +kernel
theorem dX8_look_91 : decode cX8_look 91 = .ok (.ireturn, 1) := by decide +kernel
theorem dX8_look_92 : decode cX8_look 92 = .ok (.aload_n 0, 1) := by decide +kernel
theorem dX8_look_93 : decode cX8_look 93 = .ok (.getfield 68, 3) := by decide +kernel
theorem dX8_look_96 : decode cX8_look 96 = .ok (.ireturn, 1) := by decide +kernel
theorem dX8_look_97 : decode cX8_look 97 = .ok (.aload_n 0, 1) := by decide +kernel
theorem dX8_look_98 : decode cX8_look 98 = .ok (.getfield 12, 3) := by decide +kernel
theorem dX8_look_101 : decode cX8_look 101 = .ok (.invokevirtual 327, 3) := by decide +kernel
theorem dX8_look_104 : decode cX8_look 104 = .ok (.ireturn, 1) := by decide +kernel
theorem dX8_look_105 : decode cX8_look 105 = .ok (.aload_n 0, 1) := by decide +kernel
theorem dX8_look_106 : decode cX8_look 106 = .ok (.getfield 12, 3) := by decide +kernel
theorem dX8_look_109 : decode cX8_look 109 = .ok (.invokevirtual 342, 3) := by decide +kernel
theorem dX8_look_112 : decode cX8_look 112 = .ok (.ireturn, 1) := by decide +kernel
theorem dX8_look_113 : decode cX8_look 113 = .ok (.aload_n 0, 1) := by decide +kernel
theorem dX8_look_114 : decode cX8_look 114 = .ok (.getfield 12, 3) := by decide +kernel
theorem dX8_look_117 : decode cX8_look 117 = .ok (.getfield 75, 3) := by decide +kernel
theorem dX8_look_120 : decode cX8_look 120 = .ok (.iload_n 2, 1) := by decide +kernel
theorem dX8_look_121 : decode cX8_look 121 = .ok (.invokevirtual 245, 3) := by decide +kernel
theorem dX8_look_124 : decode cX8_look 124 = .ok (.ireturn, 1) := by decide +kernel
theorem dX8_look_125 : decode cX8_look 125 = .ok (.aload_n 0, 1) := by decide +kernel
theorem dX8_look_126 : decode cX8_look 126 = .ok (.getfield 12, 3) := by decide +kernel
theorem dX8_look_129 : decode cX8_look 129 = .ok (.invokevirtual 345, 3) := by decide +kernel
theorem dX8_look_132 : decode cX8_look 132 = .ok (.ireturn, 1) := by decide +kernel
theorem dX8_look_133 : decode cX8_look 133 = .ok (.aload_n 0, 1) := by decide +kernel
theorem dX8_look_134 : decode cX8_look 134 = .ok (.invokevirtual 348, 3) := by decide +kernel
theorem dX8_look_137 : decode cX8_look 137 = .ok (.ireturn, 1) := by decide +kernel
theorem dX8_look_138 : decode cX8_look 138 = .ok (.bipush (-10), 2) := by decide +kernel
theorem dX8_look_140 : decode cX8_look 140 = .ok (.ireturn, 1) := by decide +kernel
theorem dX8_isZoom_0 : decode cX8_isZoom 0 = .ok (.iload_n 0, 1) := by decide +kernel
theorem dX8_isZoom_1 : decode cX8_isZoom 1 = .ok (.ifCond .lt 13, 3) := by decide +kernel
theorem dX8_isZoom_4 : decode cX8_isZoom 4 = .ok (.iload_n 0, 1) := by decide +kernel
theorem dX8_isZoom_5 : decode cX8_isZoom 5 = .ok (.bipush 10, 2) := by decide +kernel
theorem dX8_isZoom_7 : decode cX8_isZoom 7 = .ok (.if_icmp .gt 7, 3) := by decide +kernel
theorem dX8_isZoom_10 : decode cX8_isZoom 10 = .ok (.iconst 1, 1) := by decide +kernel
theorem dX8_isZoom_11 : decode cX8_isZoom 11 = .ok (.goto 4, 3) := by decide +kernel
theorem dX8_isZoom_14 : decode cX8_isZoom 14 = .ok (.iconst 0, 1) := by decide +kernel
theorem dX8_isZoom_15 : decode cX8_isZoom 15 = .ok (.ireturn, 1) := by decide +kernel
theorem dX8_isWeight_0 : decode cX8_isWeight 0 = .ok (.iload_n 0, 1) := by decide +kernel
theorem dX8_isWeight_1 : decode cX8_isWeight 1 = .ok (.iconst 1, 1) := by decide +kernel
theorem dX8_isWeight_2 : decode cX8_isWeight 2 = .ok (.if_icmp .lt 13, 3) := by decide +kernel
theorem dX8_isWeight_5 : decode cX8_isWeight 5 = .ok (.iload_n 0, 1) := by decide +kernel
theorem dX8_isWeight_6 : decode cX8_isWeight 6 = .ok (.bipush 99, 2) := by decide +kernel
theorem dX8_isWeight_8 : decode cX8_isWeight 8 = .ok (.if_icmp .gt 7, 3) := by decide +kernel
theorem dX8_isWeight_11 : decode cX8_isWeight 11 = .ok (.iconst 1, 1) := by decide +kernel
theorem dX8_isWeight_12 : decode cX8_isWeight 12 = .ok (.goto 4, 3) := by decide +kernel
theorem dX8_isWeight_15 : decode cX8_isWeight 15 = .ok (.iconst 0, 1) := by decide +kernel
theorem dX8_isWeight_16 : decode cX8_isWeight 16 = .ok (.ireturn, 1) := by decide +kernel
theorem dX8_isNearPlace_0 : decode cX8_isNearPlace 0 = .ok (.iload_n 0, 1) := by decide +kernel
theorem dX8_isNearPlace_1 : decode cX8_isNearPlace 1 = .ok (.sipush (-9999), 3) := by decide +kernel
theorem dX8_isNearPlace_4 : decode cX8_isNearPlace 4 = .ok (.if_icmp .lt 14, 3) := by decide +kernel
theorem dX8_isNearPlace_7 : decode cX8_isNearPlace 7 = .ok (.iload_n 0, 1) := by decide +kernel
theorem dX8_isNearPlace_8 : decode cX8_isNearPlace 8 = .ok (.sipush 9999, 3) := by decide +kernel
theorem dX8_isNearPlace_11 : decode cX8_isNearPlace 11 = .ok (.if_icmp .gt 7, 3) := by decide +kernel
theorem dX8_isNearPlace_14 : decode cX8_isNearPlace 14 = .ok (.iconst 1, 1) := by decide +kernel
theorem dX8_isNearPlace_15 : decode cX8_isNearPlace 15 = .ok (.goto 4, 3) := by decide +kernel
theorem dX8_isNearPlace_18 : decode cX8_isNearPlace 18 = .ok (.iconst 0, 1) := by decide +kernel
theorem dX8_isNearPlace_19 : decode cX8_isNearPlace 19 = .ok (.ireturn, 1) := by decide +kernel
theorem dX8_isTile_0 : decode cX8_isTile 0 = .ok (.iload_n 0, 1) := by decide +kernel
theorem dX8_isTile_1 : decode cX8_isTile 1 = .ok (.invokestatic 203, 3) := by decide +kernel
theorem dX8_isTile_4 : decode cX8_isTile 4 = .ok (.ifCond .eq 18, 3) := by decide +kernel
theorem dX8_isTile_7 : decode cX8_isTile 7 = .ok (.iload_n 1, 1) := by decide +kernel
theorem dX8_isTile_8 : decode cX8_isTile 8 = .ok (.ifCond .lt 14, 3) := by decide +kernel
theorem dX8_isTile_11 : decode cX8_isTile 11 = .ok (.iload_n 1, 1) := by decide +kernel
theorem dX8_isTile_12 : decode cX8_isTile 12 = .ok (.iconst 1, 1) := by decide +kernel
theorem dX8_isTile_13 : decode cX8_isTile 13 = .ok (.iload_n 0, 1) := by decide +kernel
theorem dX8_isTile_14 : decode cX8_isTile 14 = .ok (.ishl, 1) := by decide +kernel
theorem dX8_isTile_15 : decode cX8_isTile 15 = .ok (.if_icmp .ge 7, 3) := by decide +kernel
theorem dX8_isTile_18 : decode cX8_isTile 18 = .ok (.iconst 1, 1) := by decide +kernel
theorem dX8_isTile_19 : decode cX8_isTile 19 = .ok (.goto 4, 3) := by decide +kernel
theorem dX8_isTile_22 : decode cX8_isTile 22 = .ok (.iconst 0, 1) := by decide +kernel
theorem dX8_isTile_23 : decode cX8_isTile 23 = .ok (.ireturn, 1) := by decide +kernel
theorem dX8_isPoint_0 : decode cX8_isPoint 0 = .ok (.iload_n 1, 1) := by decide +kernel
theorem dX8_isPoint_1 : decode cX8_isPoint 1 = .ok (.ifCond .lt 21, 3) := by decide +kernel
theorem dX8_isPoint_4 : decode cX8_isPoint 4 = .ok (.iload_n 1, 1) := by decide +kernel
theorem dX8_isPoint_5 : decode cX8_isPoint 5 = .ok (.aload_n 0, 1) := by decide +kernel
theorem dX8_isPoint_6 : decode cX8_isPoint 6 = .ok (.getfield 12, 3) := by decide +kernel
theorem dX8_isPoint_9 : decode cX8_isPoint 9 = .ok (.getfield 75, 3) := by decide +kernel
theorem dX8_isPoint_12 : decode cX8_isPoint 12 = .ok (.getfield 113, 3) := by decide +kernel
theorem dX8_isPoint_15 : decode cX8_isPoint 15 = .ok (.if_icmp .ge 7, 3) := by decide +kernel
theorem dX8_isPoint_18 : decode cX8_isPoint 18 = .ok (.iconst 1, 1) := by decide +kernel
theorem dX8_isPoint_19 : decode cX8_isPoint 19 = .ok (.goto 4, 3) := by decide +kernel
theorem dX8_isPoint_22 : decode cX8_isPoint 22 = .ok (.iconst 0, 1) := by decide +kernel
theorem dX8_isPoint_23 : decode cX8_isPoint 23 = .ok (.ireturn, 1) := by decide +kernel
theorem dX8_cutsGroup_0 : decode cX8_cutsGroup 0 = .ok (.iload_n 1, 1) := by decide +kernel
theorem dX8_cutsGroup_1 : decode cX8_cutsGroup 1 = .ok (.invokestatic 203, 3) := by decide +kernel
theorem dX8_cutsGroup_4 : decode cX8_cutsGroup 4 = .ok (.ifCond .ne 5, 3) := by decide +kernel
theorem dX8_cutsGroup_7 : decode cX8_cutsGroup 7 = .ok (.iconst 0, 1) := by decide +kernel
theorem dX8_cutsGroup_8 : decode cX8_cutsGroup 8 = .ok (.ireturn, 1) := by decide +kernel
theorem dX8_cutsGroup_9 : decode cX8_cutsGroup 9 = .ok (.aload_n 0, 1) := by decide +kernel
theorem dX8_cutsGroup_10 : decode cX8_cutsGroup 10 = .ok (.getfield 25, 3) := by decide +kernel
theorem dX8_cutsGroup_13 : decode cX8_cutsGroup 13 = .ok (.aload_n 0, 1) := by decide +kernel
theorem dX8_cutsGroup_14 : decode cX8_cutsGroup 14 = .ok (.getfield 12, 3) := by decide +kernel
theorem dX8_cutsGroup_17 : decode cX8_cutsGroup 17 = .ok (.iload_n 1, 1) := by decide +kernel
theorem dX8_cutsGroup_18 : decode cX8_cutsGroup 18 = .ok (.invokevirtual 206, 3) := by decide +kernel
theorem dX8_cutsGroup_21 : decode cX8_cutsGroup 21 = .ok (.iload_n 2, 1) := by decide +kernel
theorem dX8_cutsGroup_22 : decode cX8_cutsGroup 22 = .ok (.ifCond .lt 18, 3) := by decide +kernel
theorem dX8_cutsGroup_25 : decode cX8_cutsGroup 25 = .ok (.iload_n 2, 1) := by decide +kernel
theorem dX8_cutsGroup_26 : decode cX8_cutsGroup 26 = .ok (.aload_n 0, 1) := by decide +kernel
theorem dX8_cutsGroup_27 : decode cX8_cutsGroup 27 = .ok (.getfield 25, 3) := by decide +kernel
theorem dX8_cutsGroup_30 : decode cX8_cutsGroup 30 = .ok (.getfield 283, 3) := by decide +kernel
theorem dX8_cutsGroup_33 : decode cX8_cutsGroup 33 = .ok (.if_icmp .ge 7, 3) := by decide +kernel
theorem dX8_cutsGroup_36 : decode cX8_cutsGroup 36 = .ok (.iconst 1, 1) := by decide +kernel
theorem dX8_cutsGroup_37 : decode cX8_cutsGroup 37 = .ok (.goto 4, 3) := by decide +kernel
theorem dX8_cutsGroup_40 : decode cX8_cutsGroup 40 = .ok (.iconst 0, 1) := by decide +kernel
theorem dX8_cutsGroup_41 : decode cX8_cutsGroup 41 = .ok (.ireturn, 1) := by decide +kernel
theorem dX8_startRepair_0 : decode cX8_startRepair 0 = .ok (.aload_n 0, 1) := by decide +kernel
theorem dX8_startRepair_1 : decode cX8_startRepair 1 = .ok (.getfield 16, 3) := by decide +kernel
theorem dX8_startRepair_4 : decode cX8_startRepair 4 = .ok (.astore_n 1, 1) := by decide +kernel
theorem dX8_startRepair_5 : decode cX8_startRepair 5 = .ok (.aload_n 0, 1) := by decide +kernel
theorem dX8_startRepair_6 : decode cX8_startRepair 6 = .ok (.aload_n 0, 1) := by decide +kernel
theorem dX8_startRepair_7 : decode cX8_startRepair 7 = .ok (.getfield 12, 3) := by decide +kernel
theorem dX8_startRepair_10 : decode cX8_startRepair 10 = .ok (.putfield 16, 3) := by decide +kernel
theorem dX8_startRepair_13 : decode cX8_startRepair 13 = .ok (.aload_n 0, 1) := by decide +kernel
theorem dX8_startRepair_14 : decode cX8_startRepair 14 = .ok (.aload_n 1, 1) := by decide +kernel
theorem dX8_startRepair_15 : decode cX8_startRepair 15 = .ok (.putfield 12, 3) := by decide +kernel
theorem dX8_startRepair_18 : decode cX8_startRepair 18 = .ok (.aload_n 0, 1) := by decide +kernel
theorem dX8_startRepair_19 : decode cX8_startRepair 19 = .ok (.getfield 12, 3) := by decide +kernel
theorem dX8_startRepair_22 : decode cX8_startRepair 22 = .ok (.getfield 75, 3) := by decide +kernel
theorem dX8_startRepair_25 : decode cX8_startRepair 25 = .ok (.aload_n 0, 1) := by decide +kernel
theorem dX8_startRepair_26 : decode cX8_startRepair 26 = .ok (.getfield 16, 3) := by decide +kernel
theorem dX8_startRepair_29 : decode cX8_startRepair 29 = .ok (.getfield 75, 3) := by decide +kernel
theorem dX8_startRepair_32 : decode cX8_startRepair 32 = .ok (.invokevirtual 335, 3) := by decide +kernel
theorem dX8_startRepair_35 : decode cX8_startRepair 35 = .ok (.return_, 1) := by decide +kernel
theorem dX8_draw_0 : decode cX8_draw 0 = .ok (.aload_n 0, 1) := by decide +kernel
theorem dX8_draw_1 : decode cX8_draw 1 = .ok (.ldc_w 351, 3) := by decide +kernel
theorem dX8_draw_4 : decode cX8_draw 4 = .ok (.aload_n 0, 1) := by decide +kernel
theorem dX8_draw_5 : decode cX8_draw 5 = .ok (.getfield 68, 3) := by decide +kernel
theorem dX8_draw_8 : decode cX8_draw 8 = .ok (.imul, 1) := by decide +kernel
theorem dX8_draw_9 : decode cX8_draw 9 = .ok (.ldc_w 352, 3) := by decide +kernel
theorem dX8_draw_12 : decode cX8_draw 12 = .ok (.iadd, 1) := by decide +kernel
theorem dX8_draw_13 : decode cX8_draw 13 = .ok (.putfield 68, 3) := by decide +kernel
theorem dX8_draw_16 : decode cX8_draw 16 = .ok (.iload_n 1, 1) := by decide +kernel
theorem dX8_draw_17 : decode cX8_draw 17 = .ok (.iconst 1, 1) := by decide +kernel
theorem dX8_draw_18 : decode cX8_draw 18 = .ok (.if_icmp .ge 7, 3) := by decide +kernel
theorem dX8_draw_21 : decode cX8_draw 21 = .ok (.iconst 0, 1) := by decide +kernel
theorem dX8_draw_22 : decode cX8_draw 22 = .ok (.goto 12, 3) := by decide +kernel
theorem dX8_draw_25 : decode cX8_draw 25 = .ok (.aload_n 0, 1) := by decide +kernel
theorem dX8_draw_26 : decode cX8_draw 26 = .ok (.getfield 68, 3) := by decide +kernel
theorem dX8_draw_29 : decode cX8_draw 29 = .ok (.bipush 8, 2) := by decide +kernel
theorem dX8_draw_31 : decode cX8_draw 31 = .ok (.iushr, 1) := by decide +kernel
theorem dX8_draw_32 : decode cX8_draw 32 = .ok (.iload_n 1, 1) := by decide +kernel
theorem dX8_draw_33 : decode cX8_draw 33 = .ok (.irem, 1) := by decide +kernel
theorem dX8_draw_34 : decode cX8_draw 34 = .ok (.ireturn, 1) := by decide +kernel
theorem dX8_layLabels_0 : decode cX8_layLabels 0 = .ok (.aload_n 0, 1) := by decide +kernel
theorem dX8_layLabels_1 : decode cX8_layLabels 1 = .ok (.getfield 25, 3) := by decide +kernel
theorem dX8_layLabels_4 : decode cX8_layLabels 4 = .ok (.aload_n 0, 1) := by decide +kernel
theorem dX8_layLabels_5 : decode cX8_layLabels 5 = .ok (.getfield 12, 3) := by decide +kernel
theorem dX8_layLabels_8 : decode cX8_layLabels 8 = .ok (.iload_n 1, 1) := by decide +kernel
theorem dX8_layLabels_9 : decode cX8_layLabels 9 = .ok (.invokevirtual 206, 3) := by decide +kernel
theorem dX8_layLabels_12 : decode cX8_layLabels 12 = .ok (.aload_n 0, 1) := by decide +kernel
theorem dX8_layLabels_13 : decode cX8_layLabels 13 = .ok (.getfield 35, 3) := by decide +kernel
theorem dX8_layLabels_16 : decode cX8_layLabels 16 = .ok (.aload_n 0, 1) := by decide +kernel
theorem dX8_layLabels_17 : decode cX8_layLabels 17 = .ok (.getfield 25, 3) := by decide +kernel
theorem dX8_layLabels_20 : decode cX8_layLabels 20 = .ok (.aload_n 0, 1) := by decide +kernel
theorem dX8_layLabels_21 : decode cX8_layLabels 21 = .ok (.getfield 64, 3) := by decide +kernel
theorem dX8_layLabels_24 : decode cX8_layLabels 24 = .ok (.iload_n 1, 1) := by decide +kernel
theorem dX8_layLabels_25 : decode cX8_layLabels 25 = .ok (.ishr, 1) := by decide +kernel
theorem dX8_layLabels_26 : decode cX8_layLabels 26 = .ok (.invokevirtual 353, 3) := by decide +kernel
theorem dX8_layLabels_29 : decode cX8_layLabels 29 = .ok (.return_, 1) := by decide +kernel
theorem dX8_rankInRow_0 : decode cX8_rankInRow 0 = .ok (.iconst 0, 1) := by decide +kernel
theorem dX8_rankInRow_1 : decode cX8_rankInRow 1 = .ok (.istore_n 3, 1) := by decide +kernel
theorem dX8_rankInRow_2 : decode cX8_rankInRow 2 = .ok (.iconst 0, 1) := by decide +kernel
theorem dX8_rankInRow_3 : decode cX8_rankInRow 3 = .ok (.istore 4, 2) := by decide +kernel
theorem dX8_rankInRow_5 : decode cX8_rankInRow 5 = .ok (.iload 4, 2) := by decide +kernel
theorem dX8_rankInRow_7 : decode cX8_rankInRow 7 = .ok (.iload_n 2, 1) := by decide +kernel
theorem dX8_rankInRow_8 : decode cX8_rankInRow 8 = .ok (.if_icmp .ge 50, 3) := by decide +kernel
theorem dX8_rankInRow_11 : decode cX8_rankInRow 11 = .ok (.aload_n 0, 1) := by decide +kernel
theorem dX8_rankInRow_12 : decode cX8_rankInRow 12 = .ok (.getfield 60, 3) := by decide +kernel
theorem dX8_rankInRow_15 : decode cX8_rankInRow 15 = .ok (.iload 4, 2) := by decide +kernel
theorem dX8_rankInRow_17 : decode cX8_rankInRow 17 = .ok (.iaload, 1) := by decide +kernel
theorem dX8_rankInRow_18 : decode cX8_rankInRow 18 = .ok (.aload_n 0, 1) := by decide +kernel
theorem dX8_rankInRow_19 : decode cX8_rankInRow 19 = .ok (.getfield 60, 3) := by decide +kernel
theorem dX8_rankInRow_22 : decode cX8_rankInRow 22 = .ok (.iload_n 1, 1) := by decide +kernel
theorem dX8_rankInRow_23 : decode cX8_rankInRow 23 = .ok (.iaload, 1) := by decide +kernel
theorem dX8_rankInRow_24 : decode cX8_rankInRow 24 = .ok (.if_icmp .lt 25, 3) := by decide +kernel
theorem dX8_rankInRow_27 : decode cX8_rankInRow 27 = .ok (.aload_n 0, 1) := by decide +kernel
theorem dX8_rankInRow_28 : decode cX8_rankInRow 28 = .ok (.getfield 60, 3) := by decide +kernel
theorem dX8_rankInRow_31 : decode cX8_rankInRow 31 = .ok (.iload 4, 2) := by decide +kernel
theorem dX8_rankInRow_33 : decode cX8_rankInRow 33 = .ok (.iaload, 1) := by decide +kernel
theorem dX8_rankInRow_34 : decode cX8_rankInRow 34 = .ok (.aload_n 0, 1) := by decide +kernel
theorem dX8_rankInRow_35 : decode cX8_rankInRow 35 = .ok (.getfield 60, 3) := by decide +kernel
theorem dX8_rankInRow_38 : decode cX8_rankInRow 38 = .ok (.iload_n 1, 1) := by decide +kernel
theorem dX8_rankInRow_39 : decode cX8_rankInRow 39 = .ok (.iaload, 1) := by decide +kernel
theorem dX8_rankInRow_40 : decode cX8_rankInRow 40 = .ok (.if_icmp .ne 12, 3) := by decide +kernel
theorem dX8_rankInRow_43 : decode cX8_rankInRow 43 = .ok (.iload 4, 2) := by decide +kernel
theorem dX8_rankInRow_45 : decode cX8_rankInRow 45 = .ok (.iload_n 1, 1) := by decide +kernel
theorem dX8_rankInRow_46 : decode cX8_rankInRow 46 = .ok (.if_icmp .ge 6, 3) := by decide +kernel
theorem dX8_rankInRow_49 : decode cX8_rankInRow 49 = .ok (.iinc 3 1, 3) := by decide +kernel
theorem dX8_rankInRow_52 : decode cX8_rankInRow 52 = .ok (.iinc 4 1, 3) := by decide +kernel
theorem dX8_rankInRow_55 : decode cX8_rankInRow 55 = .ok (.goto (-50), 3) := by decide +kernel
theorem dX8_rankInRow_58 : decode cX8_rankInRow 58 = .ok (.iload_n 3, 1) := by decide +kernel
theorem dX8_rankInRow_59 : decode cX8_rankInRow 59 = .ok (.ireturn, 1) := by decide +kernel
theorem dX8_nextInRow_0 : decode cX8_nextInRow 0 = .ok (.iconst (-1), 1) := by decide +kernel
theorem dX8_nextInRow_1 : decode cX8_nextInRow 1 = .ok (.istore_n 3, 1) := by decide +kernel
theorem dX8_nextInRow_2 : decode cX8_nextInRow 2 = .ok (.iconst 0, 1) := by decide +kernel
theorem dX8_nextInRow_3 : decode cX8_nextInRow 3 = .ok (.istore 4, 2) := by decide +kernel
theorem dX8_nextInRow_5 : decode cX8_nextInRow 5 = .ok (.iload 4, 2) := by decide +kernel
theorem dX8_nextInRow_7 : decode cX8_nextInRow 7 = .ok (.iload_n 2, 1) := by decide +kernel
theorem dX8_nextInRow_8 : decode cX8_nextInRow 8 = .ok (.if_icmp .ge 44, 3) := by decide +kernel
theorem dX8_nextInRow_11 : decode cX8_nextInRow 11 = .ok (.aload_n 0, 1) := by decide +kernel
theorem dX8_nextInRow_12 : decode cX8_nextInRow 12 = .ok (.getfield 60, 3) := by decide +kernel
theorem dX8_nextInRow_15 : decode cX8_nextInRow 15 = .ok (.iload 4, 2) := by decide +kernel
theorem dX8_nextInRow_17 : decode cX8_nextInRow 17 = .ok (.iaload, 1) := by decide +kernel
theorem dX8_nextInRow_18 : decode cX8_nextInRow 18 = .ok (.iload_n 1, 1) := by decide +kernel
theorem dX8_nextInRow_19 : decode cX8_nextInRow 19 = .ok (.if_icmp .le 27, 3) := by decide +kernel
theorem dX8_nextInRow_22 : decode cX8_nextInRow 22 = .ok (.iload_n 3, 1) := by decide +kernel
theorem dX8_nextInRow_23 : decode cX8_nextInRow 23 = .ok (.iconst (-1), 1) := by decide +kernel
theorem dX8_nextInRow_24 : decode cX8_nextInRow 24 = .ok (.if_icmp .eq 14, 3) := by decide +kernel
theorem dX8_nextInRow_27 : decode cX8_nextInRow 27 = .ok (.aload_n 0, 1) := by decide +kernel
theorem dX8_nextInRow_28 : decode cX8_nextInRow 28 = .ok (.getfield 60, 3) := by decide +kernel
theorem dX8_nextInRow_31 : decode cX8_nextInRow 31 = .ok (.iload 4, 2) := by decide +kernel
theorem dX8_nextInRow_33 : decode cX8_nextInRow 33 = .ok (.iaload, 1) := by decide +kernel
theorem dX8_nextInRow_34 : decode cX8_nextInRow 34 = .ok (.iload_n 3, 1) := by decide +kernel
theorem dX8_nextInRow_35 : decode cX8_nextInRow 35 = .ok (.if_icmp .ge 11, 3) := by decide +kernel
theorem dX8_nextInRow_38 : decode cX8_nextInRow 38 = .ok (.aload_n 0, 1) := by decide +kernel
theorem dX8_nextInRow_39 : decode cX8_nextInRow 39 = .ok (.getfield 60, 3) := by decide +kernel
theorem dX8_nextInRow_42 : decode cX8_nextInRow 42 = .ok (.iload 4, 2) := by decide +kernel
theorem dX8_nextInRow_44 : decode cX8_nextInRow 44 = .ok (.iaload, 1) := by decide +kernel
theorem dX8_nextInRow_45 : decode cX8_nextInRow 45 = .ok (.istore_n 3, 1) := by decide +kernel
theorem dX8_nextInRow_46 : decode cX8_nextInRow 46 = .ok (.iinc 4 1, 3) := by decide +kernel
theorem dX8_nextInRow_49 : decode cX8_nextInRow 49 = .ok (.goto (-44), 3) := by decide +kernel
theorem dX8_nextInRow_52 : decode cX8_nextInRow 52 = .ok (.iload_n 3, 1) := by decide +kernel
theorem dX8_nextInRow_53 : decode cX8_nextInRow 53 = .ok (.ireturn, 1) := by decide +kernel
theorem dX8_countSplits_0 : decode cX8_countSplits 0 = .ok (.iload_n 1, 1) := by decide +kernel
theorem dX8_countSplits_1 : decode cX8_countSplits 1 = .ok (.bipush 10, 2) := by decide +kernel
theorem dX8_countSplits_3 : decode cX8_countSplits 3 = .ok (.if_icmp .lt 5, 3) := by decide +kernel
theorem dX8_countSplits_6 : decode cX8_countSplits 6 = .ok (.iconst 1, 1) := by decide +kernel
theorem dX8_countSplits_7 : decode cX8_countSplits 7 = .ok (.ireturn, 1) := by decide +kernel
theorem dX8_countSplits_8 : decode cX8_countSplits 8 = .ok (.aload_n 0, 1) := by decide +kernel
theorem dX8_countSplits_9 : decode cX8_countSplits 9 = .ok (.getfield 29, 3) := by decide +kernel
theorem dX8_countSplits_12 : decode cX8_countSplits 12 = .ok (.aload_n 0, 1) := by decide +kernel
theorem dX8_countSplits_13 : decode cX8_countSplits 13 = .ok (.getfield 12, 3) := by decide +kernel
theorem dX8_countSplits_16 : decode cX8_countSplits 16 = .ok (.iload_n 1, 1) := by decide +kernel
theorem dX8_countSplits_17 : decode cX8_countSplits 17 = .ok (.iconst 1, 1) := by decide +kernel
theorem dX8_countSplits_18 : decode cX8_countSplits 18 = .ok (.iadd, 1) := by decide +kernel
theorem dX8_countSplits_19 : decode cX8_countSplits 19 = .ok (.invokevirtual 206, 3) := by decide +kernel
theorem dX8_countSplits_22 : decode cX8_countSplits 22 = .ok (.aload_n 0, 1) := by decide +kernel
theorem dX8_countSplits_23 : decode cX8_countSplits 23 = .ok (.getfield 29, 3) := by decide +kernel
theorem dX8_countSplits_26 : decode cX8_countSplits 26 = .ok (.iload_n 2, 1) := by decide +kernel
theorem dX8_countSplits_27 : decode cX8_countSplits 27 = .ok (.invokevirtual 251, 3) := by decide +kernel
theorem dX8_countSplits_30 : decode cX8_countSplits 30 = .ok (.invokestatic 158, 3) := by decide +kernel
theorem dX8_countSplits_33 : decode cX8_countSplits 33 = .ok (.ireturn, 1) := by decide +kernel
theorem dX8_pointsInTile_0 : decode cX8_pointsInTile 0 = .ok (.sipush 1024, 3) := by decide +kernel
theorem dX8_pointsInTile_3 : decode cX8_pointsInTile 3 = .ok (.iload_n 1, 1) := by decide +kernel
theorem dX8_pointsInTile_4 : decode cX8_pointsInTile 4 = .ok (.ishr, 1) := by decide +kernel
theorem dX8_pointsInTile_5 : decode cX8_pointsInTile 5 = .ok (.istore 4, 2) := by decide +kernel
theorem dX8_pointsInTile_7 : decode cX8_pointsInTile 7 = .ok (.iload_n 2, 1) := by decide +kernel
theorem dX8_pointsInTile_8 : decode cX8_pointsInTile 8 = .ok (.iload 4, 2) := by decide +kernel
theorem dX8_pointsInTile_10 : decode cX8_pointsInTile 10 = .ok (.imul, 1) := by decide +kernel
theorem dX8_pointsInTile_11 : decode cX8_pointsInTile 11 = .ok (.istore 5, 2) := by decide +kernel
theorem dX8_pointsInTile_13 : decode cX8_pointsInTile 13 = .ok (.iload_n 3, 1) := by decide +kernel
theorem dX8_pointsInTile_14 : decode cX8_pointsInTile 14 = .ok (.iload 4, 2) := by decide +kernel
theorem dX8_pointsInTile_16 : decode cX8_pointsInTile 16 = .ok (.imul, 1) := by decide +kernel
theorem dX8_pointsInTile_17 : decode cX8_pointsInTile 17 = .ok (.istore 6, 2) := by decide +kernel
theorem dX8_pointsInTile_19 : decode cX8_pointsInTile 19 = .ok (.aload_n 0, 1) := by decide +kernel
theorem dX8_pointsInTile_20 : decode cX8_pointsInTile 20 = .ok (.getfield 12, 3) := by decide +kernel
theorem dX8_pointsInTile_23 : decode cX8_pointsInTile 23 = .ok (.getfield 75, 3) := by decide +kernel
theorem dX8_pointsInTile_26 : decode cX8_pointsInTile 26 = .ok (.iload 5, 2) := by decide +kernel
theorem dX8_pointsInTile_28 : decode cX8_pointsInTile 28 = .ok (.iload 5, 2) := by decide +kernel
theorem dX8_pointsInTile_30 : decode cX8_pointsInTile 30 = .ok (.iload 4, 2) := by decide +kernel
theorem dX8_pointsInTile_32 : decode cX8_pointsInTile 32 = .ok (.iadd, 1) := by decide +kernel
theorem dX8_pointsInTile_33 : decode cX8_pointsInTile 33 = .ok (.iconst 1, 1) := by decide +kernel
theorem dX8_pointsInTile_34 : decode cX8_pointsInTile 34 = .ok (.isub, 1) := by decide +kernel
theorem dX8_pointsInTile_35 : decode cX8_pointsInTile 35 = .ok (.iload 6, 2) := by decide +kernel
theorem dX8_pointsInTile_37 : decode cX8_pointsInTile 37 = .ok (.iload 6, 2) := by decide +kernel
theorem dX8_pointsInTile_39 : decode cX8_pointsInTile 39 = .ok (.iload 4, 2) := by decide +kernel
theorem dX8_pointsInTile_41 : decode cX8_pointsInTile 41 = .ok (.iadd, 1) := by decide +kernel
theorem dX8_pointsInTile_42 : decode cX8_pointsInTile 42 = .ok (.iconst 1, 1) := by decide +kernel
theorem dX8_pointsInTile_43 : decode cX8_pointsInTile 43 = .ok (.isub, 1) := by decide +kernel
theorem dX8_pointsInTile_44 : decode cX8_pointsInTile 44 = .ok (.invokevirtual 258, 3) := by decide +kernel
theorem dX8_pointsInTile_47 : decode cX8_pointsInTile 47 = .ok (.ireturn, 1) := by decide +kernel
theorem dX8_filledQuarters_0 : decode cX8_filledQuarters 0 = .ok (.iconst 0, 1) := by decide +kernel
theorem dX8_filledQuarters_1 : decode cX8_filledQuarters 1 = .ok (.istore 4, 2) := by decide +kernel
theorem dX8_filledQuarters_3 : decode cX8_filledQuarters 3 = .ok (.iconst 0, 1) := by decide +kernel
theorem dX8_filledQuarters_4 : decode cX8_filledQuarters 4 = .ok (.istore 5, 2) := by decide +kernel
theorem dX8_filledQuarters_6 : decode cX8_filledQuarters 6 = .ok (.iload 5, 2) := by decide +kernel
theorem dX8_filledQuarters_8 : decode cX8_filledQuarters 8 = .ok (.iconst 4, 1) := by decide +kernel
theorem dX8_filledQuarters_9 : decode cX8_filledQuarters 9 = .ok (.if_icmp .ge 44, 3) := by decide +kernel
theorem dX8_filledQuarters_12 : decode cX8_filledQuarters 12 = .ok (.aload_n 0, 1) := by decide +kernel
theorem dX8_filledQuarters_13 : decode cX8_filledQuarters 13 = .ok (.iload_n 1, 1) := by decide +kernel
theorem dX8_filledQuarters_14 : decode cX8_filledQuarters 14 = .ok (.iconst 1, 1) := by decide +kernel
theorem dX8_filledQuarters_15 : decode cX8_filledQuarters 15 = .ok (.iadd, 1) := by decide +kernel
theorem dX8_filledQuarters_16 : decode cX8_filledQuarters 16 = .ok (.iconst 2, 1) := by decide +kernel
theorem dX8_filledQuarters_17 : decode cX8_filledQuarters 17 = .ok (.iload_n 2, 1) := by decide +kernel
theorem dX8_filledQuarters_18 : decode cX8_filledQuarters 18 = .ok (.imul, 1) := by decide +kernel
theorem dX8_filledQuarters_19 : decode cX8_filledQuarters 19 = .ok (.iload 5, 2) := by decide +kernel
theorem dX8_filledQuarters_21 : decode cX8_filledQuarters 21 = .ok (.iconst 2, 1) := by decide +kernel
theorem dX8_filledQuarters_22 : decode cX8_filledQuarters 22 = .ok (.irem, 1) := by decide +kernel
theorem dX8_filledQuarters_23 : decode cX8_filledQuarters 23 = .ok (.iadd, 1) := by decide +kernel
theorem dX8_filledQuarters_24 : decode cX8_filledQuarters 24 = .ok (.iconst 2, 1) := by decide +kernel
theorem dX8_filledQuarters_25 : decode cX8_filledQuarters 25 = .ok (.iload_n 3, 1) := by decide +kernel
theorem dX8_filledQuarters_26 : decode cX8_filledQuarters 26 = .ok (.imul, 1) := by decide +kernel
theorem dX8_filledQuarters_27 : decode cX8_filledQuarters 27 = .ok (.iload 5, 2) := by decide +kernel
theorem dX8_filledQuarters_29 : decode cX8_filledQuarters 29 = .ok (.iconst 2, 1) := by decide +kernel
theorem dX8_filledQuarters_30 : decode cX8_filledQuarters 30 = .ok (.idiv, 1) := by decide +kernel
theorem dX8_filledQuarters_31 : decode cX8_filledQuarters 31 = .ok (.iadd, 1) := by decide +kernel
theorem dX8_filledQuarters_32 : decode cX8_filledQuarters 32 = .ok (.invokevirtual 293, 3) := by decide +kernel
theorem dX8_filledQuarters_35 : decode cX8_filledQuarters 35 = .ok (.ifCond .eq 12, 3) := by decide +kernel
theorem dX8_filledQuarters_38 : decode cX8_filledQuarters 38 = .ok (.iload 4, 2) := by decide +kernel
theorem dX8_filledQuarters_40 : decode cX8_filledQuarters 40 = .ok (.iconst 1, 1) := by decide +kernel
theorem dX8_filledQuarters_41 : decode cX8_filledQuarters 41 = .ok (.iload 5, 2) := by decide +kernel
theorem dX8_filledQuarters_43 : decode cX8_filledQuarters 43 = .ok (.ishl, 1) := by decide +kernel
theorem dX8_filledQuarters_44 : decode cX8_filledQuarters 44 = .ok (.ior, 1) := by decide +kernel
theorem dX8_filledQuarters_45 : decode cX8_filledQuarters 45 = .ok (.istore 4, 2) := by decide +kernel
theorem dX8_filledQuarters_47 : decode cX8_filledQuarters 47 = .ok (.iinc 5 1, 3) := by decide +kernel
theorem dX8_filledQuarters_50 : decode cX8_filledQuarters 50 = .ok (.goto (-44), 3) := by decide +kernel
theorem dX8_filledQuarters_53 : decode cX8_filledQuarters 53 = .ok (.iload 4, 2) := by decide +kernel
theorem dX8_filledQuarters_55 : decode cX8_filledQuarters 55 = .ok (.ireturn, 1) := by decide +kernel
theorem dX8_widestTile_0 : decode cX8_widestTile 0 = .ok (.aload_n 0, 1) := by decide +kernel
theorem dX8_widestTile_1 : decode cX8_widestTile 1 = .ok (.getfield 12, 3) := by decide +kernel
theorem dX8_widestTile_4 : decode cX8_widestTile 4 = .ok (.getfield 75, 3) := by decide +kernel
theorem dX8_widestTile_7 : decode cX8_widestTile 7 = .ok (.astore_n 3, 1) := by decide +kernel
theorem dX8_widestTile_8 : decode cX8_widestTile 8 = .ok (.iconst 0, 1) := by decide +kernel
theorem dX8_widestTile_9 : decode cX8_widestTile 9 = .ok (.istore 4, 2) := by decide +kernel
theorem dX8_widestTile_11 : decode cX8_widestTile 11 = .ok (.iload 4, 2) := by decide +kernel
theorem dX8_widestTile_13 : decode cX8_widestTile 13 = .ok (.bipush 10, 2) := by decide +kernel
theorem dX8_widestTile_15 : decode cX8_widestTile 15 = .ok (.if_icmp .gt 54, 3) := by decide +kernel
theorem dX8_widestTile_18 : decode cX8_widestTile 18 = .ok (.bipush 10, 2) := by decide +kernel
theorem dX8_widestTile_20 : decode cX8_widestTile 20 = .ok (.iload 4, 2) := by decide +kernel
theorem dX8_widestTile_22 : decode cX8_widestTile 22 = .ok (.isub, 1) := by decide +kernel
theorem dX8_widestTile_23 : decode cX8_widestTile 23 = .ok (.istore 5, 2) := by decide +kernel
theorem dX8_widestTile_25 : decode cX8_widestTile 25 = .ok (.aload_n 0, 1) := by decide +kernel
theorem dX8_widestTile_26 : decode cX8_widestTile 26 = .ok (.iload 4, 2) := by decide +kernel
theorem dX8_widestTile_28 : decode cX8_widestTile 28 = .ok (.aload_n 3, 1) := by decide +kernel
theorem dX8_widestTile_29 : decode cX8_widestTile 29 = .ok (.getfield 116, 3) := by decide +kernel
theorem dX8_widestTile_32 : decode cX8_widestTile 32 = .ok (.iload_n 1, 1) := by decide +kernel
theorem dX8_widestTile_33 : decode cX8_widestTile 33 = .ok (.iaload, 1) := by decide +kernel
theorem dX8_widestTile_34 : decode cX8_widestTile 34 = .ok (.iload 5, 2) := by decide +kernel
theorem dX8_widestTile_36 : decode cX8_widestTile 36 = .ok (.ishr, 1) := by decide +kernel
theorem dX8_widestTile_37 : decode cX8_widestTile 37 = .ok (.aload_n 3, 1) := by decide +kernel
theorem dX8_widestTile_38 : decode cX8_widestTile 38 = .ok (.getfield 119, 3) := by decide +kernel
theorem dX8_widestTile_41 : decode cX8_widestTile 41 = .ok (.iload_n 1, 1) := by decide +kernel
theorem dX8_widestTile_42 : decode cX8_widestTile 42 = .ok (.iaload, 1) := by decide +kernel
theorem dX8_widestTile_43 : decode cX8_widestTile 43 = .ok (.iload 5, 2) := by decide +kernel
theorem dX8_widestTile_45 : decode cX8_widestTile 45 = .ok (.ishr, 1) := by decide +kernel
theorem dX8_widestTile_46 : decode cX8_widestTile 46 = .ok (.invokevirtual 293, 3) := by decide +kernel
theorem dX8_widestTile_49 : decode cX8_widestTile 49 = .ok (.istore 6, 2) := by decide +kernel
theorem dX8_widestTile_51 : decode cX8_widestTile 51 = .ok (.iload 6, 2) := by decide +kernel
theorem dX8_widestTile_53 : decode cX8_widestTile 53 = .ok (.iload_n 2, 1) := by decide +kernel
theorem dX8_widestTile_54 : decode cX8_widestTile 54 = .ok (.iconst (-1), 1) := by decide +kernel
theorem dX8_widestTile_55 : decode cX8_widestTile 55 = .ok (.ixor, 1) := by decide +kernel
theorem dX8_widestTile_56 : decode cX8_widestTile 56 = .ok (.iand, 1) := by decide +kernel
theorem dX8_widestTile_57 : decode cX8_widestTile 57 = .ok (.ifCond .ne 6, 3) := by decide +kernel
theorem dX8_widestTile_60 : decode cX8_widestTile 60 = .ok (.iload 6, 2) := by decide +kernel
theorem dX8_widestTile_62 : decode cX8_widestTile 62 = .ok (.ireturn, 1) := by decide +kernel
theorem dX8_widestTile_63 : decode cX8_widestTile 63 = .ok (.iinc 4 1, 3) := by decide +kernel
theorem dX8_widestTile_66 : decode cX8_widestTile 66 = .ok (.goto (-55), 3) := by decide +kernel
theorem dX8_widestTile_69 : decode cX8_widestTile 69 = .ok (.iconst 1, 1) := by decide +kernel
theorem dX8_widestTile_70 : decode cX8_widestTile 70 = .ok (.iload_n 1, 1) := by decide +kernel
theorem dX8_widestTile_71 : decode cX8_widestTile 71 = .ok (.ishl, 1) := by decide +kernel
theorem dX8_widestTile_72 : decode cX8_widestTile 72 = .ok (.ireturn, 1) := by decide +kernel
theorem dX8_groupsOfAllZooms_0 : decode cX8_groupsOfAllZooms 0 = .ok (.iconst 0, 1) := by decide +kernel
theorem dX8_groupsOfAllZooms_1 : decode cX8_groupsOfAllZooms 1 = .ok (.istore_n 1, 1) := by decide +kernel
theorem dX8_groupsOfAllZooms_2 : decode cX8_groupsOfAllZooms 2 = .ok (.iconst 0, 1) := by decide +kernel
theorem dX8_groupsOfAllZooms_3 : decode cX8_groupsOfAllZooms 3 = .ok (.istore_n 2, 1) := by decide +kernel
theorem dX8_groupsOfAllZooms_4 : decode cX8_groupsOfAllZooms 4 = .ok (.iload_n 2, 1) := by decide +kernel
theorem dX8_groupsOfAllZooms_5 : decode cX8_groupsOfAllZooms 5 = .ok (.bipush 10, 2) := by decide +kernel
theorem dX8_groupsOfAllZooms_7 : decode cX8_groupsOfAllZooms 7 = .ok (.if_icmp .gt 17, 3) := by decide +kernel
theorem dX8_groupsOfAllZooms_10 : decode cX8_groupsOfAllZooms 10 = .ok (.iload_n 1, 1) := by decide +kernel
theorem dX8_groupsOfAllZooms_11 : decode cX8_groupsOfAllZooms 11 = .ok (.aload_n 0, 1) := by decide +kernel
theorem dX8_groupsOfAllZooms_12 : decode cX8_groupsOfAllZooms 12 = .ok (.iload_n 2, 1) := by decide +kernel
theorem dX8_groupsOfAllZooms_13 : decode cX8_groupsOfAllZooms 13 = .ok (.invokevirtual 357, 3) := by decide +kernel
theorem dX8_groupsOfAllZooms_16 : decode cX8_groupsOfAllZooms 16 = .ok (.iadd, 1) := by decide +kernel
theorem dX8_groupsOfAllZooms_17 : decode cX8_groupsOfAllZooms 17 = .ok (.istore_n 1, 1) := by decide +kernel
theorem dX8_groupsOfAllZooms_18 : decode cX8_groupsOfAllZooms 18 = .ok (.iinc 2 1, 3) := by decide +kernel
theorem dX8_groupsOfAllZooms_21 : decode cX8_groupsOfAllZooms 21 = .ok (.goto (-17), 3) := by decide +kernel
theorem dX8_groupsOfAllZooms_24 : decode cX8_groupsOfAllZooms 24 = .ok (.iload_n 1, 1) := by decide +kernel
theorem dX8_groupsOfAllZooms_25 : decode cX8_groupsOfAllZooms 25 = .ok (.ireturn, 1) := by decide +kernel
theorem dX9_init_0 : decode cX9_init 0 = .ok (.aload_n 0, 1) := by decide +kernel
theorem dX9_init_1 : decode cX9_init 1 = .ok (.invokespecial 1, 3) := by decide +kernel
theorem dX9_init_4 : decode cX9_init 4 = .ok (.aload_n 0, 1) := by decide +kernel
theorem dX9_init_5 : decode cX9_init 5 = .ok (.bipush 24, 2) := by decide +kernel
theorem dX9_init_7 : decode cX9_init 7 = .ok (.newarray .int, 2) := by decide +kernel
theorem dX9_init_9 : decode cX9_init 9 = .ok (.putfield 7, 3) := by decide +kernel
theorem dX9_init_12 : decode cX9_init 12 = .ok (.aload_n 0, 1) := by decide +kernel
theorem dX9_init_13 : decode cX9_init 13 = .ok (.bipush 24, 2) := by decide +kernel
theorem dX9_init_15 : decode cX9_init 15 = .ok (.newarray .int, 2) := by decide +kernel
theorem dX9_init_17 : decode cX9_init 17 = .ok (.putfield 13, 3) := by decide +kernel
theorem dX9_init_20 : decode cX9_init 20 = .ok (.aload_n 0, 1) := by decide +kernel
theorem dX9_init_21 : decode cX9_init 21 = .ok (.bipush 24, 2) := by decide +kernel
theorem dX9_init_23 : decode cX9_init 23 = .ok (.newarray .int, 2) := by decide +kernel
theorem dX9_init_25 : decode cX9_init 25 = .ok (.putfield 16, 3) := by decide +kernel
theorem dX9_init_28 : decode cX9_init 28 = .ok (.aload_n 0, 1) := by decide +kernel
theorem dX9_init_29 : decode cX9_init 29 = .ok (.bipush 64, 2) := by decide +kernel
theorem dX9_init_31 : decode cX9_init 31 = .ok (.putfield 19, 3) := by decide +kernel
theorem dX9_init_34 : decode cX9_init 34 = .ok (.aload_n 0, 1) := by decide +kernel
theorem dX9_init_35 : decode cX9_init 35 = .ok (.bipush 24, 2) := by decide +kernel
theorem dX9_init_37 : decode cX9_init 37 = .ok (.newarray .int, 2) := by decide +kernel
theorem dX9_init_39 : decode cX9_init 39 = .ok (.putfield 23, 3) := by decide +kernel
theorem dX9_init_42 : decode cX9_init 42 = .ok (.aload_n 0, 1) := by decide +kernel
theorem dX9_init_43 : decode cX9_init 43 = .ok (.bipush 24, 2) := by decide +kernel
theorem dX9_init_45 : decode cX9_init 45 = .ok (.newarray .int, 2) := by decide +kernel
theorem dX9_init_47 : decode cX9_init 47 = .ok (.putfield 26, 3) := by decide +kernel
theorem dX9_init_50 : decode cX9_init 50 = .ok (.aload_n 0, 1) := by decide +kernel
theorem dX9_init_51 : decode cX9_init 51 = .ok (.bipush 24, 2) := by decide +kernel
theorem dX9_init_53 : decode cX9_init 53 = .ok (.newarray .int, 2) := by decide +kernel
theorem dX9_init_55 : decode cX9_init 55 = .ok (.putfield 29, 3) := by decide +kernel
theorem dX9_init_58 : decode cX9_init 58 = .ok (.aload_n 0, 1) := by decide +kernel
theorem dX9_init_59 : decode cX9_init 59 = .ok (.bipush 24, 2) := by decide +kernel
theorem dX9_init_61 : decode cX9_init 61 = .ok (.newarray .int, 2) := by decide +kernel
theorem dX9_init_63 : decode cX9_init 63 = .ok (.putfield 32, 3) := by decide +kernel
theorem dX9_init_66 : decode cX9_init 66 = .ok (.aload_n 0, 1) := by decide +kernel
theorem dX9_init_67 : decode cX9_init 67 = .ok (.bipush 24, 2) := by decide +kernel
theorem dX9_init_69 : decode cX9_init 69 = .ok (.newarray .int, 2) := by decide +kernel
theorem dX9_init_71 : decode cX9_init 71 = .ok (.putfield 35, 3) := by decide +kernel
theorem dX9_init_74 : decode cX9_init 74 = .ok (.aload_n 0, 1) := by decide +kernel
theorem dX9_init_75 : decode cX9_init 75 = .ok (.bipush 24, 2) := by decide +kernel
theorem dX9_init_77 : decode cX9_init 77 = .ok (.newarray .int, 2) := by decide +kernel
theorem dX9_init_79 : decode cX9_init 79 = .ok (.putfield 38, 3) := by decide +kernel
theorem dX9_init_82 : decode cX9_init 82 = .ok (.aload_n 0, 1) := by decide +kernel
theorem dX9_init_83 : decode cX9_init 83 = .ok (.bipush 24, 2) := by decide +kernel
theorem dX9_init_85 : decode cX9_init 85 = .ok (.newarray .int, 2) := by decide +kernel
theorem dX9_init_87 : decode cX9_init 87 = .ok (.putfield 41, 3) := by decide +kernel
theorem dX9_init_90 : decode cX9_init 90 = .ok (.aload_n 0, 1) := by decide +kernel
theorem dX9_init_91 : decode cX9_init 91 = .ok (.bipush 24, 2) := by decide +kernel
theorem dX9_init_93 : decode cX9_init 93 = .ok (.newarray .int, 2) := by decide +kernel
theorem dX9_init_95 : decode cX9_init 95 = .ok (.putfield 44, 3) := by decide +kernel
theorem dX9_init_98 : decode cX9_init 98 = .ok (.aload_n 0, 1) := by decide +kernel
theorem dX9_init_99 : decode cX9_init 99 = .ok (.bipush 24, 2) := by decide +kernel
theorem dX9_init_101 : decode cX9_init 101 = .ok (.newarray .int, 2) := by decide +kernel
theorem dX9_init_103 : decode cX9_init 103 = .ok (.putfield 47, 3) := by decide +kernel
theorem dX9_init_106 : decode cX9_init 106 = .ok (.aload_n 0, 1) := by decide +kernel
theorem dX9_init_107 : decode cX9_init 107 = .ok (.bipush 24, 2) := by decide +kernel
theorem dX9_init_109 : decode cX9_init 109 = .ok (.newarray .int, 2) := by decide +kernel
theorem dX9_init_111 : decode cX9_init 111 = .ok (.putfield 50, 3) := by decide +kernel
theorem dX9_init_114 : decode cX9_init 114 = .ok (.aload_n 0, 1) := by decide +kernel
theorem dX9_init_115 : decode cX9_init 115 = .ok (.bipush 24, 2) := by decide +kernel
theorem dX9_init_117 : decode cX9_init 117 = .ok (.newarray .int, 2) := by decide +kernel
theorem dX9_init_119 : decode cX9_init 119 = .ok (.putfield 53, 3) := by decide +kernel
theorem dX9_init_122 : decode cX9_init 122 = .ok (.aload_n 0, 1) := by decide +kernel
theorem dX9_init_123 : decode cX9_init 123 = .ok (.bipush 24, 2) := by decide +kernel
theorem dX9_init_125 : decode cX9_init 125 = .ok (.newarray .int, 2) := by decide +kernel
theorem dX9_init_127 : decode cX9_init 127 = .ok (.putfield 56, 3) := by decide +kernel
theorem dX9_init_130 : decode cX9_init 130 = .ok (.aload_n 0, 1) := by decide +kernel
theorem dX9_init_131 : decode cX9_init 131 = .ok (.bipush 24, 2) := by decide +kernel
theorem dX9_init_133 : decode cX9_init 133 = .ok (.newarray .int, 2) := by decide +kernel
theorem dX9_init_135 : decode cX9_init 135 = .ok (.putfield 59, 3) := by decide +kernel
theorem dX9_init_138 : decode cX9_init 138 = .ok (.aload_n 0, 1) := by decide +kernel
theorem dX9_init_139 : decode cX9_init 139 = .ok (.bipush 24, 2) := by decide +kernel
theorem dX9_init_141 : decode cX9_init 141 = .ok (.newarray .int, 2) := by decide +kernel
theorem dX9_init_143 : decode cX9_init 143 = .ok (.putfield 62, 3) := by decide +kernel
theorem dX9_init_146 : decode cX9_init 146 = .ok (.aload_n 0, 1) := by decide +kernel
theorem dX9_init_147 : decode cX9_init 147 = .ok (.bipush 24, 2) := by decide +kernel
theorem dX9_init_149 : decode cX9_init 149 = .ok (.newarray .int, 2) := by decide +kernel
theorem dX9_init_151 : decode cX9_init 151 = .ok (.putfield 65, 3) := by decide +kernel
theorem dX9_init_154 : decode cX9_init 154 = .ok (.aload_n 0, 1) := by decide +kernel
theorem dX9_init_155 : decode cX9_init 155 = .ok (.bipush 24, 2) := by decide +kernel
theorem dX9_init_157 : decode cX9_init 157 = .ok (.newarray .int, 2) := by decide +kernel
theorem dX9_init_159 : decode cX9_init 159 = .ok (.putfield 68, 3) := by decide +kernel
theorem dX9_init_162 : decode cX9_init 162 = .ok (.aload_n 0, 1) := by decide +kernel
theorem dX9_init_163 : decode cX9_init 163 = .ok (.bipush 24, 2) := by decide +kernel
theorem dX9_init_165 : decode cX9_init 165 = .ok (.newarray .int, 2) := by decide +kernel
theorem dX9_init_167 : decode cX9_init 167 = .ok (.putfield 71, 3) := by decide +kernel
theorem dX9_init_170 : decode cX9_init 170 = .ok (.aload_n 0, 1) := by decide +kernel
theorem dX9_init_171 : decode cX9_init 171 = .ok (.bipush 24, 2) := by decide +kernel
theorem dX9_init_173 : decode cX9_init 173 = .ok (.newarray .int, 2) := by decide +kernel
theorem dX9_init_175 : decode cX9_init 175 = .ok (.putfield 74, 3) := by decide +kernel
theorem dX9_init_178 : decode cX9_init 178 = .ok (.aload_n 0, 1) := by decide +kernel
theorem dX9_init_179 : decode cX9_init 179 = .ok (.bipush 24, 2) := by decide +kernel
theorem dX9_init_181 : decode cX9_init 181 = .ok (.newarray .int, 2) := by decide +kernel
theorem dX9_init_183 : decode cX9_init 183 = .ok (.putfield 77, 3) := by decide +kernel
theorem dX9_init_186 : decode cX9_init 186 = .ok (.aload_n 0, 1) := by decide +kernel
theorem dX9_init_187 : decode cX9_init 187 = .ok (.bipush 24, 2) := by decide +kernel
theorem dX9_init_189 : decode cX9_init 189 = .ok (.newarray .int, 2) := by decide +kernel
theorem dX9_init_191 : decode cX9_init 191 = .ok (.putfield 80, 3) := by decide +kernel
theorem dX9_init_194 : decode cX9_init 194 = .ok (.aload_n 0, 1) := by decide +kernel
theorem dX9_init_195 : decode cX9_init 195 = .ok (.bipush 24, 2) := by decide +kernel
theorem dX9_init_197 : decode cX9_init 197 = .ok (.newarray .int, 2) := by decide +kernel
theorem dX9_init_199 : decode cX9_init 199 = .ok (.putfield 83, 3) := by decide +kernel
theorem dX9_init_202 : decode cX9_init 202 = .ok (.aload_n 0, 1) := by decide +kernel
theorem dX9_init_203 : decode cX9_init 203 = .ok (.bipush 24, 2) := by decide +kernel
theorem dX9_init_205 : decode cX9_init 205 = .ok (.newarray .int, 2) := by decide +kernel
theorem dX9_init_207 : decode cX9_init 207 = .ok (.putfield 86, 3) := by decide +kernel
theorem dX9_init_210 : decode cX9_init 210 = .ok (.aload_n 0, 1) := by decide +kernel
theorem dX9_init_211 : decode cX9_init 211 = .ok (.bipush 24, 2) := by decide +kernel
theorem dX9_init_213 : decode cX9_init 213 = .ok (.newarray .int, 2) := by decide +kernel
theorem dX9_init_215 : decode cX9_init 215 = .ok (.putfield 89, 3) := by decide +kernel
theorem dX9_init_218 : decode cX9_init 218 = .ok (.aload_n 0, 1) := by decide +kernel
theorem dX9_init_219 : decode cX9_init 219 = .ok (.bipush 24, 2) := by decide +kernel
theorem dX9_init_221 : decode cX9_init 221 = .ok (.newarray .int, 2) := by decide +kernel
theorem dX9_init_223 : decode cX9_init 223 = .ok (.putfield 92, 3) := by decide +kernel
theorem dX9_init_226 : decode cX9_init 226 = .ok (.return_, 1) := by decide +kernel
theorem dX9_isIn_0 : decode cX9_isIn 0 = .ok (.lload_n 1, 1) := by decide +kernel
theorem dX9_isIn_1 : decode cX9_isIn 1 = .ok (.lload_n 3, 1) := by decide +kernel
theorem dX9_isIn_2 : decode cX9_isIn 2 = .ok (.lcmp, 1) := by decide +kernel
theorem dX9_isIn_3 : decode cX9_isIn 3 = .ok (.ifCond .lt 14, 3) := by decide +kernel
theorem dX9_isIn_6 : decode cX9_isIn 6 = .ok (.lload_n 1, 1) := by decide +kernel
theorem dX9_isIn_7 : decode cX9_isIn 7 = .ok (.lload 5, 2) := by decide +kernel
theorem dX9_isIn_9 : decode cX9_isIn 9 = .ok (.lcmp, 1) := by decide +kernel
theorem dX9_isIn_10 : decode cX9_isIn 10 = .ok (.ifCond .gt 7, 3) := by decide +kernel
theorem dX9_isIn_13 : decode cX9_isIn 13 = .ok (.iconst 1, 1) := by decide +kernel
theorem dX9_isIn_14 : decode cX9_isIn 14 = .ok (.goto 4, 3) := by decide +kernel
theorem dX9_isIn_17 : decode cX9_isIn 17 = .ok (.iconst 0, 1) := by decide +kernel
theorem dX9_isIn_18 : decode cX9_isIn 18 = .ok (.ireturn, 1) := by decide +kernel
theorem dX9_has_0 : decode cX9_has 0 = .ok (.iload_n 1, 1) := by decide +kernel
theorem dX9_has_1 : decode cX9_has 1 = .ok (.iload_n 2, 1) := by decide +kernel
theorem dX9_has_2 : decode cX9_has 2 = .ok (.ishr, 1) := by decide +kernel
theorem dX9_has_3 : decode cX9_has 3 = .ok (.iconst 1, 1) := by decide +kernel
theorem dX9_has_4 : decode cX9_has 4 = .ok (.iand, 1) := by decide +kernel
theorem dX9_has_5 : decode cX9_has 5 = .ok (.iconst 1, 1) := by decide +kernel
theorem dX9_has_6 : decode cX9_has 6 = .ok (.if_icmp .ne 7, 3) := by decide +kernel
theorem dX9_has_9 : decode cX9_has 9 = .ok (.iconst 1, 1) := by decide +kernel
theorem dX9_has_10 : decode cX9_has 10 = .ok (.goto 4, 3) := by decide +kernel
theorem dX9_has_13 : decode cX9_has 13 = .ok (.iconst 0, 1) := by decide +kernel
theorem dX9_has_14 : decode cX9_has 14 = .ok (.ireturn, 1) := by decide +kernel
theorem dX9_isPoint_0 : decode cX9_isPoint 0 = .ok (.aload_n 0, 1) := by decide +kernel
theorem dX9_isPoint_1 : decode cX9_isPoint 1 = .ok (.iload_n 1, 1) := by decide +kernel
theorem dX9_isPoint_2 : decode cX9_isPoint 2 = .ok (.i2l, 1) := by decide +kernel
theorem dX9_isPoint_3 : decode cX9_isPoint 3 = .ok (.lconst 0, 1) := by decide +kernel
theorem dX9_isPoint_4 : decode cX9_isPoint 4 = .ok (.aload_n 0, 1) := by decide +kernel
theorem dX9_isPoint_5 : decode cX9_isPoint 5 = .ok (.getfield 98, 3) := by decide +kernel
theorem dX9_isPoint_8 : decode cX9_isPoint 8 = .ok (.i2l, 1) := by decide +kernel
theorem dX9_isPoint_9 : decode cX9_isPoint 9 = .ok (.lconst 1, 1) := by decide +kernel
theorem dX9_isPoint_10 : decode cX9_isPoint 10 = .ok (.lsub, 1) := by decide +kernel
theorem dX9_isPoint_11 : decode cX9_isPoint 11 = .ok (.invokevirtual 101, 3) := by decide +kernel
theorem dX9_isPoint_14 : decode cX9_isPoint 14 = .ok (.ireturn, 1) := by decide +kernel
theorem dX9_isZoom_0 : decode cX9_isZoom 0 = .ok (.aload_n 0, 1) := by decide +kernel
theorem dX9_isZoom_1 : decode cX9_isZoom 1 = .ok (.iload_n 1, 1) := by decide +kernel
theorem dX9_isZoom_2 : decode cX9_isZoom 2 = .ok (.i2l, 1) := by decide +kernel
theorem dX9_isZoom_3 : decode cX9_isZoom 3 = .ok (.lconst 0, 1) := by decide +kernel
theorem dX9_isZoom_4 : decode cX9_isZoom 4 = .ok (.ldc2_w 105, 3) := by decide +kernel
theorem dX9_isZoom_7 : decode cX9_isZoom 7 = .ok (.invokevirtual 101, 3) := by decide +kernel
theorem dX9_isZoom_10 : decode cX9_isZoom 10 = .ok (.ireturn, 1) := by decide +kernel
theorem dX9_radius_0 : decode cX9_radius 0 = .ok (.sipush 1024, 3) := by decide +kernel
theorem dX9_radius_3 : decode cX9_radius 3 = .ok (.iload_n 1, 1) := by decide +kernel
theorem dX9_radius_4 : decode cX9_radius 4 = .ok (.ishr, 1) := by decide +kernel
theorem dX9_radius_5 : decode cX9_radius 5 = .ok (.ireturn, 1) := by decide +kernel
theorem dX9_apart_0 : decode cX9_apart 0 = .ok (.aload_n 0, 1) := by decide +kernel
theorem dX9_apart_1 : decode cX9_apart 1 = .ok (.getfield 7, 3) := by decide +kernel
theorem dX9_apart_4 : decode cX9_apart 4 = .ok (.iload_n 1, 1) := by decide +kernel
theorem dX9_apart_5 : decode cX9_apart 5 = .ok (.iaload, 1) := by decide +kernel
theorem dX9_apart_6 : decode cX9_apart 6 = .ok (.aload_n 0, 1) := by decide +kernel
theorem dX9_apart_7 : decode cX9_apart 7 = .ok (.getfield 7, 3) := by decide +kernel
theorem dX9_apart_10 : decode cX9_apart 10 = .ok (.iload_n 2, 1) := by decide +kernel
theorem dX9_apart_11 : decode cX9_apart 11 = .ok (.iaload, 1) := by decide +kernel
theorem dX9_apart_12 : decode cX9_apart 12 = .ok (.isub, 1) := by decide +kernel
theorem dX9_apart_13 : decode cX9_apart 13 = .ok (.aload_n 0, 1) := by decide +kernel
theorem dX9_apart_14 : decode cX9_apart 14 = .ok (.getfield 7, 3) := by decide +kernel
theorem dX9_apart_17 : decode cX9_apart 17 = .ok (.iload_n 1, 1) := by decide +kernel
theorem dX9_apart_18 : decode cX9_apart 18 = .ok (.iaload, 1) := by decide +kernel
theorem dX9_apart_19 : decode cX9_apart 19 = .ok (.aload_n 0, 1) := by decide +kernel
theorem dX9_apart_20 : decode cX9_apart 20 = .ok (.getfield 7, 3) := by decide +kernel
theorem dX9_apart_23 : decode cX9_apart 23 = .ok (.iload_n 2, 1) := by decide +kernel
theorem dX9_apart_24 : decode cX9_apart 24 = .ok (.iaload, 1) := by decide +kernel
theorem dX9_apart_25 : decode cX9_apart 25 = .ok (.isub, 1) := by decide +kernel
theorem dX9_apart_26 : decode cX9_apart 26 = .ok (.imul, 1) := by decide +kernel
theorem dX9_apart_27 : decode cX9_apart 27 = .ok (.aload_n 0, 1) := by decide +kernel
theorem dX9_apart_28 : decode cX9_apart 28 = .ok (.getfield 13, 3) := by decide +kernel
theorem dX9_apart_31 : decode cX9_apart 31 = .ok (.iload_n 1, 1) := by decide +kernel
theorem dX9_apart_32 : decode cX9_apart 32 = .ok (.iaload, 1) := by decide +kernel
theorem dX9_apart_33 : decode cX9_apart 33 = .ok (.aload_n 0, 1) := by decide +kernel
theorem dX9_apart_34 : decode cX9_apart 34 = .ok (.getfield 13, 3) := by decide +kernel
theorem dX9_apart_37 : decode cX9_apart 37 = .ok (.iload_n 2, 1) := by decide +kernel
theorem dX9_apart_38 : decode cX9_apart 38 = .ok (.iaload, 1) := by decide +kernel
theorem dX9_apart_39 : decode cX9_apart 39 = .ok (.isub, 1) := by decide +kernel
theorem dX9_apart_40 : decode cX9_apart 40 = .ok (.aload_n 0, 1) := by decide +kernel
theorem dX9_apart_41 : decode cX9_apart 41 = .ok (.getfield 13, 3) := by decide +kernel
theorem dX9_apart_44 : decode cX9_apart 44 = .ok (.iload_n 1, 1) := by decide +kernel
theorem dX9_apart_45 : decode cX9_apart 45 = .ok (.iaload, 1) := by decide +kernel
theorem dX9_apart_46 : decode cX9_apart 46 = .ok (.aload_n 0, 1) := by decide +kernel
theorem dX9_apart_47 : decode cX9_apart 47 = .ok (.getfield 13, 3) := by decide +kernel
theorem dX9_apart_50 : decode cX9_apart 50 = .ok (.iload_n 2, 1) := by decide +kernel
theorem dX9_apart_51 : decode cX9_apart 51 = .ok (.iaload, 1) := by decide +kernel
theorem dX9_apart_52 : decode cX9_apart 52 = .ok (.isub, 1) := by decide +kernel
theorem dX9_apart_53 : decode cX9_apart 53 = .ok (.imul, 1) := by decide +kernel
theorem dX9_apart_54 : decode cX9_apart 54 = .ok (.iadd, 1) := by decide +kernel
theorem dX9_apart_55 : decode cX9_apart 55 = .ok (.ireturn, 1) := by decide +kernel
theorem dX9_root_0 : decode cX9_root 0 = .ok (.iconst 0, 1) := by decide +kernel
theorem dX9_root_1 : decode cX9_root 1 = .ok (.istore_n 2, 1) := by decide +kernel
theorem dX9_root_2 : decode cX9_root 2 = .ok (.iload_n 2, 1) := by decide +kernel
theorem dX9_root_3 : decode cX9_root 3 = .ok (.iconst 1, 1) := by decide +kernel
theorem dX9_root_4 : decode cX9_root 4 = .ok (.iadd, 1) := by decide +kernel
theorem dX9_root_5 : decode cX9_root 5 = .ok (.iload_n 2, 1) := by decide +kernel
theorem dX9_root_6 : decode cX9_root 6 = .ok (.iconst 1, 1) := by decide +kernel
theorem dX9_root_7 : decode cX9_root 7 = .ok (.iadd, 1) := by decide +kernel
theorem dX9_root_8 : decode cX9_root 8 = .ok (.imul, 1) := by decide +kernel
theorem dX9_root_9 : decode cX9_root 9 = .ok (.iload_n 1, 1) := by decide +kernel
theorem dX9_root_10 : decode cX9_root 10 = .ok (.if_icmp .gt 10, 3) := by decide +kernel
theorem dX9_root_13 : decode cX9_root 13 = .ok (.iload_n 2, 1) := by decide +kernel
theorem dX9_root_14 : decode cX9_root 14 = .ok (.iconst 1, 1) := by decide +kernel
theorem dX9_root_15 : decode cX9_root 15 = .ok (.iadd, 1) := by decide +kernel
theorem dX9_root_16 : decode cX9_root 16 = .ok (.istore_n 2, 1) := by decide +kernel
theorem dX9_root_17 : decode cX9_root 17 = .ok (.goto (-15), 3) := by decide +kernel
theorem dX9_root_20 : decode cX9_root 20 = .ok (.iload_n 2, 1) := by decide +kernel
theorem dX9_root_21 : decode cX9_root 21 = .ok (.ireturn, 1) := by decide +kernel
theorem dX9_joins_0 : decode cX9_joins 0 = .ok (.aload_n 0, 1) := by decide +kernel
theorem dX9_joins_1 : decode cX9_joins 1 = .ok (.getfield 98, 3) := by decide +kernel
theorem dX9_joins_4 : decode cX9_joins 4 = .ok (.ifCond .le 12, 3) := by decide +kernel
theorem dX9_joins_7 : decode cX9_joins 7 = .ok (.aload_n 0, 1) := by decide +kernel
theorem dX9_joins_8 : decode cX9_joins 8 = .ok (.getfield 98, 3) := by decide +kernel
theorem dX9_joins_11 : decode cX9_joins 11 = .ok (.iconst 1, 1) := by decide +kernel
theorem dX9_joins_12 : decode cX9_joins 12 = .ok (.isub, 1) := by decide +kernel
theorem dX9_joins_13 : decode cX9_joins 13 = .ok (.goto 4, 3) := by decide +kernel
theorem dX9_joins_16 : decode cX9_joins 16 = .ok (.iconst 0, 1) := by decide +kernel
theorem dX9_joins_17 : decode cX9_joins 17 = .ok (.ireturn, 1) := by decide +kernel
theorem dX9_isSooner_0 : decode cX9_isSooner 0 = .ok (.aload_n 0, 1) := by decide +kernel
theorem dX9_isSooner_1 : decode cX9_isSooner 1 = .ok (.iload_n 1, 1) := by decide +kernel
theorem dX9_isSooner_2 : decode cX9_isSooner 2 = .ok (.iload_n 2, 1) := by decide +kernel
theorem dX9_isSooner_3 : decode cX9_isSooner 3 = .ok (.invokevirtual 107, 3) := by decide +kernel
theorem dX9_isSooner_6 : decode cX9_isSooner 6 = .ok (.aload_n 0, 1) := by decide +kernel
theorem dX9_isSooner_7 : decode cX9_isSooner 7 = .ok (.iload_n 3, 1) := by decide +kernel
theorem dX9_isSooner_8 : decode cX9_isSooner 8 = .ok (.iload 4, 2) := by decide +kernel
theorem dX9_isSooner_10 : decode cX9_isSooner 10 = .ok (.invokevirtual 107, 3) := by decide +kernel
theorem dX9_isSooner_13 : decode cX9_isSooner 13 = .ok (.if_icmp .eq 25, 3) := by decide +kernel
theorem dX9_isSooner_16 : decode cX9_isSooner 16 = .ok (.aload_n 0, 1) := by decide +kernel
theorem dX9_isSooner_17 : decode cX9_isSooner 17 = .ok (.iload_n 1, 1) := by decide +kernel
theorem dX9_isSooner_18 : decode cX9_isSooner 18 = .ok (.iload_n 2, 1) := by decide +kernel
theorem dX9_isSooner_19 : decode cX9_isSooner 19 = .ok (.invokevirtual 107, 3) := by decide +kernel
theorem dX9_isSooner_22 : decode cX9_isSooner 22 = .ok (.aload_n 0, 1) := by decide +kernel
theorem dX9_isSooner_23 : decode cX9_isSooner 23 = .ok (.iload_n 3, 1) := by decide +kernel
theorem dX9_isSooner_24 : decode cX9_isSooner 24 = .ok (.iload 4, 2) := by decide +kernel
theorem dX9_isSooner_26 : decode cX9_isSooner 26 = .ok (.invokevirtual 107, 3) := by decide +kernel
theorem dX9_isSooner_29 : decode cX9_isSooner 29 = .ok (.if_icmp .ge 7, 3) := by decide +kernel
theorem dX9_isSooner_32 : decode cX9_isSooner 32 = .ok (.iconst 1, 1) := by decide +kernel
theorem dX9_isSooner_33 : decode cX9_isSooner 33 = .ok (.goto 4, 3) := by decide +kernel
theorem dX9_isSooner_36 : decode cX9_isSooner 36 = .ok (.iconst 0, 1) := by decide +kernel
theorem dX9_isSooner_37 : decode cX9_isSooner 37 = .ok (.ireturn, 1) := by decide +kernel
theorem dX9_isSooner_38 : decode cX9_isSooner 38 = .ok (.iload_n 1, 1) := by decide +kernel
theorem dX9_isSooner_39 : decode cX9_isSooner 39 = .ok (.iload_n 2, 1) := by decide +kernel
theorem dX9_isSooner_40 : decode cX9_isSooner 40 = .ok (.invokestatic 111, 3) := by decide +kernel
theorem dX9_isSooner_43 : decode cX9_isSooner 43 = .ok (.istore 5, 2) := by decide +kernel
theorem dX9_isSooner_45 : decode cX9_isSooner 45 = .ok (.iload_n 3, 1) := by decide +kernel
theorem dX9_isSooner_46 : decode cX9_isSooner 46 = .ok (.iload 4, 2) := by decide +kernel
theorem dX9_isSooner_48 : decode cX9_isSooner 48 = .ok (.invokestatic 111, 3) := by decide +kernel
theorem dX9_isSooner_51 : decode cX9_isSooner 51 = .ok (.istore 6, 2) := by decide +kernel
theorem dX9_isSooner_53 : decode cX9_isSooner 53 = .ok (.iload 5, 2) := by decide +kernel
theorem dX9_isSooner_55 : decode cX9_isSooner 55 = .ok (.iload 6, 2) := by decide +kernel
theorem dX9_isSooner_57 : decode cX9_isSooner 57 = .ok (.if_icmp .eq 18, 3) := by decide +kernel
theorem dX9_isSooner_60 : decode cX9_isSooner 60 = .ok (.iload 5, 2) := by decide +kernel
theorem dX9_isSooner_62 : decode cX9_isSooner 62 = .ok (.iload 6, 2) := by decide +kernel
theorem dX9_isSooner_64 : decode cX9_isSooner 64 = .ok (.if_icmp .ge 7, 3) := by decide +kernel
theorem dX9_isSooner_67 : decode cX9_isSooner 67 = .ok (.iconst 1, 1) := by decide +kernel
theorem dX9_isSooner_68 : decode cX9_isSooner 68 = .ok (.goto 26, 3) := by decide +kernel
theorem dX9_isSooner_71 : decode cX9_isSooner 71 = .ok (.iconst 0, 1) := by decide +kernel
theorem dX9_isSooner_72 : decode cX9_isSooner 72 = .ok (.goto 22, 3) := by decide +kernel
theorem dX9_isSooner_75 : decode cX9_isSooner 75 = .ok (.iload_n 1, 1) := by decide +kernel
theorem dX9_isSooner_76 : decode cX9_isSooner 76 = .ok (.iload_n 2, 1) := by decide +kernel
theorem dX9_isSooner_77 : decode cX9_isSooner 77 = .ok (.invokestatic 116, 3) := by decide +kernel
theorem dX9_isSooner_80 : decode cX9_isSooner 80 = .ok (.iload_n 3, 1) := by decide +kernel
theorem dX9_isSooner_81 : decode cX9_isSooner 81 = .ok (.iload 4, 2) := by decide +kernel
theorem dX9_isSooner_83 : decode cX9_isSooner 83 = .ok (.invokestatic 116, 3) := by decide +kernel
theorem dX9_isSooner_86 : decode cX9_isSooner 86 = .ok (.if_icmp .ge 7, 3) := by decide +kernel
theorem dX9_isSooner_89 : decode cX9_isSooner 89 = .ok (.iconst 1, 1) := by decide +kernel
theorem dX9_isSooner_90 : decode cX9_isSooner 90 = .ok (.goto 4, 3) := by decide +kernel
theorem dX9_isSooner_93 : decode cX9_isSooner 93 = .ok (.iconst 0, 1) := by decide +kernel
theorem dX9_isSooner_94 : decode cX9_isSooner 94 = .ok (.ireturn, 1) := by decide +kernel
theorem dX9_laysTree_0 : decode cX9_laysTree 0 = .ok (.iconst 1, 1) := by decide +kernel
theorem dX9_laysTree_1 : decode cX9_laysTree 1 = .ok (.istore_n 1, 1) := by decide +kernel
theorem dX9_laysTree_2 : decode cX9_laysTree 2 = .ok (.iconst 0, 1) := by decide +kernel
theorem dX9_laysTree_3 : decode cX9_laysTree 3 = .ok (.istore_n 2, 1) := by decide +kernel
theorem dX9_laysTree_4 : decode cX9_laysTree 4 = .ok (.iload_n 2, 1) := by decide +kernel
theorem dX9_laysTree_5 : decode cX9_laysTree 5 = .ok (.aload_n 0, 1) := by decide +kernel
theorem dX9_laysTree_6 : decode cX9_laysTree 6 = .ok (.invokevirtual 119, 3) := by decide +kernel
theorem dX9_laysTree_9 : decode cX9_laysTree 9 = .ok (.if_icmp .ge 212, 3) := by decide +kernel
theorem dX9_laysTree_12 : decode cX9_laysTree 12 = .ok (.iconst (-1), 1) := by decide +kernel
theorem dX9_laysTree_13 : decode cX9_laysTree 13 = .ok (.istore_n 3, 1) := by decide +kernel
theorem dX9_laysTree_14 : decode cX9_laysTree 14 = .ok (.iconst (-1), 1) := by decide +kernel
theorem dX9_laysTree_15 : decode cX9_laysTree 15 = .ok (.istore 4, 2) := by decide +kernel
theorem dX9_laysTree_17 : decode cX9_laysTree 17 = .ok (.iconst 0, 1) := by decide +kernel
theorem dX9_laysTree_18 : decode cX9_laysTree 18 = .ok (.istore 5, 2) := by decide +kernel
theorem dX9_laysTree_20 : decode cX9_laysTree 20 = .ok (.iload 5, 2) := by decide +kernel
theorem dX9_laysTree_22 : decode cX9_laysTree 22 = .ok (.aload_n 0, 1) := by decide +kernel
theorem dX9_laysTree_23 : decode cX9_laysTree 23 = .ok (.getfield 98, 3) := by decide +kernel
theorem dX9_laysTree_26 : decode cX9_laysTree 26 = .ok (.if_icmp .ge 79, 3) := by decide +kernel
theorem dX9_laysTree_29 : decode cX9_laysTree 29 = .ok (.iconst 0, 1) := by decide +kernel
theorem dX9_laysTree_30 : decode cX9_laysTree 30 = .ok (.istore 6, 2) := by decide +kernel
theorem dX9_laysTree_32 : decode cX9_laysTree 32 = .ok (.iload 6, 2) := by decide +kernel
theorem dX9_laysTree_34 : decode cX9_laysTree 34 = .ok (.aload_n 0, 1) := by decide +kernel
theorem dX9_laysTree_35 : decode cX9_laysTree 35 = .ok (.getfield 98, 3) := by decide +kernel
theorem dX9_laysTree_38 : decode cX9_laysTree 38 = .ok (.if_icmp .ge 61, 3) := by decide +kernel
theorem dX9_laysTree_41 : decode cX9_laysTree 41 = .ok (.aload_n 0, 1) := by decide +kernel
theorem dX9_laysTree_42 : decode cX9_laysTree 42 = .ok (.iload_n 1, 1) := by decide +kernel
theorem dX9_laysTree_43 : decode cX9_laysTree 43 = .ok (.iload 5, 2) := by decide +kernel
theorem dX9_laysTree_45 : decode cX9_laysTree 45 = .ok (.invokevirtual 123, 3) := by decide +kernel
theorem dX9_laysTree_48 : decode cX9_laysTree 48 = .ok (.ifCond .eq 45, 3) := by decide +kernel
theorem dX9_laysTree_51 : decode cX9_laysTree 51 = .ok (.aload_n 0, 1) := by decide +kernel
theorem dX9_laysTree_52 : decode cX9_laysTree 52 = .ok (.iload_n 1, 1) := by decide +kernel
theorem dX9_laysTree_53 : decode cX9_laysTree 53 = .ok (.iload 6, 2) := by decide +kernel
theorem dX9_laysTree_55 : decode cX9_laysTree 55 = .ok (.invokevirtual 123, 3) := by decide +kernel
theorem dX9_laysTree_58 : decode cX9_laysTree 58 = .ok (.ifCond .eq 6, 3) := by decide +kernel
theorem dX9_laysTree_61 : decode cX9_laysTree 61 = .ok (.goto 32, 3) := by decide +kernel
theorem dX9_laysTree_64 : decode cX9_laysTree 64 = .ok (.iload_n 3, 1) := by decide +kernel
theorem dX9_laysTree_65 : decode cX9_laysTree 65 = .ok (.iconst (-1), 1) := by decide +kernel
theorem dX9_laysTree_66 : decode cX9_laysTree 66 = .ok (.if_icmp .eq 20, 3) := by decide +kernel
theorem dX9_laysTree_69 : decode cX9_laysTree 69 = .ok (.aload_n 0, 1) := by decide +kernel
theorem dX9_laysTree_70 : decode cX9_laysTree 70 = .ok (.iload 5, 2) := by decide +kernel
theorem dX9_laysTree_72 : decode cX9_laysTree 72 = .ok (.iload 6, 2) := by decide +kernel
theorem dX9_laysTree_74 : decode cX9_laysTree 74 = .ok (.iload_n 3, 1) := by decide +kernel
theorem dX9_laysTree_75 : decode cX9_laysTree 75 = .ok (.iload 4, 2) := by decide +kernel
theorem dX9_laysTree_77 : decode cX9_laysTree 77 = .ok (.invokevirtual 127, 3) := by decide +kernel
theorem dX9_laysTree_80 : decode cX9_laysTree 80 = .ok (.ifCond .ne 6, 3) := by decide +kernel
theorem dX9_laysTree_83 : decode cX9_laysTree 83 = .ok (.goto 10, 3) := by decide +kernel
theorem dX9_laysTree_86 : decode cX9_laysTree 86 = .ok (.iload 5, 2) := by decide +kernel
theorem dX9_laysTree_88 : decode cX9_laysTree 88 = .ok (.istore_n 3, 1) := by decide +kernel
theorem dX9_laysTree_89 : decode cX9_laysTree 89 = .ok (.iload 6, 2) := by decide +kernel
theorem dX9_laysTree_91 : decode cX9_laysTree 91 = .ok (.istore 4, 2) := by decide +kernel
theorem dX9_laysTree_93 : decode cX9_laysTree 93 = .ok (.iinc 6 1, 3) := by decide +kernel
theorem dX9_laysTree_96 : decode cX9_laysTree 96 = .ok (.goto (-64), 3) := by decide +kernel
theorem dX9_laysTree_99 : decode cX9_laysTree 99 = .ok (.iinc 5 1, 3) := by decide +kernel
theorem dX9_laysTree_102 : decode cX9_laysTree 102 = .ok (.goto (-82), 3) := by decide +kernel
theorem dX9_laysTree_105 : decode cX9_laysTree 105 = .ok (.iload_n 1, 1) := by decide +kernel
theorem dX9_laysTree_106 : decode cX9_laysTree 106 = .ok (.iconst 1, 1) := by decide +kernel
theorem dX9_laysTree_107 : decode cX9_laysTree 107 = .ok (.iload 4, 2) := by decide +kernel
theorem dX9_laysTree_109 : decode cX9_laysTree 109 = .ok (.ishl, 1) := by decide +kernel
theorem dX9_laysTree_110 : decode cX9_laysTree 110 = .ok (.ior, 1) := by decide +kernel
theorem dX9_laysTree_111 : decode cX9_laysTree 111 = .ok (.istore_n 1, 1) := by decide +kernel
theorem dX9_laysTree_112 : decode cX9_laysTree 112 = .ok (.iload_n 2, 1) := by decide +kernel
theorem dX9_laysTree_113 : decode cX9_laysTree 113 = .ok (.istore 5, 2) := by decide +kernel
theorem dX9_laysTree_115 : decode cX9_laysTree 115 = .ok (.iload 5, 2) := by decide +kernel
theorem dX9_laysTree_117 : decode cX9_laysTree 117 = .ok (.ifCond .le 72, 3) := by decide +kernel
theorem dX9_laysTree_120 : decode cX9_laysTree 120 = .ok (.aload_n 0, 1) := by decide +kernel
theorem dX9_laysTree_121 : decode cX9_laysTree 121 = .ok (.iload_n 3, 1) := by decide +kernel
theorem dX9_laysTree_122 : decode cX9_laysTree 122 = .ok (.iload 4, 2) := by decide +kernel
theorem dX9_laysTree_124 : decode cX9_laysTree 124 = .ok (.aload_n 0, 1) := by decide +kernel
theorem dX9_laysTree_125 : decode cX9_laysTree 125 = .ok (.getfield 23, 3) := by decide +kernel
theorem dX9_laysTree_128 : decode cX9_laysTree 128 = .ok (.iload 5, 2) := by decide +kernel
theorem dX9_laysTree_130 : decode cX9_laysTree 130 = .ok (.iconst 1, 1) := by decide +kernel
theorem dX9_laysTree_131 : decode cX9_laysTree 131 = .ok (.isub, 1) := by decide +kernel
theorem dX9_laysTree_132 : decode cX9_laysTree 132 = .ok (.iaload, 1) := by decide +kernel
theorem dX9_laysTree_133 : decode cX9_laysTree 133 = .ok (.aload_n 0, 1) := by decide +kernel
theorem dX9_laysTree_134 : decode cX9_laysTree 134 = .ok (.getfield 26, 3) := by decide +kernel
theorem dX9_laysTree_137 : decode cX9_laysTree 137 = .ok (.iload 5, 2) := by decide +kernel
theorem dX9_laysTree_139 : decode cX9_laysTree 139 = .ok (.iconst 1, 1) := by decide +kernel
theorem dX9_laysTree_140 : decode cX9_laysTree 140 = .ok (.isub, 1) := by decide +kernel
theorem dX9_laysTree_141 : decode cX9_laysTree 141 = .ok (.iaload, 1) := by decide +kernel
theorem dX9_laysTree_142 : decode cX9_laysTree 142 = .ok (.invokevirtual 127, 3) := by decide +kernel
theorem dX9_laysTree_145 : decode cX9_laysTree 145 = .ok (.ifCond .eq 44, 3) := by decide +kernel
theorem dX9_laysTree_148 : decode cX9_laysTree 148 = .ok (.aload_n 0, 1) := by decide +kernel
theorem dX9_laysTree_149 : decode cX9_laysTree 149 = .ok (.getfield 23, 3) := by decide +kernel
theorem dX9_laysTree_152 : decode cX9_laysTree 152 = .ok (.iload 5, 2) := by decide +kernel
theorem dX9_laysTree_154 : decode cX9_laysTree 154 = .ok (.aload_n 0, 1) := by decide +kernel
theorem dX9_laysTree_155 : decode cX9_laysTree 155 = .ok (.getfield 23, 3) := by decide +kernel
theorem dX9_laysTree_158 : decode cX9_laysTree 158 = .ok (.iload 5, 2) := by decide +kernel
theorem dX9_laysTree_160 : decode cX9_laysTree 160 = .ok (.iconst 1, 1) := by decide +kernel
theorem dX9_laysTree_161 : decode cX9_laysTree 161 = .ok (.isub, 1) := by decide +kernel
theorem dX9_laysTree_162 : decode cX9_laysTree 162 = .ok (.iaload, 1) := by decide +kernel
theorem dX9_laysTree_163 : decode cX9_laysTree 163 = .ok (.iastore, 1) := by decide +kernel
theorem dX9_laysTree_164 : decode cX9_laysTree 164 = .ok (.aload_n 0, 1) := by decide +kernel
theorem dX9_laysTree_165 : decode cX9_laysTree 165 = .ok (.getfield 26, 3) := by decide +kernel
theorem dX9_laysTree_168 : decode cX9_laysTree 168 = .ok (.iload 5, 2) := by decide +kernel
theorem dX9_laysTree_170 : decode cX9_laysTree 170 = .ok (.aload_n 0, 1) := by decide +kernel
theorem dX9_laysTree_171 : decode cX9_laysTree 171 = .ok (.getfield 26, 3) := by decide +kernel
theorem dX9_laysTree_174 : decode cX9_laysTree 174 = .ok (.iload 5, 2) := by decide +kernel
theorem dX9_laysTree_176 : decode cX9_laysTree 176 = .ok (.iconst 1, 1) := by decide +kernel
theorem dX9_laysTree_177 : decode cX9_laysTree 177 = .ok (.isub, 1) := by decide +kernel
theorem dX9_laysTree_178 : decode cX9_laysTree 178 = .ok (.iaload, 1) := by decide +kernel
theorem dX9_laysTree_179 : decode cX9_laysTree 179 = .ok (.iastore, 1) := by decide +kernel
theorem dX9_laysTree_180 : decode cX9_laysTree 180 = .ok (.iload 5, 2) := by decide +kernel
theorem dX9_laysTree_182 : decode cX9_laysTree 182 = .ok (.iconst 1, 1) := by decide +kernel
theorem dX9_laysTree_183 : decode cX9_laysTree 183 = .ok (.isub, 1) := by decide +kernel
theorem dX9_laysTree_184 : decode cX9_laysTree 184 = .ok (.istore 5, 2) := by decide +kernel
theorem dX9_laysTree_186 : decode cX9_laysTree 186 = .ok (.goto (-71), 3) := by decide +kernel
theorem dX9_laysTree_189 : decode cX9_laysTree 189 = .ok (.aload_n 0, 1) := by decide +kernel
theorem dX9_laysTree_190 : decode cX9_laysTree 190 = .ok (.getfield 23, 3) := by decide +kernel
theorem dX9_laysTree_193 : decode cX9_laysTree 193 = .ok (.iload 5, 2) := by decide +kernel
theorem dX9_laysTree_195 : decode cX9_laysTree 195 = .ok (.iload_n 3, 1) := by decide +kernel
theorem dX9_laysTree_196 : decode cX9_laysTree 196 = .ok (.iload 4, 2) := by decide +kernel
theorem dX9_laysTree_198 : decode cX9_laysTree 198 = .ok (.invokestatic 111, 3) := by decide +kernel
theorem dX9_laysTree_201 : decode cX9_laysTree 201 = .ok (.iastore, 1) := by decide +kernel
theorem dX9_laysTree_202 : decode cX9_laysTree 202 = .ok (.aload_n 0, 1) := by decide +kernel
theorem dX9_laysTree_203 : decode cX9_laysTree 203 = .ok (.getfield 26, 3) := by decide +kernel
theorem dX9_laysTree_206 : decode cX9_laysTree 206 = .ok (.iload 5, 2) := by decide +kernel
theorem dX9_laysTree_208 : decode cX9_laysTree 208 = .ok (.iload_n 3, 1) := by decide +kernel
theorem dX9_laysTree_209 : decode cX9_laysTree 209 = .ok (.iload 4, 2) := by decide +kernel
theorem dX9_laysTree_211 : decode cX9_laysTree 211 = .ok (.invokestatic 116, 3) := by decide +kernel
theorem dX9_laysTree_214 : decode cX9_laysTree 214 = .ok (.iastore, 1) := by decide +kernel
theorem dX9_laysTree_215 : decode cX9_laysTree 215 = .ok (.iinc 2 1, 3) := by decide +kernel
theorem dX9_laysTree_218 : decode cX9_laysTree 218 = .ok (.goto (-214), 3) := by decide +kernel
theorem dX9_laysTree_221 : decode cX9_laysTree 221 = .ok (.iconst 0, 1) := by decide +kernel
theorem dX9_laysTree_222 : decode cX9_laysTree 222 = .ok (.istore_n 2, 1) := by decide +kernel
theorem dX9_laysTree_223 : decode cX9_laysTree 223 = .ok (.iload_n 2, 1) := by decide +kernel
theorem dX9_laysTree_224 : decode cX9_laysTree 224 = .ok (.aload_n 0, 1) := by decide +kernel
theorem dX9_laysTree_225 : decode cX9_laysTree 225 = .ok (.invokevirtual 119, 3) := by decide +kernel
theorem dX9_laysTree_228 : decode cX9_laysTree 228 = .ok (.if_icmp .ge 31, 3) := by decide +kernel
theorem dX9_laysTree_231 : decode cX9_laysTree 231 = .ok (.aload_n 0, 1) := by decide +kernel
theorem dX9_laysTree_232 : decode cX9_laysTree 232 = .ok (.getfield 29, 3) := by decide +kernel
theorem dX9_laysTree_235 : decode cX9_laysTree 235 = .ok (.iload_n 2, 1) := by decide +kernel
theorem dX9_laysTree_236 : decode cX9_laysTree 236 = .ok (.aload_n 0, 1) := by decide +kernel
theorem dX9_laysTree_237 : decode cX9_laysTree 237 = .ok (.aload_n 0, 1) := by decide +kernel
theorem dX9_laysTree_238 : decode cX9_laysTree 238 = .ok (.getfield 23, 3) := by decide +kernel
theorem dX9_laysTree_241 : decode cX9_laysTree 241 = .ok (.iload_n 2, 1) := by decide +kernel
theorem dX9_laysTree_242 : decode cX9_laysTree 242 = .ok (.iaload, 1) := by decide +kernel
theorem dX9_laysTree_243 : decode cX9_laysTree 243 = .ok (.aload_n 0, 1) := by decide +kernel
theorem dX9_laysTree_244 : decode cX9_laysTree 244 = .ok (.getfield 26, 3) := by decide +kernel
theorem dX9_laysTree_247 : decode cX9_laysTree 247 = .ok (.iload_n 2, 1) := by decide +kernel
theorem dX9_laysTree_248 : decode cX9_laysTree 248 = .ok (.iaload, 1) := by decide +kernel
theorem dX9_laysTree_249 : decode cX9_laysTree 249 = .ok (.invokevirtual 107, 3) := by decide +kernel
theorem dX9_laysTree_252 : decode cX9_laysTree 252 = .ok (.iastore, 1) := by decide +kernel
theorem dX9_laysTree_253 : decode cX9_laysTree 253 = .ok (.iinc 2 1, 3) := by decide +kernel
theorem dX9_laysTree_256 : decode cX9_laysTree 256 = .ok (.goto (-33), 3) := by decide +kernel
theorem dX9_laysTree_259 : decode cX9_laysTree 259 = .ok (.aload_n 0, 1) := by decide +kernel
theorem dX9_laysTree_260 : decode cX9_laysTree 260 = .ok (.invokevirtual 131, 3) := by decide +kernel
theorem dX9_laysTree_263 : decode cX9_laysTree 263 = .ok (.return_, 1) := by decide +kernel
theorem dX9_laysSides_0 : decode cX9_laysSides 0 = .ok (.iconst 0, 1) := by decide +kernel
theorem dX9_laysSides_1 : decode cX9_laysSides 1 = .ok (.istore_n 1, 1) := by decide +kernel
theorem dX9_laysSides_2 : decode cX9_laysSides 2 = .ok (.iload_n 1, 1) := by decide +kernel
theorem dX9_laysSides_3 : decode cX9_laysSides 3 = .ok (.aload_n 0, 1) := by decide +kernel
theorem dX9_laysSides_4 : decode cX9_laysSides 4 = .ok (.getfield 98, 3) := by decide +kernel
theorem dX9_laysSides_7 : decode cX9_laysSides 7 = .ok (.if_icmp .ge 32, 3) := by decide +kernel
theorem dX9_laysSides_10 : decode cX9_laysSides 10 = .ok (.aload_n 0, 1) := by decide +kernel
theorem dX9_laysSides_11 : decode cX9_laysSides 11 = .ok (.getfield 47, 3) := by decide +kernel
theorem dX9_laysSides_14 : decode cX9_laysSides 14 = .ok (.iload_n 1, 1) := by decide +kernel
theorem dX9_laysSides_15 : decode cX9_laysSides 15 = .ok (.iload_n 1, 1) := by decide +kernel
theorem dX9_laysSides_16 : decode cX9_laysSides 16 = .ok (.iastore, 1) := by decide +kernel
theorem dX9_laysSides_17 : decode cX9_laysSides 17 = .ok (.aload_n 0, 1) := by decide +kernel
theorem dX9_laysSides_18 : decode cX9_laysSides 18 = .ok (.getfield 50, 3) := by decide +kernel
theorem dX9_laysSides_21 : decode cX9_laysSides 21 = .ok (.iload_n 1, 1) := by decide +kernel
theorem dX9_laysSides_22 : decode cX9_laysSides 22 = .ok (.iconst 1, 1) := by decide +kernel
theorem dX9_laysSides_23 : decode cX9_laysSides 23 = .ok (.iload_n 1, 1) := by decide +kernel
theorem dX9_laysSides_24 : decode cX9_laysSides 24 = .ok (.ishl, 1) := by decide +kernel
theorem dX9_laysSides_25 : decode cX9_laysSides 25 = .ok (.iastore, 1) := by decide +kernel
theorem dX9_laysSides_26 : decode cX9_laysSides 26 = .ok (.aload_n 0, 1) := by decide +kernel
theorem dX9_laysSides_27 : decode cX9_laysSides 27 = .ok (.getfield 44, 3) := by decide +kernel
theorem dX9_laysSides_30 : decode cX9_laysSides 30 = .ok (.iload_n 1, 1) := by decide +kernel
theorem dX9_laysSides_31 : decode cX9_laysSides 31 = .ok (.iconst (-1), 1) := by decide +kernel
theorem dX9_laysSides_32 : decode cX9_laysSides 32 = .ok (.iastore, 1) := by decide +kernel
theorem dX9_laysSides_33 : decode cX9_laysSides 33 = .ok (.iinc 1 1, 3) := by decide +kernel
theorem dX9_laysSides_36 : decode cX9_laysSides 36 = .ok (.goto (-34), 3) := by decide +kernel
theorem dX9_laysSides_39 : decode cX9_laysSides 39 = .ok (.iconst 0, 1) := by decide +kernel
theorem dX9_laysSides_40 : decode cX9_laysSides 40 = .ok (.istore_n 1, 1) := by decide +kernel
theorem dX9_laysSides_41 : decode cX9_laysSides 41 = .ok (.iload_n 1, 1) := by decide +kernel
theorem dX9_laysSides_42 : decode cX9_laysSides 42 = .ok (.aload_n 0, 1) := by decide +kernel
theorem dX9_laysSides_43 : decode cX9_laysSides 43 = .ok (.invokevirtual 119, 3) := by decide +kernel
theorem dX9_laysSides_46 : decode cX9_laysSides 46 = .ok (.if_icmp .ge 156, 3) := by decide +kernel
theorem dX9_laysSides_49 : decode cX9_laysSides 49 = .ok (.aload_n 0, 1) := by decide +kernel
theorem dX9_laysSides_50 : decode cX9_laysSides 50 = .ok (.getfield 41, 3) := by decide +kernel
theorem dX9_laysSides_53 : decode cX9_laysSides 53 = .ok (.iload_n 1, 1) := by decide +kernel
theorem dX9_laysSides_54 : decode cX9_laysSides 54 = .ok (.iconst (-1), 1) := by decide +kernel
theorem dX9_laysSides_55 : decode cX9_laysSides 55 = .ok (.iastore, 1) := by decide +kernel
theorem dX9_laysSides_56 : decode cX9_laysSides 56 = .ok (.aload_n 0, 1) := by decide +kernel
theorem dX9_laysSides_57 : decode cX9_laysSides 57 = .ok (.getfield 35, 3) := by decide +kernel
theorem dX9_laysSides_60 : decode cX9_laysSides 60 = .ok (.iload_n 1, 1) := by decide +kernel
theorem dX9_laysSides_61 : decode cX9_laysSides 61 = .ok (.aload_n 0, 1) := by decide +kernel
theorem dX9_laysSides_62 : decode cX9_laysSides 62 = .ok (.getfield 47, 3) := by decide +kernel
theorem dX9_laysSides_65 : decode cX9_laysSides 65 = .ok (.aload_n 0, 1) := by decide +kernel
theorem dX9_laysSides_66 : decode cX9_laysSides 66 = .ok (.getfield 23, 3) := by decide +kernel
theorem dX9_laysSides_69 : decode cX9_laysSides 69 = .ok (.iload_n 1, 1) := by decide +kernel
theorem dX9_laysSides_70 : decode cX9_laysSides 70 = .ok (.iaload, 1) := by decide +kernel
theorem dX9_laysSides_71 : decode cX9_laysSides 71 = .ok (.iaload, 1) := by decide +kernel
theorem dX9_laysSides_72 : decode cX9_laysSides 72 = .ok (.iastore, 1) := by decide +kernel
theorem dX9_laysSides_73 : decode cX9_laysSides 73 = .ok (.aload_n 0, 1) := by decide +kernel
theorem dX9_laysSides_74 : decode cX9_laysSides 74 = .ok (.getfield 38, 3) := by decide +kernel
theorem dX9_laysSides_77 : decode cX9_laysSides 77 = .ok (.iload_n 1, 1) := by decide +kernel
theorem dX9_laysSides_78 : decode cX9_laysSides 78 = .ok (.aload_n 0, 1) := by decide +kernel
theorem dX9_laysSides_79 : decode cX9_laysSides 79 = .ok (.getfield 47, 3) := by decide +kernel
theorem dX9_laysSides_82 : decode cX9_laysSides 82 = .ok (.aload_n 0, 1) := by decide +kernel
theorem dX9_laysSides_83 : decode cX9_laysSides 83 = .ok (.getfield 26, 3) := by decide +kernel
theorem dX9_laysSides_86 : decode cX9_laysSides 86 = .ok (.iload_n 1, 1) := by decide +kernel
theorem dX9_laysSides_87 : decode cX9_laysSides 87 = .ok (.iaload, 1) := by decide +kernel
theorem dX9_laysSides_88 : decode cX9_laysSides 88 = .ok (.iaload, 1) := by decide +kernel
theorem dX9_laysSides_89 : decode cX9_laysSides 89 = .ok (.iastore, 1) := by decide +kernel
theorem dX9_laysSides_90 : decode cX9_laysSides 90 = .ok (.aload_n 0, 1) := by decide +kernel
theorem dX9_laysSides_91 : decode cX9_laysSides 91 = .ok (.aload_n 0, 1) := by decide +kernel
theorem dX9_laysSides_92 : decode cX9_laysSides 92 = .ok (.getfield 35, 3) := by decide +kernel
theorem dX9_laysSides_95 : decode cX9_laysSides 95 = .ok (.iload_n 1, 1) := by decide +kernel
theorem dX9_laysSides_96 : decode cX9_laysSides 96 = .ok (.iaload, 1) := by decide +kernel
theorem dX9_laysSides_97 : decode cX9_laysSides 97 = .ok (.iload_n 1, 1) := by decide +kernel
theorem dX9_laysSides_98 : decode cX9_laysSides 98 = .ok (.invokevirtual 134, 3) := by decide +kernel
theorem dX9_laysSides_101 : decode cX9_laysSides 101 = .ok (.aload_n 0, 1) := by decide +kernel
theorem dX9_laysSides_102 : decode cX9_laysSides 102 = .ok (.aload_n 0, 1) := by decide +kernel
theorem dX9_laysSides_103 : decode cX9_laysSides 103 = .ok (.getfield 38, 3) := by decide +kernel
theorem dX9_laysSides_106 : decode cX9_laysSides 106 = .ok (.iload_n 1, 1) := by decide +kernel
theorem dX9_laysSides_107 : decode cX9_laysSides 107 = .ok (.iaload, 1) := by decide +kernel
theorem dX9_laysSides_108 : decode cX9_laysSides 108 = .ok (.iload_n 1, 1) := by decide +kernel
theorem dX9_laysSides_109 : decode cX9_laysSides 109 = .ok (.invokevirtual 134, 3) := by decide +kernel
theorem dX9_laysSides_112 : decode cX9_laysSides 112 = .ok (.aload_n 0, 1) := by decide +kernel
theorem dX9_laysSides_113 : decode cX9_laysSides 113 = .ok (.getfield 32, 3) := by decide +kernel
theorem dX9_laysSides_116 : decode cX9_laysSides 116 = .ok (.iload_n 1, 1) := by decide +kernel
theorem dX9_laysSides_117 : decode cX9_laysSides 117 = .ok (.aload_n 0, 1) := by decide +kernel
theorem dX9_laysSides_118 : decode cX9_laysSides 118 = .ok (.getfield 50, 3) := by decide +kernel
theorem dX9_laysSides_121 : decode cX9_laysSides 121 = .ok (.aload_n 0, 1) := by decide +kernel
theorem dX9_laysSides_122 : decode cX9_laysSides 122 = .ok (.getfield 23, 3) := by decide +kernel
theorem dX9_laysSides_125 : decode cX9_laysSides 125 = .ok (.iload_n 1, 1) := by decide +kernel
theorem dX9_laysSides_126 : decode cX9_laysSides 126 = .ok (.iaload, 1) := by decide +kernel
theorem dX9_laysSides_127 : decode cX9_laysSides 127 = .ok (.iaload, 1) := by decide +kernel
theorem dX9_laysSides_128 : decode cX9_laysSides 128 = .ok (.aload_n 0, 1) := by decide +kernel
theorem dX9_laysSides_129 : decode cX9_laysSides 129 = .ok (.getfield 50, 3) := by decide +kernel
theorem dX9_laysSides_132 : decode cX9_laysSides 132 = .ok (.aload_n 0, 1) := by decide +kernel
theorem dX9_laysSides_133 : decode cX9_laysSides 133 = .ok (.getfield 26, 3) := by decide +kernel
theorem dX9_laysSides_136 : decode cX9_laysSides 136 = .ok (.iload_n 1, 1) := by decide +kernel
theorem dX9_laysSides_137 : decode cX9_laysSides 137 = .ok (.iaload, 1) := by decide +kernel
theorem dX9_laysSides_138 : decode cX9_laysSides 138 = .ok (.iaload, 1) := by decide +kernel
theorem dX9_laysSides_139 : decode cX9_laysSides 139 = .ok (.ior, 1) := by decide +kernel
theorem dX9_laysSides_140 : decode cX9_laysSides 140 = .ok (.iastore, 1) := by decide +kernel
theorem dX9_laysSides_141 : decode cX9_laysSides 141 = .ok (.iconst 0, 1) := by decide +kernel
theorem dX9_laysSides_142 : decode cX9_laysSides 142 = .ok (.istore_n 2, 1) := by decide +kernel
theorem dX9_laysSides_143 : decode cX9_laysSides 143 = .ok (.iload_n 2, 1) := by decide +kernel
theorem dX9_laysSides_144 : decode cX9_laysSides 144 = .ok (.aload_n 0, 1) := by decide +kernel
theorem dX9_laysSides_145 : decode cX9_laysSides 145 = .ok (.getfield 98, 3) := by decide +kernel
theorem dX9_laysSides_148 : decode cX9_laysSides 148 = .ok (.if_icmp .ge 48, 3) := by decide +kernel
theorem dX9_laysSides_151 : decode cX9_laysSides 151 = .ok (.aload_n 0, 1) := by decide +kernel
theorem dX9_laysSides_152 : decode cX9_laysSides 152 = .ok (.aload_n 0, 1) := by decide +kernel
theorem dX9_laysSides_153 : decode cX9_laysSides 153 = .ok (.getfield 32, 3) := by decide +kernel
theorem dX9_laysSides_156 : decode cX9_laysSides 156 = .ok (.iload_n 1, 1) := by decide +kernel
theorem dX9_laysSides_157 : decode cX9_laysSides 157 = .ok (.iaload, 1) := by decide +kernel
theorem dX9_laysSides_158 : decode cX9_laysSides 158 = .ok (.iload_n 2, 1) := by decide +kernel
theorem dX9_laysSides_159 : decode cX9_laysSides 159 = .ok (.invokevirtual 123, 3) := by decide +kernel
theorem dX9_laysSides_162 : decode cX9_laysSides 162 = .ok (.ifCond .ne 6, 3) := by decide +kernel
theorem dX9_laysSides_165 : decode cX9_laysSides 165 = .ok (.goto 25, 3) := by decide +kernel
theorem dX9_laysSides_168 : decode cX9_laysSides 168 = .ok (.aload_n 0, 1) := by decide +kernel
theorem dX9_laysSides_169 : decode cX9_laysSides 169 = .ok (.getfield 47, 3) := by decide +kernel
theorem dX9_laysSides_172 : decode cX9_laysSides 172 = .ok (.iload_n 2, 1) := by decide +kernel
theorem dX9_laysSides_173 : decode cX9_laysSides 173 = .ok (.bipush 100, 2) := by decide +kernel
theorem dX9_laysSides_175 : decode cX9_laysSides 175 = .ok (.iload_n 1, 1) := by decide +kernel
theorem dX9_laysSides_176 : decode cX9_laysSides 176 = .ok (.iadd, 1) := by decide +kernel
theorem dX9_laysSides_177 : decode cX9_laysSides 177 = .ok (.iastore, 1) := by decide +kernel
theorem dX9_laysSides_178 : decode cX9_laysSides 178 = .ok (.aload_n 0, 1) := by decide +kernel
theorem dX9_laysSides_179 : decode cX9_laysSides 179 = .ok (.getfield 50, 3) := by decide +kernel
theorem dX9_laysSides_182 : decode cX9_laysSides 182 = .ok (.iload_n 2, 1) := by decide +kernel
theorem dX9_laysSides_183 : decode cX9_laysSides 183 = .ok (.aload_n 0, 1) := by decide +kernel
theorem dX9_laysSides_184 : decode cX9_laysSides 184 = .ok (.getfield 32, 3) := by decide +kernel
theorem dX9_laysSides_187 : decode cX9_laysSides 187 = .ok (.iload_n 1, 1) := by decide +kernel
theorem dX9_laysSides_188 : decode cX9_laysSides 188 = .ok (.iaload, 1) := by decide +kernel
theorem dX9_laysSides_189 : decode cX9_laysSides 189 = .ok (.iastore, 1) := by decide +kernel
theorem dX9_laysSides_190 : decode cX9_laysSides 190 = .ok (.iinc 2 1, 3) := by decide +kernel
theorem dX9_laysSides_193 : decode cX9_laysSides 193 = .ok (.goto (-50), 3) := by decide +kernel
theorem dX9_laysSides_196 : decode cX9_laysSides 196 = .ok (.iinc 1 1, 3) := by decide +kernel
theorem dX9_laysSides_199 : decode cX9_laysSides 199 = .ok (.goto (-158), 3) := by decide +kernel
theorem dX9_laysSides_202 : decode cX9_laysSides 202 = .ok (.return_, 1) := by decide +kernel
theorem dX9_puts_0 : decode cX9_puts 0 = .ok (.iload_n 1, 1) := by decide +kernel
theorem dX9_puts_1 : decode cX9_puts 1 = .ok (.bipush 100, 2) := by decide +kernel
theorem dX9_puts_3 : decode cX9_puts 3 = .ok (.if_icmp .ge 13, 3) := by decide +kernel
theorem dX9_puts_6 : decode cX9_puts 6 = .ok (.aload_n 0, 1) := by decide +kernel
theorem dX9_puts_7 : decode cX9_puts 7 = .ok (.getfield 44, 3) := by decide +kernel
theorem dX9_puts_10 : decode cX9_puts 10 = .ok (.iload_n 1, 1) := by decide +kernel
theorem dX9_puts_11 : decode cX9_puts 11 = .ok (.iload_n 2, 1) := by decide +kernel
theorem dX9_puts_12 : decode cX9_puts 12 = .ok (.iastore, 1) := by decide +kernel
theorem dX9_puts_13 : decode cX9_puts 13 = .ok (.goto 13, 3) := by decide +kernel
theorem dX9_puts_16 : decode cX9_puts 16 = .ok (.aload_n 0, 1) := by decide +kernel
theorem dX9_puts_17 : decode cX9_puts 17 = .ok (.getfield 41, 3) := by decide +kernel
theorem dX9_puts_20 : decode cX9_puts 20 = .ok (.iload_n 1, 1) := by decide +kernel
theorem dX9_puts_21 : decode cX9_puts 21 = .ok (.bipush 100, 2) := by decide +kernel
theorem dX9_puts_23 : decode cX9_puts 23 = .ok (.isub, 1) := by decide +kernel
theorem dX9_puts_24 : decode cX9_puts 24 = .ok (.iload_n 2, 1) := by decide +kernel
theorem dX9_puts_25 : decode cX9_puts 25 = .ok (.iastore, 1) := by decide +kernel
theorem dX9_puts_26 : decode cX9_puts 26 = .ok (.return_, 1) := by decide +kernel
theorem dX9_weightOf_0 : decode cX9_weightOf 0 = .ok (.iconst 0, 1) := by decide +kernel
theorem dX9_weightOf_1 : decode cX9_weightOf 1 = .ok (.istore_n 2, 1) := by decide +kernel
theorem dX9_weightOf_2 : decode cX9_weightOf 2 = .ok (.iconst 0, 1) := by decide +kernel
theorem dX9_weightOf_3 : decode cX9_weightOf 3 = .ok (.istore_n 3, 1) := by decide +kernel
theorem dX9_weightOf_4 : decode cX9_weightOf 4 = .ok (.iload_n 3, 1) := by decide +kernel
theorem dX9_weightOf_5 : decode cX9_weightOf 5 = .ok (.aload_n 0, 1) := by decide +kernel
theorem dX9_weightOf_6 : decode cX9_weightOf 6 = .ok (.getfield 98, 3) := by decide +kernel
theorem dX9_weightOf_9 : decode cX9_weightOf 9 = .ok (.if_icmp .ge 27, 3) := by decide +kernel
theorem dX9_weightOf_12 : decode cX9_weightOf 12 = .ok (.aload_n 0, 1) := by decide +kernel
theorem dX9_weightOf_13 : decode cX9_weightOf 13 = .ok (.iload_n 1, 1) := by decide +kernel
theorem dX9_weightOf_14 : decode cX9_weightOf 14 = .ok (.iload_n 3, 1) := by decide +kernel
theorem dX9_weightOf_15 : decode cX9_weightOf 15 = .ok (.invokevirtual 123, 3) := by decide +kernel
theorem dX9_weightOf_18 : decode cX9_weightOf 18 = .ok (.ifCond .eq 12, 3) := by decide +kernel
theorem dX9_weightOf_21 : decode cX9_weightOf 21 = .ok (.iload_n 2, 1) := by decide +kernel
theorem dX9_weightOf_22 : decode cX9_weightOf 22 = .ok (.aload_n 0, 1) := by decide +kernel
theorem dX9_weightOf_23 : decode cX9_weightOf 23 = .ok (.getfield 16, 3) := by decide +kernel
theorem dX9_weightOf_26 : decode cX9_weightOf 26 = .ok (.iload_n 3, 1) := by decide +kernel
theorem dX9_weightOf_27 : decode cX9_weightOf 27 = .ok (.iaload, 1) := by decide +kernel
theorem dX9_weightOf_28 : decode cX9_weightOf 28 = .ok (.iadd, 1) := by decide +kernel
theorem dX9_weightOf_29 : decode cX9_weightOf 29 = .ok (.istore_n 2, 1) := by decide +kernel
theorem dX9_weightOf_30 : decode cX9_weightOf 30 = .ok (.iinc 3 1, 3) := by decide +kernel
theorem dX9_weightOf_33 : decode cX9_weightOf 33 = .ok (.goto (-29), 3) := by decide +kernel
theorem dX9_weightOf_36 : decode cX9_weightOf 36 = .ok (.iload_n 2, 1) := by decide +kernel
theorem dX9_weightOf_37 : decode cX9_weightOf 37 = .ok (.ireturn, 1) := by decide +kernel
theorem dX9_bits_0 : decode cX9_bits 0 = .ok (.iconst 0, 1) := by decide +kernel
theorem dX9_bits_1 : decode cX9_bits 1 = .ok (.istore_n 2, 1) := by decide +kernel
theorem dX9_bits_2 : decode cX9_bits 2 = .ok (.iconst 0, 1) := by decide +kernel
theorem dX9_bits_3 : decode cX9_bits 3 = .ok (.istore_n 3, 1) := by decide +kernel
theorem dX9_bits_4 : decode cX9_bits 4 = .ok (.iload_n 3, 1) := by decide +kernel
theorem dX9_bits_5 : decode cX9_bits 5 = .ok (.bipush 24, 2) := by decide +kernel
theorem dX9_bits_7 : decode cX9_bits 7 = .ok (.if_icmp .ge 22, 3) := by decide +kernel
theorem dX9_bits_10 : decode cX9_bits 10 = .ok (.aload_n 0, 1) := by decide +kernel
theorem dX9_bits_11 : decode cX9_bits 11 = .ok (.iload_n 1, 1) := by decide +kernel
theorem dX9_bits_12 : decode cX9_bits 12 = .ok (.iload_n 3, 1) := by decide +kernel
theorem dX9_bits_13 : decode cX9_bits 13 = .ok (.invokevirtual 123, 3) := by decide +kernel
theorem dX9_bits_16 : decode cX9_bits 16 = .ok (.ifCond .eq 7, 3) := by decide +kernel
theorem dX9_bits_19 : decode cX9_bits 19 = .ok (.iload_n 2, 1) := by decide +kernel
theorem dX9_bits_20 : decode cX9_bits 20 = .ok (.iconst 1, 1) := by decide +kernel
theorem dX9_bits_21 : decode cX9_bits 21 = .ok (.iadd, 1) := by decide +kernel
theorem dX9_bits_22 : decode cX9_bits 22 = .ok (.istore_n 2, 1) := by decide +kernel
theorem dX9_bits_23 : decode cX9_bits 23 = .ok (.iinc 3 1, 3) := by decide +kernel
theorem dX9_bits_26 : decode cX9_bits 26 = .ok (.goto (-22), 3) := by decide +kernel
theorem dX9_bits_29 : decode cX9_bits 29 = .ok (.iload_n 2, 1) := by decide +kernel
theorem dX9_bits_30 : decode cX9_bits 30 = .ok (.ireturn, 1) := by decide +kernel
theorem dX9_least_0 : decode cX9_least 0 = .ok (.iconst 0, 1) := by decide +kernel
theorem dX9_least_1 : decode cX9_least 1 = .ok (.istore_n 2, 1) := by decide +kernel
theorem dX9_least_2 : decode cX9_least 2 = .ok (.aload_n 0, 1) := by decide +kernel
theorem dX9_least_3 : decode cX9_least 3 = .ok (.iload_n 1, 1) := by decide +kernel
theorem dX9_least_4 : decode cX9_least 4 = .ok (.iload_n 2, 1) := by decide +kernel
theorem dX9_least_5 : decode cX9_least 5 = .ok (.invokevirtual 123, 3) := by decide +kernel
theorem dX9_least_8 : decode cX9_least 8 = .ok (.ifCond .ne 10, 3) := by decide +kernel
theorem dX9_least_11 : decode cX9_least 11 = .ok (.iload_n 2, 1) := by decide +kernel
theorem dX9_least_12 : decode cX9_least 12 = .ok (.iconst 1, 1) := by decide +kernel
theorem dX9_least_13 : decode cX9_least 13 = .ok (.iadd, 1) := by decide +kernel
theorem dX9_least_14 : decode cX9_least 14 = .ok (.istore_n 2, 1) := by decide +kernel
theorem dX9_least_15 : decode cX9_least 15 = .ok (.goto (-13), 3) := by decide +kernel
theorem dX9_least_18 : decode cX9_least 18 = .ok (.iload_n 2, 1) := by decide +kernel
theorem dX9_least_19 : decode cX9_least 19 = .ok (.ireturn, 1) := by decide +kernel
theorem dX9_placeOf_0 : decode cX9_placeOf 0 = .ok (.sipush 1024, 3) := by decide +kernel
theorem dX9_placeOf_3 : decode cX9_placeOf 3 = .ok (.aload_n 0, 1) := by decide +kernel
theorem dX9_placeOf_4 : decode cX9_placeOf 4 = .ok (.getfield 13, 3) := by decide +kernel
theorem dX9_placeOf_7 : decode cX9_placeOf 7 = .ok (.iload_n 1, 1) := by decide +kernel
theorem dX9_placeOf_8 : decode cX9_placeOf 8 = .ok (.iaload, 1) := by decide +kernel
theorem dX9_placeOf_9 : decode cX9_placeOf 9 = .ok (.imul, 1) := by decide +kernel
theorem dX9_placeOf_10 : decode cX9_placeOf 10 = .ok (.aload_n 0, 1) := by decide +kernel
theorem dX9_placeOf_11 : decode cX9_placeOf 11 = .ok (.getfield 7, 3) := by decide +kernel
theorem dX9_placeOf_14 : decode cX9_placeOf 14 = .ok (.iload_n 1, 1) := by decide +kernel
theorem dX9_placeOf_15 : decode cX9_placeOf 15 = .ok (.iaload, 1) := by decide +kernel
theorem dX9_placeOf_16 : decode cX9_placeOf 16 = .ok (.iadd, 1) := by decide +kernel
theorem dX9_placeOf_17 : decode cX9_placeOf 17 = .ok (.ireturn, 1) := by decide +kernel
theorem dX9_keeps_0 : decode cX9_keeps 0 = .ok (.aload_n 0, 1) := by decide +kernel
theorem dX9_keeps_1 : decode cX9_keeps 1 = .ok (.aload_n 0, 1) := by decide +kernel
theorem dX9_keeps_2 : decode cX9_keeps 2 = .ok (.getfield 98, 3) := by decide +kernel
theorem dX9_keeps_5 : decode cX9_keeps 5 = .ok (.putfield 138, 3) := by decide +kernel
theorem dX9_keeps_8 : decode cX9_keeps 8 = .ok (.iconst 0, 1) := by decide +kernel
theorem dX9_keeps_9 : decode cX9_keeps 9 = .ok (.istore_n 1, 1) := by decide +kernel
theorem dX9_keeps_10 : decode cX9_keeps 10 = .ok (.iload_n 1, 1) := by decide +kernel
theorem dX9_keeps_11 : decode cX9_keeps 11 = .ok (.aload_n 0, 1) := by decide +kernel
theorem dX9_keeps_12 : decode cX9_keeps 12 = .ok (.getfield 98, 3) := by decide +kernel
theorem dX9_keeps_15 : decode cX9_keeps 15 = .ok (.if_icmp .ge 20, 3) := by decide +kernel
theorem dX9_keeps_18 : decode cX9_keeps 18 = .ok (.aload_n 0, 1) := by decide +kernel
theorem dX9_keeps_19 : decode cX9_keeps 19 = .ok (.getfield 53, 3) := by decide +kernel
theorem dX9_keeps_22 : decode cX9_keeps 22 = .ok (.iload_n 1, 1) := by decide +kernel
theorem dX9_keeps_23 : decode cX9_keeps 23 = .ok (.aload_n 0, 1) := by decide +kernel
theorem dX9_keeps_24 : decode cX9_keeps 24 = .ok (.iload_n 1, 1) := by decide +kernel
theorem dX9_keeps_25 : decode cX9_keeps 25 = .ok (.invokevirtual 141, 3) := by decide +kernel
theorem dX9_keeps_28 : decode cX9_keeps 28 = .ok (.iastore, 1) := by decide +kernel
theorem dX9_keeps_29 : decode cX9_keeps 29 = .ok (.iinc 1 1, 3) := by decide +kernel
theorem dX9_keeps_32 : decode cX9_keeps 32 = .ok (.goto (-22), 3) := by decide +kernel
theorem dX9_keeps_35 : decode cX9_keeps 35 = .ok (.iconst 0, 1) := by decide +kernel
theorem dX9_keeps_36 : decode cX9_keeps 36 = .ok (.istore_n 1, 1) := by decide +kernel
theorem dX9_keeps_37 : decode cX9_keeps 37 = .ok (.iload_n 1, 1) := by decide +kernel
theorem dX9_keeps_38 : decode cX9_keeps 38 = .ok (.aload_n 0, 1) := by decide +kernel
theorem dX9_keeps_39 : decode cX9_keeps 39 = .ok (.invokevirtual 119, 3) := by decide +kernel
theorem dX9_keeps_42 : decode cX9_keeps 42 = .ok (.if_icmp .ge 53, 3) := by decide +kernel
theorem dX9_keeps_45 : decode cX9_keeps 45 = .ok (.aload_n 0, 1) := by decide +kernel
theorem dX9_keeps_46 : decode cX9_keeps 46 = .ok (.getfield 56, 3) := by decide +kernel
theorem dX9_keeps_49 : decode cX9_keeps 49 = .ok (.iload_n 1, 1) := by decide +kernel
theorem dX9_keeps_50 : decode cX9_keeps 50 = .ok (.aload_n 0, 1) := by decide +kernel
theorem dX9_keeps_51 : decode cX9_keeps 51 = .ok (.aload_n 0, 1) := by decide +kernel
theorem dX9_keeps_52 : decode cX9_keeps 52 = .ok (.getfield 23, 3) := by decide +kernel
theorem dX9_keeps_55 : decode cX9_keeps 55 = .ok (.iload_n 1, 1) := by decide +kernel
theorem dX9_keeps_56 : decode cX9_keeps 56 = .ok (.iaload, 1) := by decide +kernel
theorem dX9_keeps_57 : decode cX9_keeps 57 = .ok (.invokevirtual 141, 3) := by decide +kernel
theorem dX9_keeps_60 : decode cX9_keeps 60 = .ok (.iastore, 1) := by decide +kernel
theorem dX9_keeps_61 : decode cX9_keeps 61 = .ok (.aload_n 0, 1) := by decide +kernel
theorem dX9_keeps_62 : decode cX9_keeps 62 = .ok (.getfield 59, 3) := by decide +kernel
theorem dX9_keeps_65 : decode cX9_keeps 65 = .ok (.iload_n 1, 1) := by decide +kernel
theorem dX9_keeps_66 : decode cX9_keeps 66 = .ok (.aload_n 0, 1) := by decide +kernel
theorem dX9_keeps_67 : decode cX9_keeps 67 = .ok (.aload_n 0, 1) := by decide +kernel
theorem dX9_keeps_68 : decode cX9_keeps 68 = .ok (.getfield 26, 3) := by decide +kernel
theorem dX9_keeps_71 : decode cX9_keeps 71 = .ok (.iload_n 1, 1) := by decide +kernel
theorem dX9_keeps_72 : decode cX9_keeps 72 = .ok (.iaload, 1) := by decide +kernel
theorem dX9_keeps_73 : decode cX9_keeps 73 = .ok (.invokevirtual 141, 3) := by decide +kernel
