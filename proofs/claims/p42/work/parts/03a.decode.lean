theorem dX0_init_0 : decode cX0_init 0 = .ok (.aload_n 0, 1) := by decide +kernel
theorem dX0_init_1 : decode cX0_init 1 = .ok (.invokespecial 3, 3) := by decide +kernel
theorem dX0_init_4 : decode cX0_init 4 = .ok (.aload_n 0, 1) := by decide +kernel
theorem dX0_init_5 : decode cX0_init 5 = .ok (.iconst 0, 1) := by decide +kernel
theorem dX0_init_6 : decode cX0_init 6 = .ok (.putfield 9, 3) := by decide +kernel
theorem dX0_init_9 : decode cX0_init 9 = .ok (.aload_n 0, 1) := by decide +kernel
theorem dX0_init_10 : decode cX0_init 10 = .ok (.bipush 24, 2) := by decide +kernel
theorem dX0_init_12 : decode cX0_init 12 = .ok (.newarray .int, 2) := by decide +kernel
theorem dX0_init_14 : decode cX0_init 14 = .ok (.putfield 15, 3) := by decide +kernel
theorem dX0_init_17 : decode cX0_init 17 = .ok (.aload_n 0, 1) := by decide +kernel
theorem dX0_init_18 : decode cX0_init 18 = .ok (.bipush 24, 2) := by decide +kernel
theorem dX0_init_20 : decode cX0_init 20 = .ok (.newarray .int, 2) := by decide +kernel
theorem dX0_init_22 : decode cX0_init 22 = .ok (.putfield 19, 3) := by decide +kernel
theorem dX0_init_25 : decode cX0_init 25 = .ok (.return_, 1) := by decide +kernel
theorem dX1_init_0 : decode cX1_init 0 = .ok (.aload_n 0, 1) := by decide +kernel
theorem dX1_init_1 : decode cX1_init 1 = .ok (.invokespecial 3, 3) := by decide +kernel
theorem dX1_init_4 : decode cX1_init 4 = .ok (.aload_n 0, 1) := by decide +kernel
theorem dX1_init_5 : decode cX1_init 5 = .ok (.iconst 0, 1) := by decide +kernel
theorem dX1_init_6 : decode cX1_init 6 = .ok (.putfield 9, 3) := by decide +kernel
theorem dX1_init_9 : decode cX1_init 9 = .ok (.aload_n 0, 1) := by decide +kernel
theorem dX1_init_10 : decode cX1_init 10 = .ok (.iconst 0, 1) := by decide +kernel
theorem dX1_init_11 : decode cX1_init 11 = .ok (.putfield 15, 3) := by decide +kernel
theorem dX1_init_14 : decode cX1_init 14 = .ok (.aload_n 0, 1) := by decide +kernel
theorem dX1_init_15 : decode cX1_init 15 = .ok (.bipush 24, 2) := by decide +kernel
theorem dX1_init_17 : decode cX1_init 17 = .ok (.newarray .int, 2) := by decide +kernel
theorem dX1_init_19 : decode cX1_init 19 = .ok (.putfield 18, 3) := by decide +kernel
theorem dX1_init_22 : decode cX1_init 22 = .ok (.aload_n 0, 1) := by decide +kernel
theorem dX1_init_23 : decode cX1_init 23 = .ok (.bipush 24, 2) := by decide +kernel
theorem dX1_init_25 : decode cX1_init 25 = .ok (.newarray .boolean, 2) := by decide +kernel
theorem dX1_init_27 : decode cX1_init 27 = .ok (.putfield 22, 3) := by decide +kernel
theorem dX1_init_30 : decode cX1_init 30 = .ok (.aload_n 0, 1) := by decide +kernel
theorem dX1_init_31 : decode cX1_init 31 = .ok (.bipush 24, 2) := by decide +kernel
theorem dX1_init_33 : decode cX1_init 33 = .ok (.newarray .boolean, 2) := by decide +kernel
theorem dX1_init_35 : decode cX1_init 35 = .ok (.putfield 26, 3) := by decide +kernel
theorem dX1_init_38 : decode cX1_init 38 = .ok (.aload_n 0, 1) := by decide +kernel
theorem dX1_init_39 : decode cX1_init 39 = .ok (.bipush 24, 2) := by decide +kernel
theorem dX1_init_41 : decode cX1_init 41 = .ok (.newarray .int, 2) := by decide +kernel
theorem dX1_init_43 : decode cX1_init 43 = .ok (.putfield 29, 3) := by decide +kernel
theorem dX1_init_46 : decode cX1_init 46 = .ok (.return_, 1) := by decide +kernel
theorem dX2_init_0 : decode cX2_init 0 = .ok (.aload_n 0, 1) := by decide +kernel
theorem dX2_init_1 : decode cX2_init 1 = .ok (.invokespecial 3, 3) := by decide +kernel
theorem dX2_init_4 : decode cX2_init 4 = .ok (.aload_n 0, 1) := by decide +kernel
theorem dX2_init_5 : decode cX2_init 5 = .ok (.new 9, 3) := by decide +kernel
theorem dX2_init_8 : decode cX2_init 8 = .ok (.dup, 1) := by decide +kernel
theorem dX2_init_9 : decode cX2_init 9 = .ok (.invokespecial 11, 3) := by decide +kernel
theorem dX2_init_12 : decode cX2_init 12 = .ok (.putfield 12, 3) := by decide +kernel
theorem dX2_init_15 : decode cX2_init 15 = .ok (.aload_n 0, 1) := by decide +kernel
theorem dX2_init_16 : decode cX2_init 16 = .ok (.iconst 0, 1) := by decide +kernel
theorem dX2_init_17 : decode cX2_init 17 = .ok (.putfield 18, 3) := by decide +kernel
theorem dX2_init_20 : decode cX2_init 20 = .ok (.aload_n 0, 1) := by decide +kernel
theorem dX2_init_21 : decode cX2_init 21 = .ok (.bipush 24, 2) := by decide +kernel
theorem dX2_init_23 : decode cX2_init 23 = .ok (.newarray .long, 2) := by decide +kernel
theorem dX2_init_25 : decode cX2_init 25 = .ok (.putfield 22, 3) := by decide +kernel
theorem dX2_init_28 : decode cX2_init 28 = .ok (.aload_n 0, 1) := by decide +kernel
theorem dX2_init_29 : decode cX2_init 29 = .ok (.bipush 24, 2) := by decide +kernel
theorem dX2_init_31 : decode cX2_init 31 = .ok (.newarray .int, 2) := by decide +kernel
theorem dX2_init_33 : decode cX2_init 33 = .ok (.putfield 26, 3) := by decide +kernel
theorem dX2_init_36 : decode cX2_init 36 = .ok (.aload_n 0, 1) := by decide +kernel
theorem dX2_init_37 : decode cX2_init 37 = .ok (.bipush 24, 2) := by decide +kernel
theorem dX2_init_39 : decode cX2_init 39 = .ok (.newarray .int, 2) := by decide +kernel
theorem dX2_init_41 : decode cX2_init 41 = .ok (.putfield 30, 3) := by decide +kernel
theorem dX2_init_44 : decode cX2_init 44 = .ok (.aload_n 0, 1) := by decide +kernel
theorem dX2_init_45 : decode cX2_init 45 = .ok (.bipush 24, 2) := by decide +kernel
theorem dX2_init_47 : decode cX2_init 47 = .ok (.newarray .int, 2) := by decide +kernel
theorem dX2_init_49 : decode cX2_init 49 = .ok (.putfield 33, 3) := by decide +kernel
theorem dX2_init_52 : decode cX2_init 52 = .ok (.aload_n 0, 1) := by decide +kernel
theorem dX2_init_53 : decode cX2_init 53 = .ok (.bipush 24, 2) := by decide +kernel
theorem dX2_init_55 : decode cX2_init 55 = .ok (.newarray .int, 2) := by decide +kernel
theorem dX2_init_57 : decode cX2_init 57 = .ok (.putfield 36, 3) := by decide +kernel
theorem dX2_init_60 : decode cX2_init 60 = .ok (.aload_n 0, 1) := by decide +kernel
theorem dX2_init_61 : decode cX2_init 61 = .ok (.bipush 24, 2) := by decide +kernel
theorem dX2_init_63 : decode cX2_init 63 = .ok (.newarray .int, 2) := by decide +kernel
theorem dX2_init_65 : decode cX2_init 65 = .ok (.putfield 39, 3) := by decide +kernel
theorem dX2_init_68 : decode cX2_init 68 = .ok (.aload_n 0, 1) := by decide +kernel
theorem dX2_init_69 : decode cX2_init 69 = .ok (.bipush 24, 2) := by decide +kernel
theorem dX2_init_71 : decode cX2_init 71 = .ok (.newarray .int, 2) := by decide +kernel
theorem dX2_init_73 : decode cX2_init 73 = .ok (.putfield 42, 3) := by decide +kernel
theorem dX2_init_76 : decode cX2_init 76 = .ok (.aload_n 0, 1) := by decide +kernel
theorem dX2_init_77 : decode cX2_init 77 = .ok (.bipush 24, 2) := by decide +kernel
theorem dX2_init_79 : decode cX2_init 79 = .ok (.newarray .int, 2) := by decide +kernel
theorem dX2_init_81 : decode cX2_init 81 = .ok (.putfield 45, 3) := by decide +kernel
theorem dX2_init_84 : decode cX2_init 84 = .ok (.aload_n 0, 1) := by decide +kernel
theorem dX2_init_85 : decode cX2_init 85 = .ok (.bipush 24, 2) := by decide +kernel
theorem dX2_init_87 : decode cX2_init 87 = .ok (.newarray .int, 2) := by decide +kernel
theorem dX2_init_89 : decode cX2_init 89 = .ok (.putfield 48, 3) := by decide +kernel
theorem dX2_init_92 : decode cX2_init 92 = .ok (.aload_n 0, 1) := by decide +kernel
theorem dX2_init_93 : decode cX2_init 93 = .ok (.bipush 24, 2) := by decide +kernel
theorem dX2_init_95 : decode cX2_init 95 = .ok (.newarray .int, 2) := by decide +kernel
theorem dX2_init_97 : decode cX2_init 97 = .ok (.putfield 51, 3) := by decide +kernel
theorem dX2_init_100 : decode cX2_init 100 = .ok (.aload_n 0, 1) := by decide +kernel
theorem dX2_init_101 : decode cX2_init 101 = .ok (.bipush 24, 2) := by decide +kernel
theorem dX2_init_103 : decode cX2_init 103 = .ok (.newarray .long, 2) := by decide +kernel
theorem dX2_init_105 : decode cX2_init 105 = .ok (.putfield 54, 3) := by decide +kernel
theorem dX2_init_108 : decode cX2_init 108 = .ok (.aload_n 0, 1) := by decide +kernel
theorem dX2_init_109 : decode cX2_init 109 = .ok (.bipush 24, 2) := by decide +kernel
theorem dX2_init_111 : decode cX2_init 111 = .ok (.newarray .long, 2) := by decide +kernel
theorem dX2_init_113 : decode cX2_init 113 = .ok (.putfield 57, 3) := by decide +kernel
theorem dX2_init_116 : decode cX2_init 116 = .ok (.aload_n 0, 1) := by decide +kernel
theorem dX2_init_117 : decode cX2_init 117 = .ok (.bipush 24, 2) := by decide +kernel
theorem dX2_init_119 : decode cX2_init 119 = .ok (.newarray .int, 2) := by decide +kernel
theorem dX2_init_121 : decode cX2_init 121 = .ok (.putfield 60, 3) := by decide +kernel
theorem dX2_init_124 : decode cX2_init 124 = .ok (.return_, 1) := by decide +kernel
theorem dX2_rebuild_0 : decode cX2_rebuild 0 = .ok (.aload_n 0, 1) := by decide +kernel
theorem dX2_rebuild_1 : decode cX2_rebuild 1 = .ok (.invokevirtual 63, 3) := by decide +kernel
theorem dX2_rebuild_4 : decode cX2_rebuild 4 = .ok (.iconst 0, 1) := by decide +kernel
theorem dX2_rebuild_5 : decode cX2_rebuild 5 = .ok (.istore_n 1, 1) := by decide +kernel
theorem dX2_rebuild_6 : decode cX2_rebuild 6 = .ok (.iload_n 1, 1) := by decide +kernel
theorem dX2_rebuild_7 : decode cX2_rebuild 7 = .ok (.aload_n 0, 1) := by decide +kernel
theorem dX2_rebuild_8 : decode cX2_rebuild 8 = .ok (.getfield 12, 3) := by decide +kernel
theorem dX2_rebuild_11 : decode cX2_rebuild 11 = .ok (.getfield 66, 3) := by decide +kernel
theorem dX2_rebuild_14 : decode cX2_rebuild 14 = .ok (.if_icmp .ge 23, 3) := by decide +kernel
theorem dX2_rebuild_17 : decode cX2_rebuild 17 = .ok (.aload_n 0, 1) := by decide +kernel
theorem dX2_rebuild_18 : decode cX2_rebuild 18 = .ok (.getfield 60, 3) := by decide +kernel
theorem dX2_rebuild_21 : decode cX2_rebuild 21 = .ok (.iload_n 1, 1) := by decide +kernel
theorem dX2_rebuild_22 : decode cX2_rebuild 22 = .ok (.iload_n 1, 1) := by decide +kernel
theorem dX2_rebuild_23 : decode cX2_rebuild 23 = .ok (.iastore, 1) := by decide +kernel
theorem dX2_rebuild_24 : decode cX2_rebuild 24 = .ok (.aload_n 0, 1) := by decide +kernel
theorem dX2_rebuild_25 : decode cX2_rebuild 25 = .ok (.getfield 51, 3) := by decide +kernel
theorem dX2_rebuild_28 : decode cX2_rebuild 28 = .ok (.iload_n 1, 1) := by decide +kernel
theorem dX2_rebuild_29 : decode cX2_rebuild 29 = .ok (.iconst (-1), 1) := by decide +kernel
theorem dX2_rebuild_30 : decode cX2_rebuild 30 = .ok (.iastore, 1) := by decide +kernel
theorem dX2_rebuild_31 : decode cX2_rebuild 31 = .ok (.iinc 1 1, 3) := by decide +kernel
theorem dX2_rebuild_34 : decode cX2_rebuild 34 = .ok (.goto (-28), 3) := by decide +kernel
theorem dX2_rebuild_37 : decode cX2_rebuild 37 = .ok (.iconst 0, 1) := by decide +kernel
theorem dX2_rebuild_38 : decode cX2_rebuild 38 = .ok (.istore_n 1, 1) := by decide +kernel
theorem dX2_rebuild_39 : decode cX2_rebuild 39 = .ok (.iload_n 1, 1) := by decide +kernel
theorem dX2_rebuild_40 : decode cX2_rebuild 40 = .ok (.aload_n 0, 1) := by decide +kernel
theorem dX2_rebuild_41 : decode cX2_rebuild 41 = .ok (.getfield 18, 3) := by decide +kernel
theorem dX2_rebuild_44 : decode cX2_rebuild 44 = .ok (.if_icmp .ge 14, 3) := by decide +kernel
theorem dX2_rebuild_47 : decode cX2_rebuild 47 = .ok (.aload_n 0, 1) := by decide +kernel
theorem dX2_rebuild_48 : decode cX2_rebuild 48 = .ok (.iload_n 1, 1) := by decide +kernel
theorem dX2_rebuild_49 : decode cX2_rebuild 49 = .ok (.invokevirtual 67, 3) := by decide +kernel
theorem dX2_rebuild_52 : decode cX2_rebuild 52 = .ok (.iinc 1 1, 3) := by decide +kernel
theorem dX2_rebuild_55 : decode cX2_rebuild 55 = .ok (.goto (-16), 3) := by decide +kernel
theorem dX2_rebuild_58 : decode cX2_rebuild 58 = .ok (.return_, 1) := by decide +kernel
theorem dX2_growTree_0 : decode cX2_growTree 0 = .ok (.aload_n 0, 1) := by decide +kernel
theorem dX2_growTree_1 : decode cX2_growTree 1 = .ok (.iconst 0, 1) := by decide +kernel
theorem dX2_growTree_2 : decode cX2_growTree 2 = .ok (.putfield 18, 3) := by decide +kernel
theorem dX2_growTree_5 : decode cX2_growTree 5 = .ok (.iconst 1, 1) := by decide +kernel
theorem dX2_growTree_6 : decode cX2_growTree 6 = .ok (.istore_n 1, 1) := by decide +kernel
theorem dX2_growTree_7 : decode cX2_growTree 7 = .ok (.iconst 1, 1) := by decide +kernel
theorem dX2_growTree_8 : decode cX2_growTree 8 = .ok (.istore_n 2, 1) := by decide +kernel
theorem dX2_growTree_9 : decode cX2_growTree 9 = .ok (.iload_n 2, 1) := by decide +kernel
theorem dX2_growTree_10 : decode cX2_growTree 10 = .ok (.aload_n 0, 1) := by decide +kernel
theorem dX2_growTree_11 : decode cX2_growTree 11 = .ok (.getfield 12, 3) := by decide +kernel
theorem dX2_growTree_14 : decode cX2_growTree 14 = .ok (.getfield 66, 3) := by decide +kernel
theorem dX2_growTree_17 : decode cX2_growTree 17 = .ok (.if_icmp .ge 21, 3) := by decide +kernel
theorem dX2_growTree_20 : decode cX2_growTree 20 = .ok (.aload_n 0, 1) := by decide +kernel
theorem dX2_growTree_21 : decode cX2_growTree 21 = .ok (.getfield 57, 3) := by decide +kernel
theorem dX2_growTree_24 : decode cX2_growTree 24 = .ok (.iload_n 2, 1) := by decide +kernel
theorem dX2_growTree_25 : decode cX2_growTree 25 = .ok (.aload_n 0, 1) := by decide +kernel
theorem dX2_growTree_26 : decode cX2_growTree 26 = .ok (.iconst 0, 1) := by decide +kernel
theorem dX2_growTree_27 : decode cX2_growTree 27 = .ok (.iload_n 2, 1) := by decide +kernel
theorem dX2_growTree_28 : decode cX2_growTree 28 = .ok (.invokevirtual 71, 3) := by decide +kernel
theorem dX2_growTree_31 : decode cX2_growTree 31 = .ok (.lastore, 1) := by decide +kernel
theorem dX2_growTree_32 : decode cX2_growTree 32 = .ok (.iinc 2 1, 3) := by decide +kernel
theorem dX2_growTree_35 : decode cX2_growTree 35 = .ok (.goto (-26), 3) := by decide +kernel
theorem dX2_growTree_38 : decode cX2_growTree 38 = .ok (.iconst 1, 1) := by decide +kernel
theorem dX2_growTree_39 : decode cX2_growTree 39 = .ok (.istore_n 2, 1) := by decide +kernel
theorem dX2_growTree_40 : decode cX2_growTree 40 = .ok (.iload_n 2, 1) := by decide +kernel
theorem dX2_growTree_41 : decode cX2_growTree 41 = .ok (.aload_n 0, 1) := by decide +kernel
theorem dX2_growTree_42 : decode cX2_growTree 42 = .ok (.getfield 12, 3) := by decide +kernel
theorem dX2_growTree_45 : decode cX2_growTree 45 = .ok (.getfield 66, 3) := by decide +kernel
theorem dX2_growTree_48 : decode cX2_growTree 48 = .ok (.if_icmp .ge 91, 3) := by decide +kernel
theorem dX2_growTree_51 : decode cX2_growTree 51 = .ok (.aload_n 0, 1) := by decide +kernel
theorem dX2_growTree_52 : decode cX2_growTree 52 = .ok (.iload_n 1, 1) := by decide +kernel
theorem dX2_growTree_53 : decode cX2_growTree 53 = .ok (.invokevirtual 75, 3) := by decide +kernel
theorem dX2_growTree_56 : decode cX2_growTree 56 = .ok (.istore_n 3, 1) := by decide +kernel
theorem dX2_growTree_57 : decode cX2_growTree 57 = .ok (.iload_n 3, 1) := by decide +kernel
theorem dX2_growTree_58 : decode cX2_growTree 58 = .ok (.iconst (-1), 1) := by decide +kernel
theorem dX2_growTree_59 : decode cX2_growTree 59 = .ok (.if_icmp .ne 4, 3) := by decide +kernel
theorem dX2_growTree_62 : decode cX2_growTree 62 = .ok (.return_, 1) := by decide +kernel
theorem dX2_growTree_63 : decode cX2_growTree 63 = .ok (.aload_n 0, 1) := by decide +kernel
theorem dX2_growTree_64 : decode cX2_growTree 64 = .ok (.aload_n 0, 1) := by decide +kernel
theorem dX2_growTree_65 : decode cX2_growTree 65 = .ok (.getfield 57, 3) := by decide +kernel
theorem dX2_growTree_68 : decode cX2_growTree 68 = .ok (.iload_n 3, 1) := by decide +kernel
theorem dX2_growTree_69 : decode cX2_growTree 69 = .ok (.laload, 1) := by decide +kernel
theorem dX2_growTree_70 : decode cX2_growTree 70 = .ok (.invokevirtual 79, 3) := by decide +kernel
theorem dX2_growTree_73 : decode cX2_growTree 73 = .ok (.iload_n 1, 1) := by decide +kernel
theorem dX2_growTree_74 : decode cX2_growTree 74 = .ok (.iconst 1, 1) := by decide +kernel
theorem dX2_growTree_75 : decode cX2_growTree 75 = .ok (.iload_n 3, 1) := by decide +kernel
theorem dX2_growTree_76 : decode cX2_growTree 76 = .ok (.ishl, 1) := by decide +kernel
theorem dX2_growTree_77 : decode cX2_growTree 77 = .ok (.ior, 1) := by decide +kernel
theorem dX2_growTree_78 : decode cX2_growTree 78 = .ok (.istore_n 1, 1) := by decide +kernel
theorem dX2_growTree_79 : decode cX2_growTree 79 = .ok (.iconst 1, 1) := by decide +kernel
theorem dX2_growTree_80 : decode cX2_growTree 80 = .ok (.istore 4, 2) := by decide +kernel
theorem dX2_growTree_82 : decode cX2_growTree 82 = .ok (.iload 4, 2) := by decide +kernel
theorem dX2_growTree_84 : decode cX2_growTree 84 = .ok (.aload_n 0, 1) := by decide +kernel
theorem dX2_growTree_85 : decode cX2_growTree 85 = .ok (.getfield 12, 3) := by decide +kernel
theorem dX2_growTree_88 : decode cX2_growTree 88 = .ok (.getfield 66, 3) := by decide +kernel
theorem dX2_growTree_91 : decode cX2_growTree 91 = .ok (.if_icmp .ge 42, 3) := by decide +kernel
theorem dX2_growTree_94 : decode cX2_growTree 94 = .ok (.iload_n 1, 1) := by decide +kernel
theorem dX2_growTree_95 : decode cX2_growTree 95 = .ok (.iload 4, 2) := by decide +kernel
theorem dX2_growTree_97 : decode cX2_growTree 97 = .ok (.invokestatic 83, 3) := by decide +kernel
theorem dX2_growTree_100 : decode cX2_growTree 100 = .ok (.ifCond .ne 27, 3) := by decide +kernel
theorem dX2_growTree_103 : decode cX2_growTree 103 = .ok (.aload_n 0, 1) := by decide +kernel
theorem dX2_growTree_104 : decode cX2_growTree 104 = .ok (.getfield 57, 3) := by decide +kernel
theorem dX2_growTree_107 : decode cX2_growTree 107 = .ok (.iload 4, 2) := by decide +kernel
theorem dX2_growTree_109 : decode cX2_growTree 109 = .ok (.aload_n 0, 1) := by decide +kernel
theorem dX2_growTree_110 : decode cX2_growTree 110 = .ok (.getfield 57, 3) := by decide +kernel
theorem dX2_growTree_113 : decode cX2_growTree 113 = .ok (.iload 4, 2) := by decide +kernel
theorem dX2_growTree_115 : decode cX2_growTree 115 = .ok (.laload, 1) := by decide +kernel
theorem dX2_growTree_116 : decode cX2_growTree 116 = .ok (.aload_n 0, 1) := by decide +kernel
theorem dX2_growTree_117 : decode cX2_growTree 117 = .ok (.iload_n 3, 1) := by decide +kernel
theorem dX2_growTree_118 : decode cX2_growTree 118 = .ok (.iload 4, 2) := by decide +kernel
theorem dX2_growTree_120 : decode cX2_growTree 120 = .ok (.invokevirtual 71, 3) := by decide +kernel
theorem dX2_growTree_123 : decode cX2_growTree 123 = .ok (.invokestatic 89, 3) := by decide +kernel
theorem dX2_growTree_126 : decode cX2_growTree 126 = .ok (.lastore, 1) := by decide +kernel
theorem dX2_growTree_127 : decode cX2_growTree 127 = .ok (.iinc 4 1, 3) := by decide +kernel
theorem dX2_growTree_130 : decode cX2_growTree 130 = .ok (.goto (-48), 3) := by decide +kernel
theorem dX2_growTree_133 : decode cX2_growTree 133 = .ok (.iinc 2 1, 3) := by decide +kernel
theorem dX2_growTree_136 : decode cX2_growTree 136 = .ok (.goto (-96), 3) := by decide +kernel
theorem dX2_growTree_139 : decode cX2_growTree 139 = .ok (.return_, 1) := by decide +kernel
theorem dX2_nextToGrow_0 : decode cX2_nextToGrow 0 = .ok (.iconst (-1), 1) := by decide +kernel
theorem dX2_nextToGrow_1 : decode cX2_nextToGrow 1 = .ok (.istore_n 2, 1) := by decide +kernel
theorem dX2_nextToGrow_2 : decode cX2_nextToGrow 2 = .ok (.iconst 1, 1) := by decide +kernel
theorem dX2_nextToGrow_3 : decode cX2_nextToGrow 3 = .ok (.istore_n 3, 1) := by decide +kernel
theorem dX2_nextToGrow_4 : decode cX2_nextToGrow 4 = .ok (.iload_n 3, 1) := by decide +kernel
theorem dX2_nextToGrow_5 : decode cX2_nextToGrow 5 = .ok (.aload_n 0, 1) := by decide +kernel
theorem dX2_nextToGrow_6 : decode cX2_nextToGrow 6 = .ok (.getfield 12, 3) := by decide +kernel
theorem dX2_nextToGrow_9 : decode cX2_nextToGrow 9 = .ok (.getfield 66, 3) := by decide +kernel
theorem dX2_nextToGrow_12 : decode cX2_nextToGrow 12 = .ok (.if_icmp .ge 40, 3) := by decide +kernel
theorem dX2_nextToGrow_15 : decode cX2_nextToGrow 15 = .ok (.iload_n 1, 1) := by decide +kernel
theorem dX2_nextToGrow_16 : decode cX2_nextToGrow 16 = .ok (.iload_n 3, 1) := by decide +kernel
theorem dX2_nextToGrow_17 : decode cX2_nextToGrow 17 = .ok (.invokestatic 83, 3) := by decide +kernel
theorem dX2_nextToGrow_20 : decode cX2_nextToGrow 20 = .ok (.ifCond .ne 26, 3) := by decide +kernel
theorem dX2_nextToGrow_23 : decode cX2_nextToGrow 23 = .ok (.iload_n 2, 1) := by decide +kernel
theorem dX2_nextToGrow_24 : decode cX2_nextToGrow 24 = .ok (.iconst (-1), 1) := by decide +kernel
theorem dX2_nextToGrow_25 : decode cX2_nextToGrow 25 = .ok (.if_icmp .eq 19, 3) := by decide +kernel
theorem dX2_nextToGrow_28 : decode cX2_nextToGrow 28 = .ok (.aload_n 0, 1) := by decide +kernel
theorem dX2_nextToGrow_29 : decode cX2_nextToGrow 29 = .ok (.getfield 57, 3) := by decide +kernel
theorem dX2_nextToGrow_32 : decode cX2_nextToGrow 32 = .ok (.iload_n 3, 1) := by decide +kernel
theorem dX2_nextToGrow_33 : decode cX2_nextToGrow 33 = .ok (.laload, 1) := by decide +kernel
theorem dX2_nextToGrow_34 : decode cX2_nextToGrow 34 = .ok (.aload_n 0, 1) := by decide +kernel
theorem dX2_nextToGrow_35 : decode cX2_nextToGrow 35 = .ok (.getfield 57, 3) := by decide +kernel
theorem dX2_nextToGrow_38 : decode cX2_nextToGrow 38 = .ok (.iload_n 2, 1) := by decide +kernel
theorem dX2_nextToGrow_39 : decode cX2_nextToGrow 39 = .ok (.laload, 1) := by decide +kernel
theorem dX2_nextToGrow_40 : decode cX2_nextToGrow 40 = .ok (.lcmp, 1) := by decide +kernel
theorem dX2_nextToGrow_41 : decode cX2_nextToGrow 41 = .ok (.ifCond .ge 5, 3) := by decide +kernel
theorem dX2_nextToGrow_44 : decode cX2_nextToGrow 44 = .ok (.iload_n 3, 1) := by decide +kernel
theorem dX2_nextToGrow_45 : decode cX2_nextToGrow 45 = .ok (.istore_n 2, 1) := by decide +kernel
theorem dX2_nextToGrow_46 : decode cX2_nextToGrow 46 = .ok (.iinc 3 1, 3) := by decide +kernel
theorem dX2_nextToGrow_49 : decode cX2_nextToGrow 49 = .ok (.goto (-45), 3) := by decide +kernel
theorem dX2_nextToGrow_52 : decode cX2_nextToGrow 52 = .ok (.iload_n 2, 1) := by decide +kernel
theorem dX2_nextToGrow_53 : decode cX2_nextToGrow 53 = .ok (.ireturn, 1) := by decide +kernel
theorem dX2_keyOf_0 : decode cX2_keyOf 0 = .ok (.aload_n 0, 1) := by decide +kernel
theorem dX2_keyOf_1 : decode cX2_keyOf 1 = .ok (.getfield 12, 3) := by decide +kernel
theorem dX2_keyOf_4 : decode cX2_keyOf 4 = .ok (.iload_n 1, 1) := by decide +kernel
theorem dX2_keyOf_5 : decode cX2_keyOf 5 = .ok (.iload_n 2, 1) := by decide +kernel
theorem dX2_keyOf_6 : decode cX2_keyOf 6 = .ok (.invokevirtual 95, 3) := by decide +kernel
theorem dX2_keyOf_9 : decode cX2_keyOf 9 = .ok (.i2l, 1) := by decide +kernel
theorem dX2_keyOf_10 : decode cX2_keyOf 10 = .ok (.bipush 10, 2) := by decide +kernel
theorem dX2_keyOf_12 : decode cX2_keyOf 12 = .ok (.lshl, 1) := by decide +kernel
theorem dX2_keyOf_13 : decode cX2_keyOf 13 = .ok (.iload_n 1, 1) := by decide +kernel
theorem dX2_keyOf_14 : decode cX2_keyOf 14 = .ok (.iload_n 2, 1) := by decide +kernel
theorem dX2_keyOf_15 : decode cX2_keyOf 15 = .ok (.invokestatic 99, 3) := by decide +kernel
theorem dX2_keyOf_18 : decode cX2_keyOf 18 = .ok (.iconst 5, 1) := by decide +kernel
theorem dX2_keyOf_19 : decode cX2_keyOf 19 = .ok (.ishl, 1) := by decide +kernel
theorem dX2_keyOf_20 : decode cX2_keyOf 20 = .ok (.i2l, 1) := by decide +kernel
theorem dX2_keyOf_21 : decode cX2_keyOf 21 = .ok (.lor, 1) := by decide +kernel
theorem dX2_keyOf_22 : decode cX2_keyOf 22 = .ok (.iload_n 1, 1) := by decide +kernel
theorem dX2_keyOf_23 : decode cX2_keyOf 23 = .ok (.iload_n 2, 1) := by decide +kernel
theorem dX2_keyOf_24 : decode cX2_keyOf 24 = .ok (.invokestatic 101, 3) := by decide +kernel
theorem dX2_keyOf_27 : decode cX2_keyOf 27 = .ok (.i2l, 1) := by decide +kernel
theorem dX2_keyOf_28 : decode cX2_keyOf 28 = .ok (.lor, 1) := by decide +kernel
theorem dX2_keyOf_29 : decode cX2_keyOf 29 = .ok (.lreturn, 1) := by decide +kernel
theorem dX2_putKey_0 : decode cX2_putKey 0 = .ok (.aload_n 0, 1) := by decide +kernel
theorem dX2_putKey_1 : decode cX2_putKey 1 = .ok (.getfield 18, 3) := by decide +kernel
theorem dX2_putKey_4 : decode cX2_putKey 4 = .ok (.bipush 24, 2) := by decide +kernel
theorem dX2_putKey_6 : decode cX2_putKey 6 = .ok (.if_icmp .lt 4, 3) := by decide +kernel
theorem dX2_putKey_9 : decode cX2_putKey 9 = .ok (.return_, 1) := by decide +kernel
theorem dX2_putKey_10 : decode cX2_putKey 10 = .ok (.aload_n 0, 1) := by decide +kernel
theorem dX2_putKey_11 : decode cX2_putKey 11 = .ok (.getfield 18, 3) := by decide +kernel
theorem dX2_putKey_14 : decode cX2_putKey 14 = .ok (.istore_n 3, 1) := by decide +kernel
theorem dX2_putKey_15 : decode cX2_putKey 15 = .ok (.iload_n 3, 1) := by decide +kernel
theorem dX2_putKey_16 : decode cX2_putKey 16 = .ok (.ifCond .le 36, 3) := by decide +kernel
theorem dX2_putKey_19 : decode cX2_putKey 19 = .ok (.aload_n 0, 1) := by decide +kernel
theorem dX2_putKey_20 : decode cX2_putKey 20 = .ok (.getfield 22, 3) := by decide +kernel
theorem dX2_putKey_23 : decode cX2_putKey 23 = .ok (.iload_n 3, 1) := by decide +kernel
theorem dX2_putKey_24 : decode cX2_putKey 24 = .ok (.iconst 1, 1) := by decide +kernel
theorem dX2_putKey_25 : decode cX2_putKey 25 = .ok (.isub, 1) := by decide +kernel
theorem dX2_putKey_26 : decode cX2_putKey 26 = .ok (.laload, 1) := by decide +kernel
theorem dX2_putKey_27 : decode cX2_putKey 27 = .ok (.lload_n 1, 1) := by decide +kernel
theorem dX2_putKey_28 : decode cX2_putKey 28 = .ok (.lcmp, 1) := by decide +kernel
theorem dX2_putKey_29 : decode cX2_putKey 29 = .ok (.ifCond .le 23, 3) := by decide +kernel
theorem dX2_putKey_32 : decode cX2_putKey 32 = .ok (.aload_n 0, 1) := by decide +kernel
theorem dX2_putKey_33 : decode cX2_putKey 33 = .ok (.getfield 22, 3) := by decide +kernel
theorem dX2_putKey_36 : decode cX2_putKey 36 = .ok (.iload_n 3, 1) := by decide +kernel
theorem dX2_putKey_37 : decode cX2_putKey 37 = .ok (.aload_n 0, 1) := by decide +kernel
theorem dX2_putKey_38 : decode cX2_putKey 38 = .ok (.getfield 22, 3) := by decide +kernel
theorem dX2_putKey_41 : decode cX2_putKey 41 = .ok (.iload_n 3, 1) := by decide +kernel
theorem dX2_putKey_42 : decode cX2_putKey 42 = .ok (.iconst 1, 1) := by decide +kernel
theorem dX2_putKey_43 : decode cX2_putKey 43 = .ok (.isub, 1) := by decide +kernel
theorem dX2_putKey_44 : decode cX2_putKey 44 = .ok (.laload, 1) := by decide +kernel
theorem dX2_putKey_45 : decode cX2_putKey 45 = .ok (.lastore, 1) := by decide +kernel
theorem dX2_putKey_46 : decode cX2_putKey 46 = .ok (.iinc 3 (-1), 3) := by decide +kernel
theorem dX2_putKey_49 : decode cX2_putKey 49 = .ok (.goto (-34), 3) := by decide +kernel
theorem dX2_putKey_52 : decode cX2_putKey 52 = .ok (.aload_n 0, 1) := by decide +kernel
theorem dX2_putKey_53 : decode cX2_putKey 53 = .ok (.getfield 22, 3) := by decide +kernel
theorem dX2_putKey_56 : decode cX2_putKey 56 = .ok (.iload_n 3, 1) := by decide +kernel
theorem dX2_putKey_57 : decode cX2_putKey 57 = .ok (.lload_n 1, 1) := by decide +kernel
theorem dX2_putKey_58 : decode cX2_putKey 58 = .ok (.lastore, 1) := by decide +kernel
theorem dX2_putKey_59 : decode cX2_putKey 59 = .ok (.aload_n 0, 1) := by decide +kernel
theorem dX2_putKey_60 : decode cX2_putKey 60 = .ok (.dup, 1) := by decide +kernel
theorem dX2_putKey_61 : decode cX2_putKey 61 = .ok (.getfield 18, 3) := by decide +kernel
theorem dX2_putKey_64 : decode cX2_putKey 64 = .ok (.iconst 1, 1) := by decide +kernel
theorem dX2_putKey_65 : decode cX2_putKey 65 = .ok (.iadd, 1) := by decide +kernel
theorem dX2_putKey_66 : decode cX2_putKey 66 = .ok (.putfield 18, 3) := by decide +kernel
theorem dX2_putKey_69 : decode cX2_putKey 69 = .ok (.return_, 1) := by decide +kernel
theorem dX2_makeJoin_0 : decode cX2_makeJoin 0 = .ok (.aload_n 0, 1) := by decide +kernel
theorem dX2_makeJoin_1 : decode cX2_makeJoin 1 = .ok (.getfield 22, 3) := by decide +kernel
theorem dX2_makeJoin_4 : decode cX2_makeJoin 4 = .ok (.iload_n 1, 1) := by decide +kernel
theorem dX2_makeJoin_5 : decode cX2_makeJoin 5 = .ok (.laload, 1) := by decide +kernel
theorem dX2_makeJoin_6 : decode cX2_makeJoin 6 = .ok (.iconst 5, 1) := by decide +kernel
theorem dX2_makeJoin_7 : decode cX2_makeJoin 7 = .ok (.lshr, 1) := by decide +kernel
theorem dX2_makeJoin_8 : decode cX2_makeJoin 8 = .ok (.ldc2_w 104, 3) := by decide +kernel
theorem dX2_makeJoin_11 : decode cX2_makeJoin 11 = .ok (.land, 1) := by decide +kernel
theorem dX2_makeJoin_12 : decode cX2_makeJoin 12 = .ok (.l2i, 1) := by decide +kernel
theorem dX2_makeJoin_13 : decode cX2_makeJoin 13 = .ok (.istore_n 2, 1) := by decide +kernel
theorem dX2_makeJoin_14 : decode cX2_makeJoin 14 = .ok (.aload_n 0, 1) := by decide +kernel
theorem dX2_makeJoin_15 : decode cX2_makeJoin 15 = .ok (.getfield 22, 3) := by decide +kernel
theorem dX2_makeJoin_18 : decode cX2_makeJoin 18 = .ok (.iload_n 1, 1) := by decide +kernel
theorem dX2_makeJoin_19 : decode cX2_makeJoin 19 = .ok (.laload, 1) := by decide +kernel
theorem dX2_makeJoin_20 : decode cX2_makeJoin 20 = .ok (.ldc2_w 104, 3) := by decide +kernel
theorem dX2_makeJoin_23 : decode cX2_makeJoin 23 = .ok (.land, 1) := by decide +kernel
theorem dX2_makeJoin_24 : decode cX2_makeJoin 24 = .ok (.l2i, 1) := by decide +kernel
theorem dX2_makeJoin_25 : decode cX2_makeJoin 25 = .ok (.istore_n 3, 1) := by decide +kernel
theorem dX2_makeJoin_26 : decode cX2_makeJoin 26 = .ok (.iload_n 2, 1) := by decide +kernel
theorem dX2_makeJoin_27 : decode cX2_makeJoin 27 = .ok (.aload_n 0, 1) := by decide +kernel
theorem dX2_makeJoin_28 : decode cX2_makeJoin 28 = .ok (.getfield 12, 3) := by decide +kernel
theorem dX2_makeJoin_31 : decode cX2_makeJoin 31 = .ok (.getfield 66, 3) := by decide +kernel
theorem dX2_makeJoin_34 : decode cX2_makeJoin 34 = .ok (.if_icmp .ge 14, 3) := by decide +kernel
theorem dX2_makeJoin_37 : decode cX2_makeJoin 37 = .ok (.iload_n 3, 1) := by decide +kernel
theorem dX2_makeJoin_38 : decode cX2_makeJoin 38 = .ok (.aload_n 0, 1) := by decide +kernel
theorem dX2_makeJoin_39 : decode cX2_makeJoin 39 = .ok (.getfield 12, 3) := by decide +kernel
theorem dX2_makeJoin_42 : decode cX2_makeJoin 42 = .ok (.getfield 66, 3) := by decide +kernel
theorem dX2_makeJoin_45 : decode cX2_makeJoin 45 = .ok (.if_icmp .lt 4, 3) := by decide +kernel
theorem dX2_makeJoin_48 : decode cX2_makeJoin 48 = .ok (.return_, 1) := by decide +kernel
theorem dX2_makeJoin_49 : decode cX2_makeJoin 49 = .ok (.aload_n 0, 1) := by decide +kernel
theorem dX2_makeJoin_50 : decode cX2_makeJoin 50 = .ok (.getfield 26, 3) := by decide +kernel
theorem dX2_makeJoin_53 : decode cX2_makeJoin 53 = .ok (.iload_n 1, 1) := by decide +kernel
theorem dX2_makeJoin_54 : decode cX2_makeJoin 54 = .ok (.aload_n 0, 1) := by decide +kernel
theorem dX2_makeJoin_55 : decode cX2_makeJoin 55 = .ok (.getfield 22, 3) := by decide +kernel
theorem dX2_makeJoin_58 : decode cX2_makeJoin 58 = .ok (.iload_n 1, 1) := by decide +kernel
theorem dX2_makeJoin_59 : decode cX2_makeJoin 59 = .ok (.laload, 1) := by decide +kernel
theorem dX2_makeJoin_60 : decode cX2_makeJoin 60 = .ok (.bipush 10, 2) := by decide +kernel
theorem dX2_makeJoin_62 : decode cX2_makeJoin 62 = .ok (.lshr, 1) := by decide +kernel
theorem dX2_makeJoin_63 : decode cX2_makeJoin 63 = .ok (.l2i, 1) := by decide +kernel
theorem dX2_makeJoin_64 : decode cX2_makeJoin 64 = .ok (.iastore, 1) := by decide +kernel
theorem dX2_makeJoin_65 : decode cX2_makeJoin 65 = .ok (.aload_n 0, 1) := by decide +kernel
theorem dX2_makeJoin_66 : decode cX2_makeJoin 66 = .ok (.getfield 30, 3) := by decide +kernel
theorem dX2_makeJoin_69 : decode cX2_makeJoin 69 = .ok (.iload_n 1, 1) := by decide +kernel
theorem dX2_makeJoin_70 : decode cX2_makeJoin 70 = .ok (.aload_n 0, 1) := by decide +kernel
theorem dX2_makeJoin_71 : decode cX2_makeJoin 71 = .ok (.getfield 26, 3) := by decide +kernel
theorem dX2_makeJoin_74 : decode cX2_makeJoin 74 = .ok (.iload_n 1, 1) := by decide +kernel
theorem dX2_makeJoin_75 : decode cX2_makeJoin 75 = .ok (.iaload, 1) := by decide +kernel
theorem dX2_makeJoin_76 : decode cX2_makeJoin 76 = .ok (.invokestatic 106, 3) := by decide +kernel
theorem dX2_makeJoin_79 : decode cX2_makeJoin 79 = .ok (.iastore, 1) := by decide +kernel
theorem dX2_makeJoin_80 : decode cX2_makeJoin 80 = .ok (.aload_n 0, 1) := by decide +kernel
theorem dX2_makeJoin_81 : decode cX2_makeJoin 81 = .ok (.getfield 33, 3) := by decide +kernel
theorem dX2_makeJoin_84 : decode cX2_makeJoin 84 = .ok (.iload_n 1, 1) := by decide +kernel
theorem dX2_makeJoin_85 : decode cX2_makeJoin 85 = .ok (.iload_n 2, 1) := by decide +kernel
theorem dX2_makeJoin_86 : decode cX2_makeJoin 86 = .ok (.iastore, 1) := by decide +kernel
theorem dX2_makeJoin_87 : decode cX2_makeJoin 87 = .ok (.aload_n 0, 1) := by decide +kernel
theorem dX2_makeJoin_88 : decode cX2_makeJoin 88 = .ok (.getfield 36, 3) := by decide +kernel
theorem dX2_makeJoin_91 : decode cX2_makeJoin 91 = .ok (.iload_n 1, 1) := by decide +kernel
theorem dX2_makeJoin_92 : decode cX2_makeJoin 92 = .ok (.iload_n 3, 1) := by decide +kernel
theorem dX2_makeJoin_93 : decode cX2_makeJoin 93 = .ok (.iastore, 1) := by decide +kernel
theorem dX2_makeJoin_94 : decode cX2_makeJoin 94 = .ok (.aload_n 0, 1) := by decide +kernel
theorem dX2_makeJoin_95 : decode cX2_makeJoin 95 = .ok (.getfield 54, 3) := by decide +kernel
theorem dX2_makeJoin_98 : decode cX2_makeJoin 98 = .ok (.iload_n 1, 1) := by decide +kernel
theorem dX2_makeJoin_99 : decode cX2_makeJoin 99 = .ok (.aload_n 0, 1) := by decide +kernel
theorem dX2_makeJoin_100 : decode cX2_makeJoin 100 = .ok (.iload_n 2, 1) := by decide +kernel
theorem dX2_makeJoin_101 : decode cX2_makeJoin 101 = .ok (.invokevirtual 109, 3) := by decide +kernel
theorem dX2_makeJoin_104 : decode cX2_makeJoin 104 = .ok (.bipush 20, 2) := by decide +kernel
theorem dX2_makeJoin_106 : decode cX2_makeJoin 106 = .ok (.lshl, 1) := by decide +kernel
theorem dX2_makeJoin_107 : decode cX2_makeJoin 107 = .ok (.aload_n 0, 1) := by decide +kernel
theorem dX2_makeJoin_108 : decode cX2_makeJoin 108 = .ok (.iload_n 3, 1) := by decide +kernel
theorem dX2_makeJoin_109 : decode cX2_makeJoin 109 = .ok (.invokevirtual 109, 3) := by decide +kernel
theorem dX2_makeJoin_112 : decode cX2_makeJoin 112 = .ok (.lor, 1) := by decide +kernel
theorem dX2_makeJoin_113 : decode cX2_makeJoin 113 = .ok (.lastore, 1) := by decide +kernel
theorem dX2_makeJoin_114 : decode cX2_makeJoin 114 = .ok (.aload_n 0, 1) := by decide +kernel
theorem dX2_makeJoin_115 : decode cX2_makeJoin 115 = .ok (.getfield 42, 3) := by decide +kernel
theorem dX2_makeJoin_118 : decode cX2_makeJoin 118 = .ok (.iload_n 1, 1) := by decide +kernel
theorem dX2_makeJoin_119 : decode cX2_makeJoin 119 = .ok (.aload_n 0, 1) := by decide +kernel
theorem dX2_makeJoin_120 : decode cX2_makeJoin 120 = .ok (.getfield 60, 3) := by decide +kernel
theorem dX2_makeJoin_123 : decode cX2_makeJoin 123 = .ok (.iload_n 2, 1) := by decide +kernel
theorem dX2_makeJoin_124 : decode cX2_makeJoin 124 = .ok (.iaload, 1) := by decide +kernel
theorem dX2_makeJoin_125 : decode cX2_makeJoin 125 = .ok (.iastore, 1) := by decide +kernel
theorem dX2_makeJoin_126 : decode cX2_makeJoin 126 = .ok (.aload_n 0, 1) := by decide +kernel
theorem dX2_makeJoin_127 : decode cX2_makeJoin 127 = .ok (.getfield 45, 3) := by decide +kernel
theorem dX2_makeJoin_130 : decode cX2_makeJoin 130 = .ok (.iload_n 1, 1) := by decide +kernel
theorem dX2_makeJoin_131 : decode cX2_makeJoin 131 = .ok (.aload_n 0, 1) := by decide +kernel
theorem dX2_makeJoin_132 : decode cX2_makeJoin 132 = .ok (.getfield 60, 3) := by decide +kernel
theorem dX2_makeJoin_135 : decode cX2_makeJoin 135 = .ok (.iload_n 3, 1) := by decide +kernel
theorem dX2_makeJoin_136 : decode cX2_makeJoin 136 = .ok (.iaload, 1) := by decide +kernel
theorem dX2_makeJoin_137 : decode cX2_makeJoin 137 = .ok (.iastore, 1) := by decide +kernel
theorem dX2_makeJoin_138 : decode cX2_makeJoin 138 = .ok (.aload_n 0, 1) := by decide +kernel
theorem dX2_makeJoin_139 : decode cX2_makeJoin 139 = .ok (.getfield 39, 3) := by decide +kernel
theorem dX2_makeJoin_142 : decode cX2_makeJoin 142 = .ok (.iload_n 1, 1) := by decide +kernel
theorem dX2_makeJoin_143 : decode cX2_makeJoin 143 = .ok (.aload_n 0, 1) := by decide +kernel
theorem dX2_makeJoin_144 : decode cX2_makeJoin 144 = .ok (.aload_n 0, 1) := by decide +kernel
theorem dX2_makeJoin_145 : decode cX2_makeJoin 145 = .ok (.getfield 60, 3) := by decide +kernel
theorem dX2_makeJoin_148 : decode cX2_makeJoin 148 = .ok (.iload_n 2, 1) := by decide +kernel
theorem dX2_makeJoin_149 : decode cX2_makeJoin 149 = .ok (.iaload, 1) := by decide +kernel
theorem dX2_makeJoin_150 : decode cX2_makeJoin 150 = .ok (.invokevirtual 113, 3) := by decide +kernel
theorem dX2_makeJoin_153 : decode cX2_makeJoin 153 = .ok (.aload_n 0, 1) := by decide +kernel
theorem dX2_makeJoin_154 : decode cX2_makeJoin 154 = .ok (.aload_n 0, 1) := by decide +kernel
theorem dX2_makeJoin_155 : decode cX2_makeJoin 155 = .ok (.getfield 60, 3) := by decide +kernel
theorem dX2_makeJoin_158 : decode cX2_makeJoin 158 = .ok (.iload_n 3, 1) := by decide +kernel
theorem dX2_makeJoin_159 : decode cX2_makeJoin 159 = .ok (.iaload, 1) := by decide +kernel
theorem dX2_makeJoin_160 : decode cX2_makeJoin 160 = .ok (.invokevirtual 113, 3) := by decide +kernel
theorem dX2_makeJoin_163 : decode cX2_makeJoin 163 = .ok (.ior, 1) := by decide +kernel
theorem dX2_makeJoin_164 : decode cX2_makeJoin 164 = .ok (.iastore, 1) := by decide +kernel
theorem dX2_makeJoin_165 : decode cX2_makeJoin 165 = .ok (.aload_n 0, 1) := by decide +kernel
theorem dX2_makeJoin_166 : decode cX2_makeJoin 166 = .ok (.getfield 48, 3) := by decide +kernel
theorem dX2_makeJoin_169 : decode cX2_makeJoin 169 = .ok (.iload_n 1, 1) := by decide +kernel
theorem dX2_makeJoin_170 : decode cX2_makeJoin 170 = .ok (.iconst (-1), 1) := by decide +kernel
theorem dX2_makeJoin_171 : decode cX2_makeJoin 171 = .ok (.iastore, 1) := by decide +kernel
theorem dX2_makeJoin_172 : decode cX2_makeJoin 172 = .ok (.aload_n 0, 1) := by decide +kernel
theorem dX2_makeJoin_173 : decode cX2_makeJoin 173 = .ok (.aload_n 0, 1) := by decide +kernel
theorem dX2_makeJoin_174 : decode cX2_makeJoin 174 = .ok (.getfield 42, 3) := by decide +kernel
theorem dX2_makeJoin_177 : decode cX2_makeJoin 177 = .ok (.iload_n 1, 1) := by decide +kernel
theorem dX2_makeJoin_178 : decode cX2_makeJoin 178 = .ok (.iaload, 1) := by decide +kernel
theorem dX2_makeJoin_179 : decode cX2_makeJoin 179 = .ok (.iload_n 1, 1) := by decide +kernel
theorem dX2_makeJoin_180 : decode cX2_makeJoin 180 = .ok (.invokevirtual 116, 3) := by decide +kernel
theorem dX2_makeJoin_183 : decode cX2_makeJoin 183 = .ok (.aload_n 0, 1) := by decide +kernel
theorem dX2_makeJoin_184 : decode cX2_makeJoin 184 = .ok (.aload_n 0, 1) := by decide +kernel
theorem dX2_makeJoin_185 : decode cX2_makeJoin 185 = .ok (.getfield 45, 3) := by decide +kernel
theorem dX2_makeJoin_188 : decode cX2_makeJoin 188 = .ok (.iload_n 1, 1) := by decide +kernel
theorem dX2_makeJoin_189 : decode cX2_makeJoin 189 = .ok (.iaload, 1) := by decide +kernel
theorem dX2_makeJoin_190 : decode cX2_makeJoin 190 = .ok (.iload_n 1, 1) := by decide +kernel
theorem dX2_makeJoin_191 : decode cX2_makeJoin 191 = .ok (.invokevirtual 116, 3) := by decide +kernel
theorem dX2_makeJoin_194 : decode cX2_makeJoin 194 = .ok (.iconst 0, 1) := by decide +kernel
theorem dX2_makeJoin_195 : decode cX2_makeJoin 195 = .ok (.istore 4, 2) := by decide +kernel
theorem dX2_makeJoin_197 : decode cX2_makeJoin 197 = .ok (.iload 4, 2) := by decide +kernel
theorem dX2_makeJoin_199 : decode cX2_makeJoin 199 = .ok (.aload_n 0, 1) := by decide +kernel
theorem dX2_makeJoin_200 : decode cX2_makeJoin 200 = .ok (.getfield 12, 3) := by decide +kernel
theorem dX2_makeJoin_203 : decode cX2_makeJoin 203 = .ok (.getfield 66, 3) := by decide +kernel
theorem dX2_makeJoin_206 : decode cX2_makeJoin 206 = .ok (.if_icmp .ge 34, 3) := by decide +kernel
theorem dX2_makeJoin_209 : decode cX2_makeJoin 209 = .ok (.aload_n 0, 1) := by decide +kernel
theorem dX2_makeJoin_210 : decode cX2_makeJoin 210 = .ok (.getfield 39, 3) := by decide +kernel
theorem dX2_makeJoin_213 : decode cX2_makeJoin 213 = .ok (.iload_n 1, 1) := by decide +kernel
theorem dX2_makeJoin_214 : decode cX2_makeJoin 214 = .ok (.iaload, 1) := by decide +kernel
theorem dX2_makeJoin_215 : decode cX2_makeJoin 215 = .ok (.iload 4, 2) := by decide +kernel
theorem dX2_makeJoin_217 : decode cX2_makeJoin 217 = .ok (.invokestatic 83, 3) := by decide +kernel
theorem dX2_makeJoin_220 : decode cX2_makeJoin 220 = .ok (.ifCond .eq 14, 3) := by decide +kernel
theorem dX2_makeJoin_223 : decode cX2_makeJoin 223 = .ok (.aload_n 0, 1) := by decide +kernel
theorem dX2_makeJoin_224 : decode cX2_makeJoin 224 = .ok (.getfield 60, 3) := by decide +kernel
theorem dX2_makeJoin_227 : decode cX2_makeJoin 227 = .ok (.iload 4, 2) := by decide +kernel
theorem dX2_makeJoin_229 : decode cX2_makeJoin 229 = .ok (.bipush 100, 2) := by decide +kernel
theorem dX2_makeJoin_231 : decode cX2_makeJoin 231 = .ok (.iload_n 1, 1) := by decide +kernel
theorem dX2_makeJoin_232 : decode cX2_makeJoin 232 = .ok (.iadd, 1) := by decide +kernel
theorem dX2_makeJoin_233 : decode cX2_makeJoin 233 = .ok (.iastore, 1) := by decide +kernel
theorem dX2_makeJoin_234 : decode cX2_makeJoin 234 = .ok (.iinc 4 1, 3) := by decide +kernel
theorem dX2_makeJoin_237 : decode cX2_makeJoin 237 = .ok (.goto (-40), 3) := by decide +kernel
theorem dX2_makeJoin_240 : decode cX2_makeJoin 240 = .ok (.return_, 1) := by decide +kernel
theorem dX2_placeOf_0 : decode cX2_placeOf 0 = .ok (.aload_n 0, 1) := by decide +kernel
theorem dX2_placeOf_1 : decode cX2_placeOf 1 = .ok (.getfield 12, 3) := by decide +kernel
theorem dX2_placeOf_4 : decode cX2_placeOf 4 = .ok (.getfield 120, 3) := by decide +kernel
theorem dX2_placeOf_7 : decode cX2_placeOf 7 = .ok (.iload_n 1, 1) := by decide +kernel
theorem dX2_placeOf_8 : decode cX2_placeOf 8 = .ok (.iaload, 1) := by decide +kernel
theorem dX2_placeOf_9 : decode cX2_placeOf 9 = .ok (.i2l, 1) := by decide +kernel
theorem dX2_placeOf_10 : decode cX2_placeOf 10 = .ok (.bipush 10, 2) := by decide +kernel
theorem dX2_placeOf_12 : decode cX2_placeOf 12 = .ok (.lshl, 1) := by decide +kernel
theorem dX2_placeOf_13 : decode cX2_placeOf 13 = .ok (.aload_n 0, 1) := by decide +kernel
theorem dX2_placeOf_14 : decode cX2_placeOf 14 = .ok (.getfield 12, 3) := by decide +kernel
theorem dX2_placeOf_17 : decode cX2_placeOf 17 = .ok (.getfield 123, 3) := by decide +kernel
theorem dX2_placeOf_20 : decode cX2_placeOf 20 = .ok (.iload_n 1, 1) := by decide +kernel
theorem dX2_placeOf_21 : decode cX2_placeOf 21 = .ok (.iaload, 1) := by decide +kernel
theorem dX2_placeOf_22 : decode cX2_placeOf 22 = .ok (.i2l, 1) := by decide +kernel
theorem dX2_placeOf_23 : decode cX2_placeOf 23 = .ok (.lor, 1) := by decide +kernel
theorem dX2_placeOf_24 : decode cX2_placeOf 24 = .ok (.lreturn, 1) := by decide +kernel
theorem dX2_putBelow_0 : decode cX2_putBelow 0 = .ok (.iload_n 1, 1) := by decide +kernel
theorem dX2_putBelow_1 : decode cX2_putBelow 1 = .ok (.invokestatic 126, 3) := by decide +kernel
theorem dX2_putBelow_4 : decode cX2_putBelow 4 = .ok (.istore_n 3, 1) := by decide +kernel
theorem dX2_putBelow_5 : decode cX2_putBelow 5 = .ok (.iload_n 3, 1) := by decide +kernel
theorem dX2_putBelow_6 : decode cX2_putBelow 6 = .ok (.iconst (-1), 1) := by decide +kernel
theorem dX2_putBelow_7 : decode cX2_putBelow 7 = .ok (.if_icmp .eq 13, 3) := by decide +kernel
theorem dX2_putBelow_10 : decode cX2_putBelow 10 = .ok (.aload_n 0, 1) := by decide +kernel
theorem dX2_putBelow_11 : decode cX2_putBelow 11 = .ok (.getfield 48, 3) := by decide +kernel
theorem dX2_putBelow_14 : decode cX2_putBelow 14 = .ok (.iload_n 3, 1) := by decide +kernel
theorem dX2_putBelow_15 : decode cX2_putBelow 15 = .ok (.iload_n 2, 1) := by decide +kernel
theorem dX2_putBelow_16 : decode cX2_putBelow 16 = .ok (.iastore, 1) := by decide +kernel
theorem dX2_putBelow_17 : decode cX2_putBelow 17 = .ok (.goto 20, 3) := by decide +kernel
theorem dX2_putBelow_20 : decode cX2_putBelow 20 = .ok (.iload_n 1, 1) := by decide +kernel
theorem dX2_putBelow_21 : decode cX2_putBelow 21 = .ok (.ifCond .lt 16, 3) := by decide +kernel
theorem dX2_putBelow_24 : decode cX2_putBelow 24 = .ok (.iload_n 1, 1) := by decide +kernel
theorem dX2_putBelow_25 : decode cX2_putBelow 25 = .ok (.bipush 24, 2) := by decide +kernel
theorem dX2_putBelow_27 : decode cX2_putBelow 27 = .ok (.if_icmp .ge 10, 3) := by decide +kernel
theorem dX2_putBelow_30 : decode cX2_putBelow 30 = .ok (.aload_n 0, 1) := by decide +kernel
theorem dX2_putBelow_31 : decode cX2_putBelow 31 = .ok (.getfield 51, 3) := by decide +kernel
theorem dX2_putBelow_34 : decode cX2_putBelow 34 = .ok (.iload_n 1, 1) := by decide +kernel
theorem dX2_putBelow_35 : decode cX2_putBelow 35 = .ok (.iload_n 2, 1) := by decide +kernel
theorem dX2_putBelow_36 : decode cX2_putBelow 36 = .ok (.iastore, 1) := by decide +kernel
theorem dX2_putBelow_37 : decode cX2_putBelow 37 = .ok (.return_, 1) := by decide +kernel
theorem dX2_joinOf_0 : decode cX2_joinOf 0 = .ok (.iload_n 0, 1) := by decide +kernel
theorem dX2_joinOf_1 : decode cX2_joinOf 1 = .ok (.bipush 100, 2) := by decide +kernel
theorem dX2_joinOf_3 : decode cX2_joinOf 3 = .ok (.if_icmp .lt 16, 3) := by decide +kernel
theorem dX2_joinOf_6 : decode cX2_joinOf 6 = .ok (.iload_n 0, 1) := by decide +kernel
theorem dX2_joinOf_7 : decode cX2_joinOf 7 = .ok (.bipush 124, 2) := by decide +kernel
theorem dX2_joinOf_9 : decode cX2_joinOf 9 = .ok (.if_icmp .ge 10, 3) := by decide +kernel
theorem dX2_joinOf_12 : decode cX2_joinOf 12 = .ok (.iload_n 0, 1) := by decide +kernel
theorem dX2_joinOf_13 : decode cX2_joinOf 13 = .ok (.bipush 100, 2) := by decide +kernel
theorem dX2_joinOf_15 : decode cX2_joinOf 15 = .ok (.isub, 1) := by decide +kernel
theorem dX2_joinOf_16 : decode cX2_joinOf 16 = .ok (.goto 4, 3) := by decide +kernel
theorem dX2_joinOf_19 : decode cX2_joinOf 19 = .ok (.iconst (-1), 1) := by decide +kernel
theorem dX2_joinOf_20 : decode cX2_joinOf 20 = .ok (.ireturn, 1) := by decide +kernel
theorem dX2_setOf_0 : decode cX2_setOf 0 = .ok (.iload_n 1, 1) := by decide +kernel
theorem dX2_setOf_1 : decode cX2_setOf 1 = .ok (.invokestatic 126, 3) := by decide +kernel
theorem dX2_setOf_4 : decode cX2_setOf 4 = .ok (.istore_n 2, 1) := by decide +kernel
theorem dX2_setOf_5 : decode cX2_setOf 5 = .ok (.iload_n 2, 1) := by decide +kernel
theorem dX2_setOf_6 : decode cX2_setOf 6 = .ok (.iconst (-1), 1) := by decide +kernel
theorem dX2_setOf_7 : decode cX2_setOf 7 = .ok (.if_icmp .eq 12, 3) := by decide +kernel
theorem dX2_setOf_10 : decode cX2_setOf 10 = .ok (.aload_n 0, 1) := by decide +kernel
theorem dX2_setOf_11 : decode cX2_setOf 11 = .ok (.getfield 39, 3) := by decide +kernel
theorem dX2_setOf_14 : decode cX2_setOf 14 = .ok (.iload_n 2, 1) := by decide +kernel
theorem dX2_setOf_15 : decode cX2_setOf 15 = .ok (.iaload, 1) := by decide +kernel
theorem dX2_setOf_16 : decode cX2_setOf 16 = .ok (.goto 6, 3) := by decide +kernel
theorem dX2_setOf_19 : decode cX2_setOf 19 = .ok (.iconst 1, 1) := by decide +kernel
theorem dX2_setOf_20 : decode cX2_setOf 20 = .ok (.iload_n 1, 1) := by decide +kernel
theorem dX2_setOf_21 : decode cX2_setOf 21 = .ok (.ishl, 1) := by decide +kernel
theorem dX2_setOf_22 : decode cX2_setOf 22 = .ok (.ireturn, 1) := by decide +kernel
theorem dX2_lastsOf_0 : decode cX2_lastsOf 0 = .ok (.iload_n 1, 1) := by decide +kernel
theorem dX2_lastsOf_1 : decode cX2_lastsOf 1 = .ok (.invokestatic 126, 3) := by decide +kernel
theorem dX2_lastsOf_4 : decode cX2_lastsOf 4 = .ok (.istore_n 2, 1) := by decide +kernel
theorem dX2_lastsOf_5 : decode cX2_lastsOf 5 = .ok (.aload_n 0, 1) := by decide +kernel
theorem dX2_lastsOf_6 : decode cX2_lastsOf 6 = .ok (.iload_n 1, 1) := by decide +kernel
theorem dX2_lastsOf_7 : decode cX2_lastsOf 7 = .ok (.invokevirtual 129, 3) := by decide +kernel
theorem dX2_lastsOf_10 : decode cX2_lastsOf 10 = .ok (.istore_n 3, 1) := by decide +kernel
theorem dX2_lastsOf_11 : decode cX2_lastsOf 11 = .ok (.iload_n 3, 1) := by decide +kernel
theorem dX2_lastsOf_12 : decode cX2_lastsOf 12 = .ok (.ifCond .lt 11, 3) := by decide +kernel
theorem dX2_lastsOf_15 : decode cX2_lastsOf 15 = .ok (.iload_n 3, 1) := by decide +kernel
theorem dX2_lastsOf_16 : decode cX2_lastsOf 16 = .ok (.aload_n 0, 1) := by decide +kernel
theorem dX2_lastsOf_17 : decode cX2_lastsOf 17 = .ok (.getfield 18, 3) := by decide +kernel
theorem dX2_lastsOf_20 : decode cX2_lastsOf 20 = .ok (.if_icmp .lt 5, 3) := by decide +kernel
theorem dX2_lastsOf_23 : decode cX2_lastsOf 23 = .ok (.iconst 0, 1) := by decide +kernel
theorem dX2_lastsOf_24 : decode cX2_lastsOf 24 = .ok (.ireturn, 1) := by decide +kernel
theorem dX2_lastsOf_25 : decode cX2_lastsOf 25 = .ok (.iload_n 2, 1) := by decide +kernel
theorem dX2_lastsOf_26 : decode cX2_lastsOf 26 = .ok (.iconst (-1), 1) := by decide +kernel
theorem dX2_lastsOf_27 : decode cX2_lastsOf 27 = .ok (.if_icmp .eq 12, 3) := by decide +kernel
theorem dX2_lastsOf_30 : decode cX2_lastsOf 30 = .ok (.aload_n 0, 1) := by decide +kernel
theorem dX2_lastsOf_31 : decode cX2_lastsOf 31 = .ok (.getfield 30, 3) := by decide +kernel
theorem dX2_lastsOf_34 : decode cX2_lastsOf 34 = .ok (.iload_n 2, 1) := by decide +kernel
theorem dX2_lastsOf_35 : decode cX2_lastsOf 35 = .ok (.iaload, 1) := by decide +kernel
theorem dX2_lastsOf_36 : decode cX2_lastsOf 36 = .ok (.goto 4, 3) := by decide +kernel
theorem dX2_lastsOf_39 : decode cX2_lastsOf 39 = .ok (.iconst 0, 1) := by decide +kernel
theorem dX2_lastsOf_40 : decode cX2_lastsOf 40 = .ok (.istore 4, 2) := by decide +kernel
theorem dX2_lastsOf_42 : decode cX2_lastsOf 42 = .ok (.aload_n 0, 1) := by decide +kernel
theorem dX2_lastsOf_43 : decode cX2_lastsOf 43 = .ok (.getfield 12, 3) := by decide +kernel
theorem dX2_lastsOf_46 : decode cX2_lastsOf 46 = .ok (.aload_n 0, 1) := by decide +kernel
theorem dX2_lastsOf_47 : decode cX2_lastsOf 47 = .ok (.iload_n 1, 1) := by decide +kernel
theorem dX2_lastsOf_48 : decode cX2_lastsOf 48 = .ok (.invokevirtual 113, 3) := by decide +kernel
theorem dX2_lastsOf_51 : decode cX2_lastsOf 51 = .ok (.invokevirtual 132, 3) := by decide +kernel
theorem dX2_lastsOf_54 : decode cX2_lastsOf 54 = .ok (.aload_n 0, 1) := by decide +kernel
theorem dX2_lastsOf_55 : decode cX2_lastsOf 55 = .ok (.getfield 30, 3) := by decide +kernel
theorem dX2_lastsOf_58 : decode cX2_lastsOf 58 = .ok (.iload_n 3, 1) := by decide +kernel
theorem dX2_lastsOf_59 : decode cX2_lastsOf 59 = .ok (.iaload, 1) := by decide +kernel
theorem dX2_lastsOf_60 : decode cX2_lastsOf 60 = .ok (.iload 4, 2) := by decide +kernel
theorem dX2_lastsOf_62 : decode cX2_lastsOf 62 = .ok (.isub, 1) := by decide +kernel
theorem dX2_lastsOf_63 : decode cX2_lastsOf 63 = .ok (.imul, 1) := by decide +kernel
theorem dX2_lastsOf_64 : decode cX2_lastsOf 64 = .ok (.ireturn, 1) := by decide +kernel
theorem dX2_joinAbove_0 : decode cX2_joinAbove 0 = .ok (.iload_n 1, 1) := by decide +kernel
theorem dX2_joinAbove_1 : decode cX2_joinAbove 1 = .ok (.invokestatic 126, 3) := by decide +kernel
theorem dX2_joinAbove_4 : decode cX2_joinAbove 4 = .ok (.istore_n 2, 1) := by decide +kernel
theorem dX2_joinAbove_5 : decode cX2_joinAbove 5 = .ok (.iload_n 2, 1) := by decide +kernel
theorem dX2_joinAbove_6 : decode cX2_joinAbove 6 = .ok (.iconst (-1), 1) := by decide +kernel
theorem dX2_joinAbove_7 : decode cX2_joinAbove 7 = .ok (.if_icmp .eq 10, 3) := by decide +kernel
theorem dX2_joinAbove_10 : decode cX2_joinAbove 10 = .ok (.aload_n 0, 1) := by decide +kernel
theorem dX2_joinAbove_11 : decode cX2_joinAbove 11 = .ok (.getfield 48, 3) := by decide +kernel
theorem dX2_joinAbove_14 : decode cX2_joinAbove 14 = .ok (.iload_n 2, 1) := by decide +kernel
theorem dX2_joinAbove_15 : decode cX2_joinAbove 15 = .ok (.iaload, 1) := by decide +kernel
theorem dX2_joinAbove_16 : decode cX2_joinAbove 16 = .ok (.ireturn, 1) := by decide +kernel
theorem dX2_joinAbove_17 : decode cX2_joinAbove 17 = .ok (.iload_n 1, 1) := by decide +kernel
theorem dX2_joinAbove_18 : decode cX2_joinAbove 18 = .ok (.ifCond .lt 18, 3) := by decide +kernel
theorem dX2_joinAbove_21 : decode cX2_joinAbove 21 = .ok (.iload_n 1, 1) := by decide +kernel
theorem dX2_joinAbove_22 : decode cX2_joinAbove 22 = .ok (.bipush 24, 2) := by decide +kernel
theorem dX2_joinAbove_24 : decode cX2_joinAbove 24 = .ok (.if_icmp .ge 12, 3) := by decide +kernel
theorem dX2_joinAbove_27 : decode cX2_joinAbove 27 = .ok (.aload_n 0, 1) := by decide +kernel
theorem dX2_joinAbove_28 : decode cX2_joinAbove 28 = .ok (.getfield 51, 3) := by decide +kernel
theorem dX2_joinAbove_31 : decode cX2_joinAbove 31 = .ok (.iload_n 1, 1) := by decide +kernel
theorem dX2_joinAbove_32 : decode cX2_joinAbove 32 = .ok (.iaload, 1) := by decide +kernel
theorem dX2_joinAbove_33 : decode cX2_joinAbove 33 = .ok (.goto 4, 3) := by decide +kernel
theorem dX2_joinAbove_36 : decode cX2_joinAbove 36 = .ok (.iconst (-1), 1) := by decide +kernel
theorem dX2_joinAbove_37 : decode cX2_joinAbove 37 = .ok (.ireturn, 1) := by decide +kernel
theorem dX2_partOf_0 : decode cX2_partOf 0 = .ok (.iload_n 2, 1) := by decide +kernel
theorem dX2_partOf_1 : decode cX2_partOf 1 = .ok (.aload_n 0, 1) := by decide +kernel
theorem dX2_partOf_2 : decode cX2_partOf 2 = .ok (.getfield 18, 3) := by decide +kernel
theorem dX2_partOf_5 : decode cX2_partOf 5 = .ok (.invokestatic 99, 3) := by decide +kernel
theorem dX2_partOf_8 : decode cX2_partOf 8 = .ok (.iconst 1, 1) := by decide +kernel
theorem dX2_partOf_9 : decode cX2_partOf 9 = .ok (.isub, 1) := by decide +kernel
theorem dX2_partOf_10 : decode cX2_partOf 10 = .ok (.istore_n 3, 1) := by decide +kernel
theorem dX2_partOf_11 : decode cX2_partOf 11 = .ok (.iload_n 3, 1) := by decide +kernel
theorem dX2_partOf_12 : decode cX2_partOf 12 = .ok (.ifCond .lt 29, 3) := by decide +kernel
theorem dX2_partOf_15 : decode cX2_partOf 15 = .ok (.aload_n 0, 1) := by decide +kernel
theorem dX2_partOf_16 : decode cX2_partOf 16 = .ok (.getfield 39, 3) := by decide +kernel
theorem dX2_partOf_19 : decode cX2_partOf 19 = .ok (.iload_n 3, 1) := by decide +kernel
theorem dX2_partOf_20 : decode cX2_partOf 20 = .ok (.iaload, 1) := by decide +kernel
theorem dX2_partOf_21 : decode cX2_partOf 21 = .ok (.iload_n 1, 1) := by decide +kernel
theorem dX2_partOf_22 : decode cX2_partOf 22 = .ok (.invokestatic 83, 3) := by decide +kernel
theorem dX2_partOf_25 : decode cX2_partOf 25 = .ok (.ifCond .eq 10, 3) := by decide +kernel
theorem dX2_partOf_28 : decode cX2_partOf 28 = .ok (.aload_n 0, 1) := by decide +kernel
theorem dX2_partOf_29 : decode cX2_partOf 29 = .ok (.getfield 39, 3) := by decide +kernel
theorem dX2_partOf_32 : decode cX2_partOf 32 = .ok (.iload_n 3, 1) := by decide +kernel
theorem dX2_partOf_33 : decode cX2_partOf 33 = .ok (.iaload, 1) := by decide +kernel
theorem dX2_partOf_34 : decode cX2_partOf 34 = .ok (.ireturn, 1) := by decide +kernel
theorem dX2_partOf_35 : decode cX2_partOf 35 = .ok (.iinc 3 (-1), 3) := by decide +kernel
theorem dX2_partOf_38 : decode cX2_partOf 38 = .ok (.goto (-27), 3) := by decide +kernel
theorem dX2_partOf_41 : decode cX2_partOf 41 = .ok (.iconst 1, 1) := by decide +kernel
theorem dX2_partOf_42 : decode cX2_partOf 42 = .ok (.iload_n 1, 1) := by decide +kernel
theorem dX2_partOf_43 : decode cX2_partOf 43 = .ok (.ishl, 1) := by decide +kernel
theorem dX2_partOf_44 : decode cX2_partOf 44 = .ok (.ireturn, 1) := by decide +kernel
theorem dX2_joinsWithin_0 : decode cX2_joinsWithin 0 = .ok (.sipush 1024, 3) := by decide +kernel
theorem dX2_joinsWithin_3 : decode cX2_joinsWithin 3 = .ok (.iload_n 1, 1) := by decide +kernel
theorem dX2_joinsWithin_4 : decode cX2_joinsWithin 4 = .ok (.ishr, 1) := by decide +kernel
theorem dX2_joinsWithin_5 : decode cX2_joinsWithin 5 = .ok (.istore_n 2, 1) := by decide +kernel
theorem dX2_joinsWithin_6 : decode cX2_joinsWithin 6 = .ok (.iconst 0, 1) := by decide +kernel
theorem dX2_joinsWithin_7 : decode cX2_joinsWithin 7 = .ok (.istore_n 3, 1) := by decide +kernel
theorem dX2_joinsWithin_8 : decode cX2_joinsWithin 8 = .ok (.iload_n 3, 1) := by decide +kernel
theorem dX2_joinsWithin_9 : decode cX2_joinsWithin 9 = .ok (.aload_n 0, 1) := by decide +kernel
theorem dX2_joinsWithin_10 : decode cX2_joinsWithin 10 = .ok (.getfield 18, 3) := by decide +kernel
theorem dX2_joinsWithin_13 : decode cX2_joinsWithin 13 = .ok (.if_icmp .ge 21, 3) := by decide +kernel
theorem dX2_joinsWithin_16 : decode cX2_joinsWithin 16 = .ok (.aload_n 0, 1) := by decide +kernel
theorem dX2_joinsWithin_17 : decode cX2_joinsWithin 17 = .ok (.getfield 26, 3) := by decide +kernel
theorem dX2_joinsWithin_20 : decode cX2_joinsWithin 20 = .ok (.iload_n 3, 1) := by decide +kernel
theorem dX2_joinsWithin_21 : decode cX2_joinsWithin 21 = .ok (.iaload, 1) := by decide +kernel
theorem dX2_joinsWithin_22 : decode cX2_joinsWithin 22 = .ok (.iload_n 2, 1) := by decide +kernel
theorem dX2_joinsWithin_23 : decode cX2_joinsWithin 23 = .ok (.iload_n 2, 1) := by decide +kernel
theorem dX2_joinsWithin_24 : decode cX2_joinsWithin 24 = .ok (.imul, 1) := by decide +kernel
theorem dX2_joinsWithin_25 : decode cX2_joinsWithin 25 = .ok (.if_icmp .gt 9, 3) := by decide +kernel
theorem dX2_joinsWithin_28 : decode cX2_joinsWithin 28 = .ok (.iinc 3 1, 3) := by decide +kernel
theorem dX2_joinsWithin_31 : decode cX2_joinsWithin 31 = .ok (.goto (-23), 3) := by decide +kernel
theorem dX2_joinsWithin_34 : decode cX2_joinsWithin 34 = .ok (.iload_n 3, 1) := by decide +kernel
theorem dX2_joinsWithin_35 : decode cX2_joinsWithin 35 = .ok (.ireturn, 1) := by decide +kernel
theorem dX2_makerOf_0 : decode cX2_makerOf 0 = .ok (.iconst 0, 1) := by decide +kernel
theorem dX2_makerOf_1 : decode cX2_makerOf 1 = .ok (.istore_n 2, 1) := by decide +kernel
theorem dX2_makerOf_2 : decode cX2_makerOf 2 = .ok (.iload_n 2, 1) := by decide +kernel
theorem dX2_makerOf_3 : decode cX2_makerOf 3 = .ok (.aload_n 0, 1) := by decide +kernel
theorem dX2_makerOf_4 : decode cX2_makerOf 4 = .ok (.getfield 18, 3) := by decide +kernel
theorem dX2_makerOf_7 : decode cX2_makerOf 7 = .ok (.if_icmp .ge 21, 3) := by decide +kernel
theorem dX2_makerOf_10 : decode cX2_makerOf 10 = .ok (.aload_n 0, 1) := by decide +kernel
theorem dX2_makerOf_11 : decode cX2_makerOf 11 = .ok (.getfield 39, 3) := by decide +kernel
theorem dX2_makerOf_14 : decode cX2_makerOf 14 = .ok (.iload_n 2, 1) := by decide +kernel
theorem dX2_makerOf_15 : decode cX2_makerOf 15 = .ok (.iaload, 1) := by decide +kernel
theorem dX2_makerOf_16 : decode cX2_makerOf 16 = .ok (.iload_n 1, 1) := by decide +kernel
theorem dX2_makerOf_17 : decode cX2_makerOf 17 = .ok (.if_icmp .ne 5, 3) := by decide +kernel
theorem dX2_makerOf_20 : decode cX2_makerOf 20 = .ok (.iload_n 2, 1) := by decide +kernel
theorem dX2_makerOf_21 : decode cX2_makerOf 21 = .ok (.ireturn, 1) := by decide +kernel
theorem dX2_makerOf_22 : decode cX2_makerOf 22 = .ok (.iinc 2 1, 3) := by decide +kernel
theorem dX2_makerOf_25 : decode cX2_makerOf 25 = .ok (.goto (-23), 3) := by decide +kernel
theorem dX2_makerOf_28 : decode cX2_makerOf 28 = .ok (.iconst (-1), 1) := by decide +kernel
theorem dX2_makerOf_29 : decode cX2_makerOf 29 = .ok (.ireturn, 1) := by decide +kernel
theorem dX2_linksOf_0 : decode cX2_linksOf 0 = .ok (.iconst 0, 1) := by decide +kernel
theorem dX2_linksOf_1 : decode cX2_linksOf 1 = .ok (.istore_n 2, 1) := by decide +kernel
theorem dX2_linksOf_2 : decode cX2_linksOf 2 = .ok (.iconst 0, 1) := by decide +kernel
theorem dX2_linksOf_3 : decode cX2_linksOf 3 = .ok (.istore_n 3, 1) := by decide +kernel
theorem dX2_linksOf_4 : decode cX2_linksOf 4 = .ok (.iload_n 3, 1) := by decide +kernel
theorem dX2_linksOf_5 : decode cX2_linksOf 5 = .ok (.aload_n 0, 1) := by decide +kernel
theorem dX2_linksOf_6 : decode cX2_linksOf 6 = .ok (.getfield 18, 3) := by decide +kernel
theorem dX2_linksOf_9 : decode cX2_linksOf 9 = .ok (.if_icmp .ge 32, 3) := by decide +kernel
theorem dX2_linksOf_12 : decode cX2_linksOf 12 = .ok (.aload_n 0, 1) := by decide +kernel
theorem dX2_linksOf_13 : decode cX2_linksOf 13 = .ok (.getfield 33, 3) := by decide +kernel
theorem dX2_linksOf_16 : decode cX2_linksOf 16 = .ok (.iload_n 3, 1) := by decide +kernel
theorem dX2_linksOf_17 : decode cX2_linksOf 17 = .ok (.iaload, 1) := by decide +kernel
theorem dX2_linksOf_18 : decode cX2_linksOf 18 = .ok (.iload_n 1, 1) := by decide +kernel
theorem dX2_linksOf_19 : decode cX2_linksOf 19 = .ok (.if_icmp .eq 13, 3) := by decide +kernel
theorem dX2_linksOf_22 : decode cX2_linksOf 22 = .ok (.aload_n 0, 1) := by decide +kernel
theorem dX2_linksOf_23 : decode cX2_linksOf 23 = .ok (.getfield 36, 3) := by decide +kernel
theorem dX2_linksOf_26 : decode cX2_linksOf 26 = .ok (.iload_n 3, 1) := by decide +kernel
theorem dX2_linksOf_27 : decode cX2_linksOf 27 = .ok (.iaload, 1) := by decide +kernel
theorem dX2_linksOf_28 : decode cX2_linksOf 28 = .ok (.iload_n 1, 1) := by decide +kernel
theorem dX2_linksOf_29 : decode cX2_linksOf 29 = .ok (.if_icmp .ne 6, 3) := by decide +kernel
theorem dX2_linksOf_32 : decode cX2_linksOf 32 = .ok (.iinc 2 1, 3) := by decide +kernel
theorem dX2_linksOf_35 : decode cX2_linksOf 35 = .ok (.iinc 3 1, 3) := by decide +kernel
theorem dX2_linksOf_38 : decode cX2_linksOf 38 = .ok (.goto (-34), 3) := by decide +kernel
theorem dX2_linksOf_41 : decode cX2_linksOf 41 = .ok (.iload_n 2, 1) := by decide +kernel
theorem dX2_linksOf_42 : decode cX2_linksOf 42 = .ok (.ireturn, 1) := by decide +kernel
theorem dX2_mostLinks_0 : decode cX2_mostLinks 0 = .ok (.iconst 0, 1) := by decide +kernel
theorem dX2_mostLinks_1 : decode cX2_mostLinks 1 = .ok (.istore_n 1, 1) := by decide +kernel
theorem dX2_mostLinks_2 : decode cX2_mostLinks 2 = .ok (.iconst 0, 1) := by decide +kernel
theorem dX2_mostLinks_3 : decode cX2_mostLinks 3 = .ok (.istore_n 2, 1) := by decide +kernel
theorem dX2_mostLinks_4 : decode cX2_mostLinks 4 = .ok (.iload_n 2, 1) := by decide +kernel
theorem dX2_mostLinks_5 : decode cX2_mostLinks 5 = .ok (.aload_n 0, 1) := by decide +kernel
theorem dX2_mostLinks_6 : decode cX2_mostLinks 6 = .ok (.getfield 12, 3) := by decide +kernel
theorem dX2_mostLinks_9 : decode cX2_mostLinks 9 = .ok (.getfield 66, 3) := by decide +kernel
theorem dX2_mostLinks_12 : decode cX2_mostLinks 12 = .ok (.if_icmp .ge 19, 3) := by decide +kernel
theorem dX2_mostLinks_15 : decode cX2_mostLinks 15 = .ok (.iload_n 1, 1) := by decide +kernel
theorem dX2_mostLinks_16 : decode cX2_mostLinks 16 = .ok (.aload_n 0, 1) := by decide +kernel
theorem dX2_mostLinks_17 : decode cX2_mostLinks 17 = .ok (.iload_n 2, 1) := by decide +kernel
theorem dX2_mostLinks_18 : decode cX2_mostLinks 18 = .ok (.invokevirtual 135, 3) := by decide +kernel
theorem dX2_mostLinks_21 : decode cX2_mostLinks 21 = .ok (.invokestatic 101, 3) := by decide +kernel
theorem dX2_mostLinks_24 : decode cX2_mostLinks 24 = .ok (.istore_n 1, 1) := by decide +kernel
theorem dX2_mostLinks_25 : decode cX2_mostLinks 25 = .ok (.iinc 2 1, 3) := by decide +kernel
theorem dX2_mostLinks_28 : decode cX2_mostLinks 28 = .ok (.goto (-24), 3) := by decide +kernel
theorem dX2_mostLinks_31 : decode cX2_mostLinks 31 = .ok (.iload_n 1, 1) := by decide +kernel
theorem dX2_mostLinks_32 : decode cX2_mostLinks 32 = .ok (.ireturn, 1) := by decide +kernel
theorem dX2_sumAparts_0 : decode cX2_sumAparts 0 = .ok (.iconst 0, 1) := by decide +kernel
theorem dX2_sumAparts_1 : decode cX2_sumAparts 1 = .ok (.istore_n 1, 1) := by decide +kernel
theorem dX2_sumAparts_2 : decode cX2_sumAparts 2 = .ok (.iconst 0, 1) := by decide +kernel
theorem dX2_sumAparts_3 : decode cX2_sumAparts 3 = .ok (.istore_n 2, 1) := by decide +kernel
theorem dX2_sumAparts_4 : decode cX2_sumAparts 4 = .ok (.iload_n 2, 1) := by decide +kernel
theorem dX2_sumAparts_5 : decode cX2_sumAparts 5 = .ok (.aload_n 0, 1) := by decide +kernel
theorem dX2_sumAparts_6 : decode cX2_sumAparts 6 = .ok (.getfield 18, 3) := by decide +kernel
theorem dX2_sumAparts_9 : decode cX2_sumAparts 9 = .ok (.if_icmp .ge 18, 3) := by decide +kernel
theorem dX2_sumAparts_12 : decode cX2_sumAparts 12 = .ok (.iload_n 1, 1) := by decide +kernel
theorem dX2_sumAparts_13 : decode cX2_sumAparts 13 = .ok (.aload_n 0, 1) := by decide +kernel
theorem dX2_sumAparts_14 : decode cX2_sumAparts 14 = .ok (.getfield 26, 3) := by decide +kernel
theorem dX2_sumAparts_17 : decode cX2_sumAparts 17 = .ok (.iload_n 2, 1) := by decide +kernel
theorem dX2_sumAparts_18 : decode cX2_sumAparts 18 = .ok (.iaload, 1) := by decide +kernel
theorem dX2_sumAparts_19 : decode cX2_sumAparts 19 = .ok (.iadd, 1) := by decide +kernel
theorem dX2_sumAparts_20 : decode cX2_sumAparts 20 = .ok (.istore_n 1, 1) := by decide +kernel
theorem dX2_sumAparts_21 : decode cX2_sumAparts 21 = .ok (.iinc 2 1, 3) := by decide +kernel
theorem dX2_sumAparts_24 : decode cX2_sumAparts 24 = .ok (.goto (-20), 3) := by decide +kernel
theorem dX2_sumAparts_27 : decode cX2_sumAparts 27 = .ok (.iload_n 1, 1) := by decide +kernel
theorem dX2_sumAparts_28 : decode cX2_sumAparts 28 = .ok (.ireturn, 1) := by decide +kernel
theorem dX2_sumRoots_0 : decode cX2_sumRoots 0 = .ok (.iconst 0, 1) := by decide +kernel
theorem dX2_sumRoots_1 : decode cX2_sumRoots 1 = .ok (.istore_n 1, 1) := by decide +kernel
theorem dX2_sumRoots_2 : decode cX2_sumRoots 2 = .ok (.iconst 0, 1) := by decide +kernel
theorem dX2_sumRoots_3 : decode cX2_sumRoots 3 = .ok (.istore_n 2, 1) := by decide +kernel
theorem dX2_sumRoots_4 : decode cX2_sumRoots 4 = .ok (.iload_n 2, 1) := by decide +kernel
theorem dX2_sumRoots_5 : decode cX2_sumRoots 5 = .ok (.aload_n 0, 1) := by decide +kernel
theorem dX2_sumRoots_6 : decode cX2_sumRoots 6 = .ok (.getfield 18, 3) := by decide +kernel
theorem dX2_sumRoots_9 : decode cX2_sumRoots 9 = .ok (.if_icmp .ge 18, 3) := by decide +kernel
theorem dX2_sumRoots_12 : decode cX2_sumRoots 12 = .ok (.iload_n 1, 1) := by decide +kernel
theorem dX2_sumRoots_13 : decode cX2_sumRoots 13 = .ok (.aload_n 0, 1) := by decide +kernel
theorem dX2_sumRoots_14 : decode cX2_sumRoots 14 = .ok (.getfield 30, 3) := by decide +kernel
theorem dX2_sumRoots_17 : decode cX2_sumRoots 17 = .ok (.iload_n 2, 1) := by decide +kernel
theorem dX2_sumRoots_18 : decode cX2_sumRoots 18 = .ok (.iaload, 1) := by decide +kernel
theorem dX2_sumRoots_19 : decode cX2_sumRoots 19 = .ok (.iadd, 1) := by decide +kernel
theorem dX2_sumRoots_20 : decode cX2_sumRoots 20 = .ok (.istore_n 1, 1) := by decide +kernel
theorem dX2_sumRoots_21 : decode cX2_sumRoots 21 = .ok (.iinc 2 1, 3) := by decide +kernel
theorem dX2_sumRoots_24 : decode cX2_sumRoots 24 = .ok (.goto (-20), 3) := by decide +kernel
theorem dX2_sumRoots_27 : decode cX2_sumRoots 27 = .ok (.iload_n 1, 1) := by decide +kernel
theorem dX2_sumRoots_28 : decode cX2_sumRoots 28 = .ok (.ireturn, 1) := by decide +kernel
theorem dX2_hasPair_0 : decode cX2_hasPair 0 = .ok (.iconst 0, 1) := by decide +kernel
theorem dX2_hasPair_1 : decode cX2_hasPair 1 = .ok (.istore_n 3, 1) := by decide +kernel
theorem dX2_hasPair_2 : decode cX2_hasPair 2 = .ok (.iload_n 3, 1) := by decide +kernel
theorem dX2_hasPair_3 : decode cX2_hasPair 3 = .ok (.aload_n 0, 1) := by decide +kernel
theorem dX2_hasPair_4 : decode cX2_hasPair 4 = .ok (.getfield 18, 3) := by decide +kernel
theorem dX2_hasPair_7 : decode cX2_hasPair 7 = .ok (.if_icmp .ge 22, 3) := by decide +kernel
theorem dX2_hasPair_10 : decode cX2_hasPair 10 = .ok (.aload_n 0, 1) := by decide +kernel
theorem dX2_hasPair_11 : decode cX2_hasPair 11 = .ok (.getfield 54, 3) := by decide +kernel
theorem dX2_hasPair_14 : decode cX2_hasPair 14 = .ok (.iload_n 3, 1) := by decide +kernel
theorem dX2_hasPair_15 : decode cX2_hasPair 15 = .ok (.laload, 1) := by decide +kernel
theorem dX2_hasPair_16 : decode cX2_hasPair 16 = .ok (.lload_n 1, 1) := by decide +kernel
theorem dX2_hasPair_17 : decode cX2_hasPair 17 = .ok (.lcmp, 1) := by decide +kernel
theorem dX2_hasPair_18 : decode cX2_hasPair 18 = .ok (.ifCond .ne 5, 3) := by decide +kernel
theorem dX2_hasPair_21 : decode cX2_hasPair 21 = .ok (.iconst 1, 1) := by decide +kernel
theorem dX2_hasPair_22 : decode cX2_hasPair 22 = .ok (.ireturn, 1) := by decide +kernel
theorem dX2_hasPair_23 : decode cX2_hasPair 23 = .ok (.iinc 3 1, 3) := by decide +kernel
theorem dX2_hasPair_26 : decode cX2_hasPair 26 = .ok (.goto (-24), 3) := by decide +kernel
theorem dX2_hasPair_29 : decode cX2_hasPair 29 = .ok (.iconst 0, 1) := by decide +kernel
theorem dX2_hasPair_30 : decode cX2_hasPair 30 = .ok (.ireturn, 1) := by decide +kernel
theorem dX2_countUnlike_0 : decode cX2_countUnlike 0 = .ok (.iconst 0, 1) := by decide +kernel
theorem dX2_countUnlike_1 : decode cX2_countUnlike 1 = .ok (.istore_n 2, 1) := by decide +kernel
theorem dX2_countUnlike_2 : decode cX2_countUnlike 2 = .ok (.iconst 0, 1) := by decide +kernel
theorem dX2_countUnlike_3 : decode cX2_countUnlike 3 = .ok (.istore_n 3, 1) := by decide +kernel
theorem dX2_countUnlike_4 : decode cX2_countUnlike 4 = .ok (.iload_n 3, 1) := by decide +kernel
theorem dX2_countUnlike_5 : decode cX2_countUnlike 5 = .ok (.aload_n 0, 1) := by decide +kernel
theorem dX2_countUnlike_6 : decode cX2_countUnlike 6 = .ok (.getfield 18, 3) := by decide +kernel
theorem dX2_countUnlike_9 : decode cX2_countUnlike 9 = .ok (.if_icmp .ge 25, 3) := by decide +kernel
theorem dX2_countUnlike_12 : decode cX2_countUnlike 12 = .ok (.aload_n 1, 1) := by decide +kernel
theorem dX2_countUnlike_13 : decode cX2_countUnlike 13 = .ok (.aload_n 0, 1) := by decide +kernel
theorem dX2_countUnlike_14 : decode cX2_countUnlike 14 = .ok (.getfield 54, 3) := by decide +kernel
theorem dX2_countUnlike_17 : decode cX2_countUnlike 17 = .ok (.iload_n 3, 1) := by decide +kernel
theorem dX2_countUnlike_18 : decode cX2_countUnlike 18 = .ok (.laload, 1) := by decide +kernel
theorem dX2_countUnlike_19 : decode cX2_countUnlike 19 = .ok (.invokevirtual 138, 3) := by decide +kernel
theorem dX2_countUnlike_22 : decode cX2_countUnlike 22 = .ok (.ifCond .ne 6, 3) := by decide +kernel
theorem dX2_countUnlike_25 : decode cX2_countUnlike 25 = .ok (.iinc 2 1, 3) := by decide +kernel
theorem dX2_countUnlike_28 : decode cX2_countUnlike 28 = .ok (.iinc 3 1, 3) := by decide +kernel
theorem dX2_countUnlike_31 : decode cX2_countUnlike 31 = .ok (.goto (-27), 3) := by decide +kernel
theorem dX2_countUnlike_34 : decode cX2_countUnlike 34 = .ok (.iload_n 2, 1) := by decide +kernel
theorem dX2_countUnlike_35 : decode cX2_countUnlike 35 = .ok (.ireturn, 1) := by decide +kernel
theorem dX3_init_0 : decode cX3_init 0 = .ok (.aload_n 0, 1) := by decide +kernel
theorem dX3_init_1 : decode cX3_init 1 = .ok (.invokespecial 3, 3) := by decide +kernel
theorem dX3_init_4 : decode cX3_init 4 = .ok (.aload_n 0, 1) := by decide +kernel
theorem dX3_init_5 : decode cX3_init 5 = .ok (.iconst 0, 1) := by decide +kernel
theorem dX3_init_6 : decode cX3_init 6 = .ok (.putfield 9, 3) := by decide +kernel
theorem dX3_init_9 : decode cX3_init 9 = .ok (.aload_n 0, 1) := by decide +kernel
theorem dX3_init_10 : decode cX3_init 10 = .ok (.bipush 49, 2) := by decide +kernel
theorem dX3_init_12 : decode cX3_init 12 = .ok (.newarray .int, 2) := by decide +kernel
theorem dX3_init_14 : decode cX3_init 14 = .ok (.putfield 15, 3) := by decide +kernel
theorem dX3_init_17 : decode cX3_init 17 = .ok (.return_, 1) := by decide +kernel
theorem dX4_init_0 : decode cX4_init 0 = .ok (.aload_n 0, 1) := by decide +kernel
theorem dX4_init_1 : decode cX4_init 1 = .ok (.invokespecial 3, 3) := by decide +kernel
theorem dX4_init_4 : decode cX4_init 4 = .ok (.aload_n 0, 1) := by decide +kernel
theorem dX4_init_5 : decode cX4_init 5 = .ok (.iconst 0, 1) := by decide +kernel
theorem dX4_init_6 : decode cX4_init 6 = .ok (.putfield 9, 3) := by decide +kernel
theorem dX4_init_9 : decode cX4_init 9 = .ok (.aload_n 0, 1) := by decide +kernel
theorem dX4_init_10 : decode cX4_init 10 = .ok (.bipush 24, 2) := by decide +kernel
theorem dX4_init_12 : decode cX4_init 12 = .ok (.newarray .int, 2) := by decide +kernel
theorem dX4_init_14 : decode cX4_init 14 = .ok (.putfield 15, 3) := by decide +kernel
theorem dX4_init_17 : decode cX4_init 17 = .ok (.aload_n 0, 1) := by decide +kernel
theorem dX4_init_18 : decode cX4_init 18 = .ok (.bipush 24, 2) := by decide +kernel
theorem dX4_init_20 : decode cX4_init 20 = .ok (.newarray .int, 2) := by decide +kernel
theorem dX4_init_22 : decode cX4_init 22 = .ok (.putfield 19, 3) := by decide +kernel
theorem dX4_init_25 : decode cX4_init 25 = .ok (.aload_n 0, 1) := by decide +kernel
theorem dX4_init_26 : decode cX4_init 26 = .ok (.bipush 24, 2) := by decide +kernel
theorem dX4_init_28 : decode cX4_init 28 = .ok (.newarray .int, 2) := by decide +kernel
theorem dX4_init_30 : decode cX4_init 30 = .ok (.putfield 22, 3) := by decide +kernel
theorem dX4_init_33 : decode cX4_init 33 = .ok (.return_, 1) := by decide +kernel
theorem dX4_canCome_0 : decode cX4_canCome 0 = .ok (.iload_n 1, 1) := by decide +kernel
theorem dX4_canCome_1 : decode cX4_canCome 1 = .ok (.ifCond .lt 44, 3) := by decide +kernel
theorem dX4_canCome_4 : decode cX4_canCome 4 = .ok (.iload_n 1, 1) := by decide +kernel
theorem dX4_canCome_5 : decode cX4_canCome 5 = .ok (.sipush 1024, 3) := by decide +kernel
theorem dX4_canCome_8 : decode cX4_canCome 8 = .ok (.if_icmp .ge 37, 3) := by decide +kernel
theorem dX4_canCome_11 : decode cX4_canCome 11 = .ok (.iload_n 2, 1) := by decide +kernel
theorem dX4_canCome_12 : decode cX4_canCome 12 = .ok (.ifCond .lt 33, 3) := by decide +kernel
theorem dX4_canCome_15 : decode cX4_canCome 15 = .ok (.iload_n 2, 1) := by decide +kernel
theorem dX4_canCome_16 : decode cX4_canCome 16 = .ok (.sipush 1024, 3) := by decide +kernel
theorem dX4_canCome_19 : decode cX4_canCome 19 = .ok (.if_icmp .ge 26, 3) := by decide +kernel
theorem dX4_canCome_22 : decode cX4_canCome 22 = .ok (.aload_n 0, 1) := by decide +kernel
theorem dX4_canCome_23 : decode cX4_canCome 23 = .ok (.getfield 9, 3) := by decide +kernel
theorem dX4_canCome_26 : decode cX4_canCome 26 = .ok (.bipush 24, 2) := by decide +kernel
theorem dX4_canCome_28 : decode cX4_canCome 28 = .ok (.if_icmp .ge 17, 3) := by decide +kernel
theorem dX4_canCome_31 : decode cX4_canCome 31 = .ok (.aload_n 0, 1) := by decide +kernel
theorem dX4_canCome_32 : decode cX4_canCome 32 = .ok (.iload_n 1, 1) := by decide +kernel
theorem dX4_canCome_33 : decode cX4_canCome 33 = .ok (.iload_n 2, 1) := by decide +kernel
theorem dX4_canCome_34 : decode cX4_canCome 34 = .ok (.invokevirtual 25, 3) := by decide +kernel
theorem dX4_canCome_37 : decode cX4_canCome 37 = .ok (.iconst (-1), 1) := by decide +kernel
theorem dX4_canCome_38 : decode cX4_canCome 38 = .ok (.if_icmp .ne 7, 3) := by decide +kernel
theorem dX4_canCome_41 : decode cX4_canCome 41 = .ok (.iconst 1, 1) := by decide +kernel
theorem dX4_canCome_42 : decode cX4_canCome 42 = .ok (.goto 4, 3) := by decide +kernel
theorem dX4_canCome_45 : decode cX4_canCome 45 = .ok (.iconst 0, 1) := by decide +kernel
theorem dX4_canCome_46 : decode cX4_canCome 46 = .ok (.ireturn, 1) := by decide +kernel
theorem dX4_find_0 : decode cX4_find 0 = .ok (.iconst 0, 1) := by decide +kernel
theorem dX4_find_1 : decode cX4_find 1 = .ok (.istore_n 3, 1) := by decide +kernel
theorem dX4_find_2 : decode cX4_find 2 = .ok (.iload_n 3, 1) := by decide +kernel
theorem dX4_find_3 : decode cX4_find 3 = .ok (.aload_n 0, 1) := by decide +kernel
theorem dX4_find_4 : decode cX4_find 4 = .ok (.getfield 9, 3) := by decide +kernel
theorem dX4_find_7 : decode cX4_find 7 = .ok (.if_icmp .ge 31, 3) := by decide +kernel
theorem dX4_find_10 : decode cX4_find 10 = .ok (.aload_n 0, 1) := by decide +kernel
theorem dX4_find_11 : decode cX4_find 11 = .ok (.getfield 15, 3) := by decide +kernel
theorem dX4_find_14 : decode cX4_find 14 = .ok (.iload_n 3, 1) := by decide +kernel
theorem dX4_find_15 : decode cX4_find 15 = .ok (.iaload, 1) := by decide +kernel
theorem dX4_find_16 : decode cX4_find 16 = .ok (.iload_n 1, 1) := by decide +kernel
theorem dX4_find_17 : decode cX4_find 17 = .ok (.if_icmp .ne 15, 3) := by decide +kernel
theorem dX4_find_20 : decode cX4_find 20 = .ok (.aload_n 0, 1) := by decide +kernel
theorem dX4_find_21 : decode cX4_find 21 = .ok (.getfield 19, 3) := by decide +kernel
theorem dX4_find_24 : decode cX4_find 24 = .ok (.iload_n 3, 1) := by decide +kernel
theorem dX4_find_25 : decode cX4_find 25 = .ok (.iaload, 1) := by decide +kernel
theorem dX4_find_26 : decode cX4_find 26 = .ok (.iload_n 2, 1) := by decide +kernel
theorem dX4_find_27 : decode cX4_find 27 = .ok (.if_icmp .ne 5, 3) := by decide +kernel
theorem dX4_find_30 : decode cX4_find 30 = .ok (.iload_n 3, 1) := by decide +kernel
theorem dX4_find_31 : decode cX4_find 31 = .ok (.ireturn, 1) := by decide +kernel
theorem dX4_find_32 : decode cX4_find 32 = .ok (.iinc 3 1, 3) := by decide +kernel
theorem dX4_find_35 : decode cX4_find 35 = .ok (.goto (-33), 3) := by decide +kernel
theorem dX4_find_38 : decode cX4_find 38 = .ok (.iconst (-1), 1) := by decide +kernel
theorem dX4_find_39 : decode cX4_find 39 = .ok (.ireturn, 1) := by decide +kernel
theorem dX4_put_0 : decode cX4_put 0 = .ok (.aload_n 0, 1) := by decide +kernel
theorem dX4_put_1 : decode cX4_put 1 = .ok (.getfield 9, 3) := by decide +kernel
theorem dX4_put_4 : decode cX4_put 4 = .ok (.bipush 24, 2) := by decide +kernel
theorem dX4_put_6 : decode cX4_put 6 = .ok (.if_icmp .lt 4, 3) := by decide +kernel
theorem dX4_put_9 : decode cX4_put 9 = .ok (.return_, 1) := by decide +kernel
theorem dX4_put_10 : decode cX4_put 10 = .ok (.aload_n 0, 1) := by decide +kernel
theorem dX4_put_11 : decode cX4_put 11 = .ok (.getfield 9, 3) := by decide +kernel
theorem dX4_put_14 : decode cX4_put 14 = .ok (.istore 4, 2) := by decide +kernel
theorem dX4_put_16 : decode cX4_put 16 = .ok (.iload 4, 2) := by decide +kernel
theorem dX4_put_18 : decode cX4_put 18 = .ok (.ifCond .le 58, 3) := by decide +kernel
theorem dX4_put_21 : decode cX4_put 21 = .ok (.aload_n 0, 1) := by decide +kernel
theorem dX4_put_22 : decode cX4_put 22 = .ok (.getfield 15, 3) := by decide +kernel
theorem dX4_put_25 : decode cX4_put 25 = .ok (.iload 4, 2) := by decide +kernel
theorem dX4_put_27 : decode cX4_put 27 = .ok (.iconst 1, 1) := by decide +kernel
theorem dX4_put_28 : decode cX4_put 28 = .ok (.isub, 1) := by decide +kernel
theorem dX4_put_29 : decode cX4_put 29 = .ok (.iaload, 1) := by decide +kernel
theorem dX4_put_30 : decode cX4_put 30 = .ok (.iload_n 1, 1) := by decide +kernel
theorem dX4_put_31 : decode cX4_put 31 = .ok (.if_icmp .gt 29, 3) := by decide +kernel
theorem dX4_put_34 : decode cX4_put 34 = .ok (.aload_n 0, 1) := by decide +kernel
theorem dX4_put_35 : decode cX4_put 35 = .ok (.getfield 15, 3) := by decide +kernel
theorem dX4_put_38 : decode cX4_put 38 = .ok (.iload 4, 2) := by decide +kernel
theorem dX4_put_40 : decode cX4_put 40 = .ok (.iconst 1, 1) := by decide +kernel
theorem dX4_put_41 : decode cX4_put 41 = .ok (.isub, 1) := by decide +kernel
theorem dX4_put_42 : decode cX4_put 42 = .ok (.iaload, 1) := by decide +kernel
theorem dX4_put_43 : decode cX4_put 43 = .ok (.iload_n 1, 1) := by decide +kernel
theorem dX4_put_44 : decode cX4_put 44 = .ok (.if_icmp .ne 32, 3) := by decide +kernel
theorem dX4_put_47 : decode cX4_put 47 = .ok (.aload_n 0, 1) := by decide +kernel
theorem dX4_put_48 : decode cX4_put 48 = .ok (.getfield 19, 3) := by decide +kernel
theorem dX4_put_51 : decode cX4_put 51 = .ok (.iload 4, 2) := by decide +kernel
theorem dX4_put_53 : decode cX4_put 53 = .ok (.iconst 1, 1) := by decide +kernel
theorem dX4_put_54 : decode cX4_put 54 = .ok (.isub, 1) := by decide +kernel
theorem dX4_put_55 : decode cX4_put 55 = .ok (.iaload, 1) := by decide +kernel
theorem dX4_put_56 : decode cX4_put 56 = .ok (.iload_n 2, 1) := by decide +kernel
theorem dX4_put_57 : decode cX4_put 57 = .ok (.if_icmp .le 19, 3) := by decide +kernel
theorem dX4_put_60 : decode cX4_put 60 = .ok (.aload_n 0, 1) := by decide +kernel
theorem dX4_put_61 : decode cX4_put 61 = .ok (.iload 4, 2) := by decide +kernel
theorem dX4_put_63 : decode cX4_put 63 = .ok (.iconst 1, 1) := by decide +kernel
theorem dX4_put_64 : decode cX4_put 64 = .ok (.isub, 1) := by decide +kernel
theorem dX4_put_65 : decode cX4_put 65 = .ok (.iload 4, 2) := by decide +kernel
theorem dX4_put_67 : decode cX4_put 67 = .ok (.invokevirtual 29, 3) := by decide +kernel
theorem dX4_put_70 : decode cX4_put 70 = .ok (.iinc 4 (-1), 3) := by decide +kernel
theorem dX4_put_73 : decode cX4_put 73 = .ok (.goto (-57), 3) := by decide +kernel
theorem dX4_put_76 : decode cX4_put 76 = .ok (.aload_n 0, 1) := by decide +kernel
theorem dX4_put_77 : decode cX4_put 77 = .ok (.getfield 15, 3) := by decide +kernel
theorem dX4_put_80 : decode cX4_put 80 = .ok (.iload 4, 2) := by decide +kernel
theorem dX4_put_82 : decode cX4_put 82 = .ok (.iload_n 1, 1) := by decide +kernel
theorem dX4_put_83 : decode cX4_put 83 = .ok (.iastore, 1) := by decide +kernel
theorem dX4_put_84 : decode cX4_put 84 = .ok (.aload_n 0, 1) := by decide +kernel
theorem dX4_put_85 : decode cX4_put 85 = .ok (.getfield 19, 3) := by decide +kernel
theorem dX4_put_88 : decode cX4_put 88 = .ok (.iload 4, 2) := by decide +kernel
theorem dX4_put_90 : decode cX4_put 90 = .ok (.iload_n 2, 1) := by decide +kernel
theorem dX4_put_91 : decode cX4_put 91 = .ok (.iastore, 1) := by decide +kernel
theorem dX4_put_92 : decode cX4_put 92 = .ok (.aload_n 0, 1) := by decide +kernel
theorem dX4_put_93 : decode cX4_put 93 = .ok (.getfield 22, 3) := by decide +kernel
theorem dX4_put_96 : decode cX4_put 96 = .ok (.iload 4, 2) := by decide +kernel
theorem dX4_put_98 : decode cX4_put 98 = .ok (.iload_n 3, 1) := by decide +kernel
theorem dX4_put_99 : decode cX4_put 99 = .ok (.iastore, 1) := by decide +kernel
theorem dX4_put_100 : decode cX4_put 100 = .ok (.aload_n 0, 1) := by decide +kernel
theorem dX4_put_101 : decode cX4_put 101 = .ok (.dup, 1) := by decide +kernel
theorem dX4_put_102 : decode cX4_put 102 = .ok (.getfield 9, 3) := by decide +kernel
theorem dX4_put_105 : decode cX4_put 105 = .ok (.iconst 1, 1) := by decide +kernel
theorem dX4_put_106 : decode cX4_put 106 = .ok (.iadd, 1) := by decide +kernel
theorem dX4_put_107 : decode cX4_put 107 = .ok (.putfield 9, 3) := by decide +kernel
theorem dX4_put_110 : decode cX4_put 110 = .ok (.return_, 1) := by decide +kernel
theorem dX4_drop_0 : decode cX4_drop 0 = .ok (.iload_n 1, 1) := by decide +kernel
theorem dX4_drop_1 : decode cX4_drop 1 = .ok (.ifCond .lt 11, 3) := by decide +kernel
theorem dX4_drop_4 : decode cX4_drop 4 = .ok (.iload_n 1, 1) := by decide +kernel
theorem dX4_drop_5 : decode cX4_drop 5 = .ok (.aload_n 0, 1) := by decide +kernel
theorem dX4_drop_6 : decode cX4_drop 6 = .ok (.getfield 9, 3) := by decide +kernel
theorem dX4_drop_9 : decode cX4_drop 9 = .ok (.if_icmp .lt 4, 3) := by decide +kernel
theorem dX4_drop_12 : decode cX4_drop 12 = .ok (.return_, 1) := by decide +kernel
theorem dX4_drop_13 : decode cX4_drop 13 = .ok (.iload_n 1, 1) := by decide +kernel
theorem dX4_drop_14 : decode cX4_drop 14 = .ok (.iconst 1, 1) := by decide +kernel
theorem dX4_drop_15 : decode cX4_drop 15 = .ok (.iadd, 1) := by decide +kernel
theorem dX4_drop_16 : decode cX4_drop 16 = .ok (.istore_n 2, 1) := by decide +kernel
theorem dX4_drop_17 : decode cX4_drop 17 = .ok (.iload_n 2, 1) := by decide +kernel
theorem dX4_drop_18 : decode cX4_drop 18 = .ok (.aload_n 0, 1) := by decide +kernel
theorem dX4_drop_19 : decode cX4_drop 19 = .ok (.getfield 9, 3) := by decide +kernel
theorem dX4_drop_22 : decode cX4_drop 22 = .ok (.if_icmp .ge 17, 3) := by decide +kernel
theorem dX4_drop_25 : decode cX4_drop 25 = .ok (.aload_n 0, 1) := by decide +kernel
theorem dX4_drop_26 : decode cX4_drop 26 = .ok (.iload_n 2, 1) := by decide +kernel
theorem dX4_drop_27 : decode cX4_drop 27 = .ok (.iload_n 2, 1) := by decide +kernel
theorem dX4_drop_28 : decode cX4_drop 28 = .ok (.iconst 1, 1) := by decide +kernel
theorem dX4_drop_29 : decode cX4_drop 29 = .ok (.isub, 1) := by decide +kernel
theorem dX4_drop_30 : decode cX4_drop 30 = .ok (.invokevirtual 29, 3) := by decide +kernel
theorem dX4_drop_33 : decode cX4_drop 33 = .ok (.iinc 2 1, 3) := by decide +kernel
theorem dX4_drop_36 : decode cX4_drop 36 = .ok (.goto (-19), 3) := by decide +kernel
theorem dX4_drop_39 : decode cX4_drop 39 = .ok (.aload_n 0, 1) := by decide +kernel
theorem dX4_drop_40 : decode cX4_drop 40 = .ok (.dup, 1) := by decide +kernel
theorem dX4_drop_41 : decode cX4_drop 41 = .ok (.getfield 9, 3) := by decide +kernel
theorem dX4_drop_44 : decode cX4_drop 44 = .ok (.iconst 1, 1) := by decide +kernel
theorem dX4_drop_45 : decode cX4_drop 45 = .ok (.isub, 1) := by decide +kernel
theorem dX4_drop_46 : decode cX4_drop 46 = .ok (.putfield 9, 3) := by decide +kernel
theorem dX4_drop_49 : decode cX4_drop 49 = .ok (.return_, 1) := by decide +kernel
theorem dX4_move_0 : decode cX4_move 0 = .ok (.aload_n 0, 1) := by decide +kernel
theorem dX4_move_1 : decode cX4_move 1 = .ok (.getfield 15, 3) := by decide +kernel
theorem dX4_move_4 : decode cX4_move 4 = .ok (.iload_n 2, 1) := by decide +kernel
theorem dX4_move_5 : decode cX4_move 5 = .ok (.aload_n 0, 1) := by decide +kernel
theorem dX4_move_6 : decode cX4_move 6 = .ok (.getfield 15, 3) := by decide +kernel
theorem dX4_move_9 : decode cX4_move 9 = .ok (.iload_n 1, 1) := by decide +kernel
theorem dX4_move_10 : decode cX4_move 10 = .ok (.iaload, 1) := by decide +kernel
theorem dX4_move_11 : decode cX4_move 11 = .ok (.iastore, 1) := by decide +kernel
theorem dX4_move_12 : decode cX4_move 12 = .ok (.aload_n 0, 1) := by decide +kernel
theorem dX4_move_13 : decode cX4_move 13 = .ok (.getfield 19, 3) := by decide +kernel
theorem dX4_move_16 : decode cX4_move 16 = .ok (.iload_n 2, 1) := by decide +kernel
theorem dX4_move_17 : decode cX4_move 17 = .ok (.aload_n 0, 1) := by decide +kernel
theorem dX4_move_18 : decode cX4_move 18 = .ok (.getfield 19, 3) := by decide +kernel
theorem dX4_move_21 : decode cX4_move 21 = .ok (.iload_n 1, 1) := by decide +kernel
theorem dX4_move_22 : decode cX4_move 22 = .ok (.iaload, 1) := by decide +kernel
theorem dX4_move_23 : decode cX4_move 23 = .ok (.iastore, 1) := by decide +kernel
theorem dX4_move_24 : decode cX4_move 24 = .ok (.aload_n 0, 1) := by decide +kernel
theorem dX4_move_25 : decode cX4_move 25 = .ok (.getfield 22, 3) := by decide +kernel
theorem dX4_move_28 : decode cX4_move 28 = .ok (.iload_n 2, 1) := by decide +kernel
theorem dX4_move_29 : decode cX4_move 29 = .ok (.aload_n 0, 1) := by decide +kernel
theorem dX4_move_30 : decode cX4_move 30 = .ok (.getfield 22, 3) := by decide +kernel
theorem dX4_move_33 : decode cX4_move 33 = .ok (.iload_n 1, 1) := by decide +kernel
theorem dX4_move_34 : decode cX4_move 34 = .ok (.iaload, 1) := by decide +kernel
theorem dX4_move_35 : decode cX4_move 35 = .ok (.iastore, 1) := by decide +kernel
theorem dX4_move_36 : decode cX4_move 36 = .ok (.return_, 1) := by decide +kernel
theorem dX4_copy_0 : decode cX4_copy 0 = .ok (.aload_n 0, 1) := by decide +kernel
theorem dX4_copy_1 : decode cX4_copy 1 = .ok (.aload_n 1, 1) := by decide +kernel
theorem dX4_copy_2 : decode cX4_copy 2 = .ok (.getfield 9, 3) := by decide +kernel
theorem dX4_copy_5 : decode cX4_copy 5 = .ok (.putfield 9, 3) := by decide +kernel
theorem dX4_copy_8 : decode cX4_copy 8 = .ok (.iconst 0, 1) := by decide +kernel
theorem dX4_copy_9 : decode cX4_copy 9 = .ok (.istore_n 2, 1) := by decide +kernel
theorem dX4_copy_10 : decode cX4_copy 10 = .ok (.iload_n 2, 1) := by decide +kernel
theorem dX4_copy_11 : decode cX4_copy 11 = .ok (.aload_n 0, 1) := by decide +kernel
theorem dX4_copy_12 : decode cX4_copy 12 = .ok (.getfield 9, 3) := by decide +kernel
theorem dX4_copy_15 : decode cX4_copy 15 = .ok (.if_icmp .ge 45, 3) := by decide +kernel
theorem dX4_copy_18 : decode cX4_copy 18 = .ok (.aload_n 0, 1) := by decide +kernel
theorem dX4_copy_19 : decode cX4_copy 19 = .ok (.getfield 15, 3) := by decide +kernel
theorem dX4_copy_22 : decode cX4_copy 22 = .ok (.iload_n 2, 1) := by decide +kernel
theorem dX4_copy_23 : decode cX4_copy 23 = .ok (.aload_n 1, 1) := by decide +kernel
theorem dX4_copy_24 : decode cX4_copy 24 = .ok (.getfield 15, 3) := by decide +kernel
theorem dX4_copy_27 : decode cX4_copy 27 = .ok (.iload_n 2, 1) := by decide +kernel
theorem dX4_copy_28 : decode cX4_copy 28 = .ok (.iaload, 1) := by decide +kernel
theorem dX4_copy_29 : decode cX4_copy 29 = .ok (.iastore, 1) := by decide +kernel
theorem dX4_copy_30 : decode cX4_copy 30 = .ok (.aload_n 0, 1) := by decide +kernel
theorem dX4_copy_31 : decode cX4_copy 31 = .ok (.getfield 19, 3) := by decide +kernel
theorem dX4_copy_34 : decode cX4_copy 34 = .ok (.iload_n 2, 1) := by decide +kernel
theorem dX4_copy_35 : decode cX4_copy 35 = .ok (.aload_n 1, 1) := by decide +kernel
theorem dX4_copy_36 : decode cX4_copy 36 = .ok (.getfield 19, 3) := by decide +kernel
theorem dX4_copy_39 : decode cX4_copy 39 = .ok (.iload_n 2, 1) := by decide +kernel
theorem dX4_copy_40 : decode cX4_copy 40 = .ok (.iaload, 1) := by decide +kernel
theorem dX4_copy_41 : decode cX4_copy 41 = .ok (.iastore, 1) := by decide +kernel
theorem dX4_copy_42 : decode cX4_copy 42 = .ok (.aload_n 0, 1) := by decide +kernel
theorem dX4_copy_43 : decode cX4_copy 43 = .ok (.getfield 22, 3) := by decide +kernel
theorem dX4_copy_46 : decode cX4_copy 46 = .ok (.iload_n 2, 1) := by decide +kernel
theorem dX4_copy_47 : decode cX4_copy 47 = .ok (.aload_n 1, 1) := by decide +kernel
theorem dX4_copy_48 : decode cX4_copy 48 = .ok (.getfield 22, 3) := by decide +kernel
theorem dX4_copy_51 : decode cX4_copy 51 = .ok (.iload_n 2, 1) := by decide +kernel
theorem dX4_copy_52 : decode cX4_copy 52 = .ok (.iaload, 1) := by decide +kernel
theorem dX4_copy_53 : decode cX4_copy 53 = .ok (.iastore, 1) := by decide +kernel
theorem dX4_copy_54 : decode cX4_copy 54 = .ok (.iinc 2 1, 3) := by decide +kernel
theorem dX4_copy_57 : decode cX4_copy 57 = .ok (.goto (-47), 3) := by decide +kernel
theorem dX4_copy_60 : decode cX4_copy 60 = .ok (.return_, 1) := by decide +kernel
theorem dX4_squares_0 : decode cX4_squares 0 = .ok (.aload_n 0, 1) := by decide +kernel
theorem dX4_squares_1 : decode cX4_squares 1 = .ok (.getfield 15, 3) := by decide +kernel
theorem dX4_squares_4 : decode cX4_squares 4 = .ok (.iload_n 1, 1) := by decide +kernel
theorem dX4_squares_5 : decode cX4_squares 5 = .ok (.iaload, 1) := by decide +kernel
theorem dX4_squares_6 : decode cX4_squares 6 = .ok (.iload_n 2, 1) := by decide +kernel
theorem dX4_squares_7 : decode cX4_squares 7 = .ok (.isub, 1) := by decide +kernel
theorem dX4_squares_8 : decode cX4_squares 8 = .ok (.istore 4, 2) := by decide +kernel
theorem dX4_squares_10 : decode cX4_squares 10 = .ok (.aload_n 0, 1) := by decide +kernel
theorem dX4_squares_11 : decode cX4_squares 11 = .ok (.getfield 19, 3) := by decide +kernel
theorem dX4_squares_14 : decode cX4_squares 14 = .ok (.iload_n 1, 1) := by decide +kernel
theorem dX4_squares_15 : decode cX4_squares 15 = .ok (.iaload, 1) := by decide +kernel
theorem dX4_squares_16 : decode cX4_squares 16 = .ok (.iload_n 3, 1) := by decide +kernel
theorem dX4_squares_17 : decode cX4_squares 17 = .ok (.isub, 1) := by decide +kernel
theorem dX4_squares_18 : decode cX4_squares 18 = .ok (.istore 5, 2) := by decide +kernel
theorem dX4_squares_20 : decode cX4_squares 20 = .ok (.iload 4, 2) := by decide +kernel
theorem dX4_squares_22 : decode cX4_squares 22 = .ok (.iload 4, 2) := by decide +kernel
theorem dX4_squares_24 : decode cX4_squares 24 = .ok (.imul, 1) := by decide +kernel
theorem dX4_squares_25 : decode cX4_squares 25 = .ok (.iload 5, 2) := by decide +kernel
theorem dX4_squares_27 : decode cX4_squares 27 = .ok (.iload 5, 2) := by decide +kernel
theorem dX4_squares_29 : decode cX4_squares 29 = .ok (.imul, 1) := by decide +kernel
theorem dX4_squares_30 : decode cX4_squares 30 = .ok (.iadd, 1) := by decide +kernel
theorem dX4_squares_31 : decode cX4_squares 31 = .ok (.ireturn, 1) := by decide +kernel
theorem dX4_apart_0 : decode cX4_apart 0 = .ok (.aload_n 0, 1) := by decide +kernel
theorem dX4_apart_1 : decode cX4_apart 1 = .ok (.iload_n 1, 1) := by decide +kernel
theorem dX4_apart_2 : decode cX4_apart 2 = .ok (.aload_n 0, 1) := by decide +kernel
theorem dX4_apart_3 : decode cX4_apart 3 = .ok (.getfield 15, 3) := by decide +kernel
theorem dX4_apart_6 : decode cX4_apart 6 = .ok (.iload_n 2, 1) := by decide +kernel
theorem dX4_apart_7 : decode cX4_apart 7 = .ok (.iaload, 1) := by decide +kernel
theorem dX4_apart_8 : decode cX4_apart 8 = .ok (.aload_n 0, 1) := by decide +kernel
theorem dX4_apart_9 : decode cX4_apart 9 = .ok (.getfield 19, 3) := by decide +kernel
theorem dX4_apart_12 : decode cX4_apart 12 = .ok (.iload_n 2, 1) := by decide +kernel
theorem dX4_apart_13 : decode cX4_apart 13 = .ok (.iaload, 1) := by decide +kernel
theorem dX4_apart_14 : decode cX4_apart 14 = .ok (.invokevirtual 33, 3) := by decide +kernel
theorem dX4_apart_17 : decode cX4_apart 17 = .ok (.ireturn, 1) := by decide +kernel
theorem dX4_nearestTo_0 : decode cX4_nearestTo 0 = .ok (.iconst (-1), 1) := by decide +kernel
theorem dX4_nearestTo_1 : decode cX4_nearestTo 1 = .ok (.istore_n 2, 1) := by decide +kernel
theorem dX4_nearestTo_2 : decode cX4_nearestTo 2 = .ok (.iconst 0, 1) := by decide +kernel
theorem dX4_nearestTo_3 : decode cX4_nearestTo 3 = .ok (.istore_n 3, 1) := by decide +kernel
theorem dX4_nearestTo_4 : decode cX4_nearestTo 4 = .ok (.iconst 0, 1) := by decide +kernel
theorem dX4_nearestTo_5 : decode cX4_nearestTo 5 = .ok (.istore 4, 2) := by decide +kernel
theorem dX4_nearestTo_7 : decode cX4_nearestTo 7 = .ok (.iload 4, 2) := by decide +kernel
theorem dX4_nearestTo_9 : decode cX4_nearestTo 9 = .ok (.aload_n 0, 1) := by decide +kernel
theorem dX4_nearestTo_10 : decode cX4_nearestTo 10 = .ok (.getfield 9, 3) := by decide +kernel
theorem dX4_nearestTo_13 : decode cX4_nearestTo 13 = .ok (.if_icmp .ge 42, 3) := by decide +kernel
theorem dX4_nearestTo_16 : decode cX4_nearestTo 16 = .ok (.iload 4, 2) := by decide +kernel
theorem dX4_nearestTo_18 : decode cX4_nearestTo 18 = .ok (.iload_n 1, 1) := by decide +kernel
theorem dX4_nearestTo_19 : decode cX4_nearestTo 19 = .ok (.if_icmp .eq 30, 3) := by decide +kernel
theorem dX4_nearestTo_22 : decode cX4_nearestTo 22 = .ok (.iload_n 2, 1) := by decide +kernel
theorem dX4_nearestTo_23 : decode cX4_nearestTo 23 = .ok (.iconst (-1), 1) := by decide +kernel
theorem dX4_nearestTo_24 : decode cX4_nearestTo 24 = .ok (.if_icmp .eq 14, 3) := by decide +kernel
theorem dX4_nearestTo_27 : decode cX4_nearestTo 27 = .ok (.aload_n 0, 1) := by decide +kernel
theorem dX4_nearestTo_28 : decode cX4_nearestTo 28 = .ok (.iload_n 1, 1) := by decide +kernel
theorem dX4_nearestTo_29 : decode cX4_nearestTo 29 = .ok (.iload 4, 2) := by decide +kernel
theorem dX4_nearestTo_31 : decode cX4_nearestTo 31 = .ok (.invokevirtual 37, 3) := by decide +kernel
theorem dX4_nearestTo_34 : decode cX4_nearestTo 34 = .ok (.iload_n 3, 1) := by decide +kernel
theorem dX4_nearestTo_35 : decode cX4_nearestTo 35 = .ok (.if_icmp .ge 14, 3) := by decide +kernel
theorem dX4_nearestTo_38 : decode cX4_nearestTo 38 = .ok (.iload 4, 2) := by decide +kernel
theorem dX4_nearestTo_40 : decode cX4_nearestTo 40 = .ok (.istore_n 2, 1) := by decide +kernel
theorem dX4_nearestTo_41 : decode cX4_nearestTo 41 = .ok (.aload_n 0, 1) := by decide +kernel
theorem dX4_nearestTo_42 : decode cX4_nearestTo 42 = .ok (.iload_n 1, 1) := by decide +kernel
theorem dX4_nearestTo_43 : decode cX4_nearestTo 43 = .ok (.iload 4, 2) := by decide +kernel
theorem dX4_nearestTo_45 : decode cX4_nearestTo 45 = .ok (.invokevirtual 37, 3) := by decide +kernel
theorem dX4_nearestTo_48 : decode cX4_nearestTo 48 = .ok (.istore_n 3, 1) := by decide +kernel
theorem dX4_nearestTo_49 : decode cX4_nearestTo 49 = .ok (.iinc 4 1, 3) := by decide +kernel
theorem dX4_nearestTo_52 : decode cX4_nearestTo 52 = .ok (.goto (-45), 3) := by decide +kernel
theorem dX4_nearestTo_55 : decode cX4_nearestTo 55 = .ok (.iload_n 2, 1) := by decide +kernel
theorem dX4_nearestTo_56 : decode cX4_nearestTo 56 = .ok (.ireturn, 1) := by decide +kernel
theorem dX4_apartFromNearest_0 : decode cX4_apartFromNearest 0 = .ok (.aload_n 0, 1) := by decide +kernel
theorem dX4_apartFromNearest_1 : decode cX4_apartFromNearest 1 = .ok (.iload_n 1, 1) := by decide +kernel
theorem dX4_apartFromNearest_2 : decode cX4_apartFromNearest 2 = .ok (.invokevirtual 40, 3) := by decide +kernel
theorem dX4_apartFromNearest_5 : decode cX4_apartFromNearest 5 = .ok (.istore_n 2, 1) := by decide +kernel
theorem dX4_apartFromNearest_6 : decode cX4_apartFromNearest 6 = .ok (.iload_n 2, 1) := by decide +kernel
theorem dX4_apartFromNearest_7 : decode cX4_apartFromNearest 7 = .ok (.iconst (-1), 1) := by decide +kernel
theorem dX4_apartFromNearest_8 : decode cX4_apartFromNearest 8 = .ok (.if_icmp .ne 7, 3) := by decide +kernel
theorem dX4_apartFromNearest_11 : decode cX4_apartFromNearest 11 = .ok (.iconst (-1), 1) := by decide +kernel
theorem dX4_apartFromNearest_12 : decode cX4_apartFromNearest 12 = .ok (.goto 9, 3) := by decide +kernel
theorem dX4_apartFromNearest_15 : decode cX4_apartFromNearest 15 = .ok (.aload_n 0, 1) := by decide +kernel
theorem dX4_apartFromNearest_16 : decode cX4_apartFromNearest 16 = .ok (.iload_n 1, 1) := by decide +kernel
theorem dX4_apartFromNearest_17 : decode cX4_apartFromNearest 17 = .ok (.iload_n 2, 1) := by decide +kernel
theorem dX4_apartFromNearest_18 : decode cX4_apartFromNearest 18 = .ok (.invokevirtual 37, 3) := by decide +kernel
theorem dX4_apartFromNearest_21 : decode cX4_apartFromNearest 21 = .ok (.ireturn, 1) := by decide +kernel
theorem dX4_weightOf_0 : decode cX4_weightOf 0 = .ok (.iconst 0, 1) := by decide +kernel
theorem dX4_weightOf_1 : decode cX4_weightOf 1 = .ok (.istore_n 2, 1) := by decide +kernel
theorem dX4_weightOf_2 : decode cX4_weightOf 2 = .ok (.iconst 0, 1) := by decide +kernel
theorem dX4_weightOf_3 : decode cX4_weightOf 3 = .ok (.istore_n 3, 1) := by decide +kernel
theorem dX4_weightOf_4 : decode cX4_weightOf 4 = .ok (.iload_n 3, 1) := by decide +kernel
theorem dX4_weightOf_5 : decode cX4_weightOf 5 = .ok (.aload_n 0, 1) := by decide +kernel
theorem dX4_weightOf_6 : decode cX4_weightOf 6 = .ok (.getfield 9, 3) := by decide +kernel
theorem dX4_weightOf_9 : decode cX4_weightOf 9 = .ok (.if_icmp .ge 26, 3) := by decide +kernel
theorem dX4_weightOf_12 : decode cX4_weightOf 12 = .ok (.iload_n 1, 1) := by decide +kernel
theorem dX4_weightOf_13 : decode cX4_weightOf 13 = .ok (.iload_n 3, 1) := by decide +kernel
theorem dX4_weightOf_14 : decode cX4_weightOf 14 = .ok (.invokestatic 44, 3) := by decide +kernel
theorem dX4_weightOf_17 : decode cX4_weightOf 17 = .ok (.ifCond .eq 12, 3) := by decide +kernel
theorem dX4_weightOf_20 : decode cX4_weightOf 20 = .ok (.iload_n 2, 1) := by decide +kernel
theorem dX4_weightOf_21 : decode cX4_weightOf 21 = .ok (.aload_n 0, 1) := by decide +kernel
theorem dX4_weightOf_22 : decode cX4_weightOf 22 = .ok (.getfield 22, 3) := by decide +kernel
theorem dX4_weightOf_25 : decode cX4_weightOf 25 = .ok (.iload_n 3, 1) := by decide +kernel
theorem dX4_weightOf_26 : decode cX4_weightOf 26 = .ok (.iaload, 1) := by decide +kernel
theorem dX4_weightOf_27 : decode cX4_weightOf 27 = .ok (.iadd, 1) := by decide +kernel
theorem dX4_weightOf_28 : decode cX4_weightOf 28 = .ok (.istore_n 2, 1) := by decide +kernel
theorem dX4_weightOf_29 : decode cX4_weightOf 29 = .ok (.iinc 3 1, 3) := by decide +kernel
theorem dX4_weightOf_32 : decode cX4_weightOf 32 = .ok (.goto (-28), 3) := by decide +kernel
theorem dX4_weightOf_35 : decode cX4_weightOf 35 = .ok (.iload_n 2, 1) := by decide +kernel
theorem dX4_weightOf_36 : decode cX4_weightOf 36 = .ok (.ireturn, 1) := by decide +kernel
theorem dX4_heaviestOf_0 : decode cX4_heaviestOf 0 = .ok (.iconst (-1), 1) := by decide +kernel
theorem dX4_heaviestOf_1 : decode cX4_heaviestOf 1 = .ok (.istore_n 2, 1) := by decide +kernel
theorem dX4_heaviestOf_2 : decode cX4_heaviestOf 2 = .ok (.iconst 0, 1) := by decide +kernel
theorem dX4_heaviestOf_3 : decode cX4_heaviestOf 3 = .ok (.istore_n 3, 1) := by decide +kernel
theorem dX4_heaviestOf_4 : decode cX4_heaviestOf 4 = .ok (.iconst 0, 1) := by decide +kernel
theorem dX4_heaviestOf_5 : decode cX4_heaviestOf 5 = .ok (.istore 4, 2) := by decide +kernel
theorem dX4_heaviestOf_7 : decode cX4_heaviestOf 7 = .ok (.iload 4, 2) := by decide +kernel
theorem dX4_heaviestOf_9 : decode cX4_heaviestOf 9 = .ok (.aload_n 0, 1) := by decide +kernel
theorem dX4_heaviestOf_10 : decode cX4_heaviestOf 10 = .ok (.getfield 9, 3) := by decide +kernel
theorem dX4_heaviestOf_13 : decode cX4_heaviestOf 13 = .ok (.if_icmp .ge 40, 3) := by decide +kernel
theorem dX4_heaviestOf_16 : decode cX4_heaviestOf 16 = .ok (.iload_n 1, 1) := by decide +kernel
theorem dX4_heaviestOf_17 : decode cX4_heaviestOf 17 = .ok (.iload 4, 2) := by decide +kernel
theorem dX4_heaviestOf_19 : decode cX4_heaviestOf 19 = .ok (.invokestatic 44, 3) := by decide +kernel
theorem dX4_heaviestOf_22 : decode cX4_heaviestOf 22 = .ok (.ifCond .eq 25, 3) := by decide +kernel
theorem dX4_heaviestOf_25 : decode cX4_heaviestOf 25 = .ok (.aload_n 0, 1) := by decide +kernel
theorem dX4_heaviestOf_26 : decode cX4_heaviestOf 26 = .ok (.getfield 22, 3) := by decide +kernel
theorem dX4_heaviestOf_29 : decode cX4_heaviestOf 29 = .ok (.iload 4, 2) := by decide +kernel
theorem dX4_heaviestOf_31 : decode cX4_heaviestOf 31 = .ok (.iaload, 1) := by decide +kernel
theorem dX4_heaviestOf_32 : decode cX4_heaviestOf 32 = .ok (.iload_n 3, 1) := by decide +kernel
theorem dX4_heaviestOf_33 : decode cX4_heaviestOf 33 = .ok (.if_icmp .le 14, 3) := by decide +kernel
theorem dX4_heaviestOf_36 : decode cX4_heaviestOf 36 = .ok (.iload 4, 2) := by decide +kernel
theorem dX4_heaviestOf_38 : decode cX4_heaviestOf 38 = .ok (.istore_n 2, 1) := by decide +kernel
theorem dX4_heaviestOf_39 : decode cX4_heaviestOf 39 = .ok (.aload_n 0, 1) := by decide +kernel
theorem dX4_heaviestOf_40 : decode cX4_heaviestOf 40 = .ok (.getfield 22, 3) := by decide +kernel
theorem dX4_heaviestOf_43 : decode cX4_heaviestOf 43 = .ok (.iload 4, 2) := by decide +kernel
theorem dX4_heaviestOf_45 : decode cX4_heaviestOf 45 = .ok (.iaload, 1) := by decide +kernel
theorem dX4_heaviestOf_46 : decode cX4_heaviestOf 46 = .ok (.istore_n 3, 1) := by decide +kernel
theorem dX4_heaviestOf_47 : decode cX4_heaviestOf 47 = .ok (.iinc 4 1, 3) := by decide +kernel
theorem dX4_heaviestOf_50 : decode cX4_heaviestOf 50 = .ok (.goto (-43), 3) := by decide +kernel
theorem dX4_heaviestOf_53 : decode cX4_heaviestOf 53 = .ok (.iload_n 2, 1) := by decide +kernel
theorem dX4_heaviestOf_54 : decode cX4_heaviestOf 54 = .ok (.ireturn, 1) := by decide +kernel
theorem dX4_wide_0 : decode cX4_wide 0 = .ok (.iconst 0, 1) := by decide +kernel
theorem dX4_wide_1 : decode cX4_wide 1 = .ok (.istore_n 2, 1) := by decide +kernel
theorem dX4_wide_2 : decode cX4_wide 2 = .ok (.iconst 0, 1) := by decide +kernel
theorem dX4_wide_3 : decode cX4_wide 3 = .ok (.istore_n 3, 1) := by decide +kernel
theorem dX4_wide_4 : decode cX4_wide 4 = .ok (.iload_n 3, 1) := by decide +kernel
theorem dX4_wide_5 : decode cX4_wide 5 = .ok (.aload_n 0, 1) := by decide +kernel
theorem dX4_wide_6 : decode cX4_wide 6 = .ok (.getfield 9, 3) := by decide +kernel
theorem dX4_wide_9 : decode cX4_wide 9 = .ok (.if_icmp .ge 58, 3) := by decide +kernel
theorem dX4_wide_12 : decode cX4_wide 12 = .ok (.iload_n 3, 1) := by decide +kernel
theorem dX4_wide_13 : decode cX4_wide 13 = .ok (.iconst 1, 1) := by decide +kernel
theorem dX4_wide_14 : decode cX4_wide 14 = .ok (.iadd, 1) := by decide +kernel
theorem dX4_wide_15 : decode cX4_wide 15 = .ok (.istore 4, 2) := by decide +kernel
theorem dX4_wide_17 : decode cX4_wide 17 = .ok (.iload 4, 2) := by decide +kernel
theorem dX4_wide_19 : decode cX4_wide 19 = .ok (.aload_n 0, 1) := by decide +kernel
theorem dX4_wide_20 : decode cX4_wide 20 = .ok (.getfield 9, 3) := by decide +kernel
theorem dX4_wide_23 : decode cX4_wide 23 = .ok (.if_icmp .ge 38, 3) := by decide +kernel
theorem dX4_wide_26 : decode cX4_wide 26 = .ok (.iload_n 1, 1) := by decide +kernel
theorem dX4_wide_27 : decode cX4_wide 27 = .ok (.iload_n 3, 1) := by decide +kernel
theorem dX4_wide_28 : decode cX4_wide 28 = .ok (.invokestatic 44, 3) := by decide +kernel
theorem dX4_wide_31 : decode cX4_wide 31 = .ok (.ifCond .eq 30, 3) := by decide +kernel
theorem dX4_wide_34 : decode cX4_wide 34 = .ok (.iload_n 1, 1) := by decide +kernel
theorem dX4_wide_35 : decode cX4_wide 35 = .ok (.iload 4, 2) := by decide +kernel
theorem dX4_wide_37 : decode cX4_wide 37 = .ok (.invokestatic 44, 3) := by decide +kernel
theorem dX4_wide_40 : decode cX4_wide 40 = .ok (.ifCond .eq 15, 3) := by decide +kernel
theorem dX4_wide_43 : decode cX4_wide 43 = .ok (.iload_n 2, 1) := by decide +kernel
theorem dX4_wide_44 : decode cX4_wide 44 = .ok (.aload_n 0, 1) := by decide +kernel
theorem dX4_wide_45 : decode cX4_wide 45 = .ok (.iload_n 3, 1) := by decide +kernel
theorem dX4_wide_46 : decode cX4_wide 46 = .ok (.iload 4, 2) := by decide +kernel
theorem dX4_wide_48 : decode cX4_wide 48 = .ok (.invokevirtual 37, 3) := by decide +kernel
theorem dX4_wide_51 : decode cX4_wide 51 = .ok (.invokestatic 50, 3) := by decide +kernel
theorem dX4_wide_54 : decode cX4_wide 54 = .ok (.istore_n 2, 1) := by decide +kernel
theorem dX4_wide_55 : decode cX4_wide 55 = .ok (.iinc 4 1, 3) := by decide +kernel
theorem dX4_wide_58 : decode cX4_wide 58 = .ok (.goto (-41), 3) := by decide +kernel
theorem dX4_wide_61 : decode cX4_wide 61 = .ok (.iinc 3 1, 3) := by decide +kernel
theorem dX4_wide_64 : decode cX4_wide 64 = .ok (.goto (-60), 3) := by decide +kernel
theorem dX4_wide_67 : decode cX4_wide 67 = .ok (.iload_n 2, 1) := by decide +kernel
theorem dX4_wide_68 : decode cX4_wide 68 = .ok (.ireturn, 1) := by decide +kernel
theorem dX5_init_0 : decode cX5_init 0 = .ok (.aload_n 0, 1) := by decide +kernel
theorem dX5_init_1 : decode cX5_init 1 = .ok (.invokespecial 3, 3) := by decide +kernel
theorem dX5_init_4 : decode cX5_init 4 = .ok (.aload_n 0, 1) := by decide +kernel
theorem dX5_init_5 : decode cX5_init 5 = .ok (.iconst 0, 1) := by decide +kernel
theorem dX5_init_6 : decode cX5_init 6 = .ok (.putfield 9, 3) := by decide +kernel
theorem dX5_init_9 : decode cX5_init 9 = .ok (.aload_n 0, 1) := by decide +kernel
theorem dX5_init_10 : decode cX5_init 10 = .ok (.bipush 24, 2) := by decide +kernel
theorem dX5_init_12 : decode cX5_init 12 = .ok (.newarray .int, 2) := by decide +kernel
theorem dX5_init_14 : decode cX5_init 14 = .ok (.putfield 15, 3) := by decide +kernel
theorem dX5_init_17 : decode cX5_init 17 = .ok (.aload_n 0, 1) := by decide +kernel
theorem dX5_init_18 : decode cX5_init 18 = .ok (.bipush 24, 2) := by decide +kernel
theorem dX5_init_20 : decode cX5_init 20 = .ok (.newarray .int, 2) := by decide +kernel
theorem dX5_init_22 : decode cX5_init 22 = .ok (.putfield 19, 3) := by decide +kernel
theorem dX5_init_25 : decode cX5_init 25 = .ok (.aload_n 0, 1) := by decide +kernel
theorem dX5_init_26 : decode cX5_init 26 = .ok (.bipush 24, 2) := by decide +kernel
theorem dX5_init_28 : decode cX5_init 28 = .ok (.newarray .int, 2) := by decide +kernel
theorem dX5_init_30 : decode cX5_init 30 = .ok (.putfield 22, 3) := by decide +kernel
theorem dX5_init_33 : decode cX5_init 33 = .ok (.aload_n 0, 1) := by decide +kernel
theorem dX5_init_34 : decode cX5_init 34 = .ok (.bipush 24, 2) := by decide +kernel
theorem dX5_init_36 : decode cX5_init 36 = .ok (.newarray .int, 2) := by decide +kernel
theorem dX5_init_38 : decode cX5_init 38 = .ok (.putfield 25, 3) := by decide +kernel
theorem dX5_init_41 : decode cX5_init 41 = .ok (.aload_n 0, 1) := by decide +kernel
theorem dX5_init_42 : decode cX5_init 42 = .ok (.bipush 24, 2) := by decide +kernel
theorem dX5_init_44 : decode cX5_init 44 = .ok (.newarray .int, 2) := by decide +kernel
theorem dX5_init_46 : decode cX5_init 46 = .ok (.putfield 28, 3) := by decide +kernel
theorem dX5_init_49 : decode cX5_init 49 = .ok (.return_, 1) := by decide +kernel
theorem dX5_cut_0 : decode cX5_cut 0 = .ok (.aload_n 1, 1) := by decide +kernel
theorem dX5_cut_1 : decode cX5_cut 1 = .ok (.iload_n 2, 1) := by decide +kernel
theorem dX5_cut_2 : decode cX5_cut 2 = .ok (.invokevirtual 31, 3) := by decide +kernel
theorem dX5_cut_5 : decode cX5_cut 5 = .ok (.istore_n 3, 1) := by decide +kernel
theorem dX5_cut_6 : decode cX5_cut 6 = .ok (.iconst 0, 1) := by decide +kernel
theorem dX5_cut_7 : decode cX5_cut 7 = .ok (.istore 4, 2) := by decide +kernel
theorem dX5_cut_9 : decode cX5_cut 9 = .ok (.aload_n 0, 1) := by decide +kernel
theorem dX5_cut_10 : decode cX5_cut 10 = .ok (.iconst 0, 1) := by decide +kernel
theorem dX5_cut_11 : decode cX5_cut 11 = .ok (.putfield 9, 3) := by decide +kernel
theorem dX5_cut_14 : decode cX5_cut 14 = .ok (.iconst 0, 1) := by decide +kernel
theorem dX5_cut_15 : decode cX5_cut 15 = .ok (.istore 5, 2) := by decide +kernel
theorem dX5_cut_17 : decode cX5_cut 17 = .ok (.iload 5, 2) := by decide +kernel
theorem dX5_cut_19 : decode cX5_cut 19 = .ok (.aload_n 1, 1) := by decide +kernel
theorem dX5_cut_20 : decode cX5_cut 20 = .ok (.getfield 37, 3) := by decide +kernel
theorem dX5_cut_23 : decode cX5_cut 23 = .ok (.getfield 41, 3) := by decide +kernel
theorem dX5_cut_26 : decode cX5_cut 26 = .ok (.if_icmp .ge 71, 3) := by decide +kernel
theorem dX5_cut_29 : decode cX5_cut 29 = .ok (.iload 4, 2) := by decide +kernel
theorem dX5_cut_31 : decode cX5_cut 31 = .ok (.iload 5, 2) := by decide +kernel
theorem dX5_cut_33 : decode cX5_cut 33 = .ok (.invokestatic 44, 3) := by decide +kernel
theorem dX5_cut_36 : decode cX5_cut 36 = .ok (.ifCond .ne 55, 3) := by decide +kernel
theorem dX5_cut_39 : decode cX5_cut 39 = .ok (.aload_n 0, 1) := by decide +kernel
theorem dX5_cut_40 : decode cX5_cut 40 = .ok (.getfield 15, 3) := by decide +kernel
theorem dX5_cut_43 : decode cX5_cut 43 = .ok (.aload_n 0, 1) := by decide +kernel
theorem dX5_cut_44 : decode cX5_cut 44 = .ok (.getfield 9, 3) := by decide +kernel
theorem dX5_cut_47 : decode cX5_cut 47 = .ok (.aload_n 1, 1) := by decide +kernel
theorem dX5_cut_48 : decode cX5_cut 48 = .ok (.iload 5, 2) := by decide +kernel
theorem dX5_cut_50 : decode cX5_cut 50 = .ok (.iload_n 3, 1) := by decide +kernel
theorem dX5_cut_51 : decode cX5_cut 51 = .ok (.invokevirtual 50, 3) := by decide +kernel
theorem dX5_cut_54 : decode cX5_cut 54 = .ok (.iastore, 1) := by decide +kernel
theorem dX5_cut_55 : decode cX5_cut 55 = .ok (.iload 4, 2) := by decide +kernel
theorem dX5_cut_57 : decode cX5_cut 57 = .ok (.aload_n 0, 1) := by decide +kernel
theorem dX5_cut_58 : decode cX5_cut 58 = .ok (.getfield 15, 3) := by decide +kernel
theorem dX5_cut_61 : decode cX5_cut 61 = .ok (.aload_n 0, 1) := by decide +kernel
theorem dX5_cut_62 : decode cX5_cut 62 = .ok (.getfield 9, 3) := by decide +kernel
theorem dX5_cut_65 : decode cX5_cut 65 = .ok (.iaload, 1) := by decide +kernel
theorem dX5_cut_66 : decode cX5_cut 66 = .ok (.ior, 1) := by decide +kernel
theorem dX5_cut_67 : decode cX5_cut 67 = .ok (.istore 4, 2) := by decide +kernel
theorem dX5_cut_69 : decode cX5_cut 69 = .ok (.aload_n 0, 1) := by decide +kernel
theorem dX5_cut_70 : decode cX5_cut 70 = .ok (.aload_n 1, 1) := by decide +kernel
theorem dX5_cut_71 : decode cX5_cut 71 = .ok (.getfield 37, 3) := by decide +kernel
theorem dX5_cut_74 : decode cX5_cut 74 = .ok (.aload_n 0, 1) := by decide +kernel
theorem dX5_cut_75 : decode cX5_cut 75 = .ok (.getfield 9, 3) := by decide +kernel
theorem dX5_cut_78 : decode cX5_cut 78 = .ok (.invokevirtual 54, 3) := by decide +kernel
theorem dX5_cut_81 : decode cX5_cut 81 = .ok (.aload_n 0, 1) := by decide +kernel
theorem dX5_cut_82 : decode cX5_cut 82 = .ok (.dup, 1) := by decide +kernel
theorem dX5_cut_83 : decode cX5_cut 83 = .ok (.getfield 9, 3) := by decide +kernel
theorem dX5_cut_86 : decode cX5_cut 86 = .ok (.iconst 1, 1) := by decide +kernel
theorem dX5_cut_87 : decode cX5_cut 87 = .ok (.iadd, 1) := by decide +kernel
theorem dX5_cut_88 : decode cX5_cut 88 = .ok (.putfield 9, 3) := by decide +kernel
theorem dX5_cut_91 : decode cX5_cut 91 = .ok (.iinc 5 1, 3) := by decide +kernel
theorem dX5_cut_94 : decode cX5_cut 94 = .ok (.goto (-77), 3) := by decide +kernel
theorem dX5_cut_97 : decode cX5_cut 97 = .ok (.return_, 1) := by decide +kernel
theorem dX5_gather_0 : decode cX5_gather 0 = .ok (.iconst 0, 1) := by decide +kernel
theorem dX5_gather_1 : decode cX5_gather 1 = .ok (.istore_n 3, 1) := by decide +kernel
theorem dX5_gather_2 : decode cX5_gather 2 = .ok (.iconst 0, 1) := by decide +kernel
theorem dX5_gather_3 : decode cX5_gather 3 = .ok (.istore 4, 2) := by decide +kernel
theorem dX5_gather_5 : decode cX5_gather 5 = .ok (.iconst 0, 1) := by decide +kernel
theorem dX5_gather_6 : decode cX5_gather 6 = .ok (.istore 5, 2) := by decide +kernel
theorem dX5_gather_8 : decode cX5_gather 8 = .ok (.iconst 0, 1) := by decide +kernel
theorem dX5_gather_9 : decode cX5_gather 9 = .ok (.istore 6, 2) := by decide +kernel
theorem dX5_gather_11 : decode cX5_gather 11 = .ok (.iload 6, 2) := by decide +kernel
theorem dX5_gather_13 : decode cX5_gather 13 = .ok (.aload_n 1, 1) := by decide +kernel
theorem dX5_gather_14 : decode cX5_gather 14 = .ok (.getfield 41, 3) := by decide +kernel
theorem dX5_gather_17 : decode cX5_gather 17 = .ok (.if_icmp .ge 81, 3) := by decide +kernel
theorem dX5_gather_20 : decode cX5_gather 20 = .ok (.aload_n 0, 1) := by decide +kernel
theorem dX5_gather_21 : decode cX5_gather 21 = .ok (.getfield 15, 3) := by decide +kernel
theorem dX5_gather_24 : decode cX5_gather 24 = .ok (.iload_n 2, 1) := by decide +kernel
theorem dX5_gather_25 : decode cX5_gather 25 = .ok (.iaload, 1) := by decide +kernel
theorem dX5_gather_26 : decode cX5_gather 26 = .ok (.iload 6, 2) := by decide +kernel
theorem dX5_gather_28 : decode cX5_gather 28 = .ok (.invokestatic 44, 3) := by decide +kernel
theorem dX5_gather_31 : decode cX5_gather 31 = .ok (.ifCond .eq 61, 3) := by decide +kernel
theorem dX5_gather_34 : decode cX5_gather 34 = .ok (.aload_n 0, 1) := by decide +kernel
theorem dX5_gather_35 : decode cX5_gather 35 = .ok (.getfield 28, 3) := by decide +kernel
theorem dX5_gather_38 : decode cX5_gather 38 = .ok (.iload 6, 2) := by decide +kernel
theorem dX5_gather_40 : decode cX5_gather 40 = .ok (.iload_n 2, 1) := by decide +kernel
theorem dX5_gather_41 : decode cX5_gather 41 = .ok (.iastore, 1) := by decide +kernel
theorem dX5_gather_42 : decode cX5_gather 42 = .ok (.iload_n 3, 1) := by decide +kernel
theorem dX5_gather_43 : decode cX5_gather 43 = .ok (.aload_n 1, 1) := by decide +kernel
theorem dX5_gather_44 : decode cX5_gather 44 = .ok (.getfield 58, 3) := by decide +kernel
theorem dX5_gather_47 : decode cX5_gather 47 = .ok (.iload 6, 2) := by decide +kernel
theorem dX5_gather_49 : decode cX5_gather 49 = .ok (.iaload, 1) := by decide +kernel
theorem dX5_gather_50 : decode cX5_gather 50 = .ok (.iadd, 1) := by decide +kernel
theorem dX5_gather_51 : decode cX5_gather 51 = .ok (.istore_n 3, 1) := by decide +kernel
theorem dX5_gather_52 : decode cX5_gather 52 = .ok (.iload 4, 2) := by decide +kernel
theorem dX5_gather_54 : decode cX5_gather 54 = .ok (.aload_n 1, 1) := by decide +kernel
theorem dX5_gather_55 : decode cX5_gather 55 = .ok (.getfield 61, 3) := by decide +kernel
theorem dX5_gather_58 : decode cX5_gather 58 = .ok (.iload 6, 2) := by decide +kernel
theorem dX5_gather_60 : decode cX5_gather 60 = .ok (.iaload, 1) := by decide +kernel
theorem dX5_gather_61 : decode cX5_gather 61 = .ok (.aload_n 1, 1) := by decide +kernel
theorem dX5_gather_62 : decode cX5_gather 62 = .ok (.getfield 58, 3) := by decide +kernel
theorem dX5_gather_65 : decode cX5_gather 65 = .ok (.iload 6, 2) := by decide +kernel
theorem dX5_gather_67 : decode cX5_gather 67 = .ok (.iaload, 1) := by decide +kernel
theorem dX5_gather_68 : decode cX5_gather 68 = .ok (.imul, 1) := by decide +kernel
theorem dX5_gather_69 : decode cX5_gather 69 = .ok (.iadd, 1) := by decide +kernel
theorem dX5_gather_70 : decode cX5_gather 70 = .ok (.istore 4, 2) := by decide +kernel
theorem dX5_gather_72 : decode cX5_gather 72 = .ok (.iload 5, 2) := by decide +kernel
theorem dX5_gather_74 : decode cX5_gather 74 = .ok (.aload_n 1, 1) := by decide +kernel
theorem dX5_gather_75 : decode cX5_gather 75 = .ok (.getfield 62, 3) := by decide +kernel
theorem dX5_gather_78 : decode cX5_gather 78 = .ok (.iload 6, 2) := by decide +kernel
theorem dX5_gather_80 : decode cX5_gather 80 = .ok (.iaload, 1) := by decide +kernel
theorem dX5_gather_81 : decode cX5_gather 81 = .ok (.aload_n 1, 1) := by decide +kernel
theorem dX5_gather_82 : decode cX5_gather 82 = .ok (.getfield 58, 3) := by decide +kernel
theorem dX5_gather_85 : decode cX5_gather 85 = .ok (.iload 6, 2) := by decide +kernel
theorem dX5_gather_87 : decode cX5_gather 87 = .ok (.iaload, 1) := by decide +kernel
theorem dX5_gather_88 : decode cX5_gather 88 = .ok (.imul, 1) := by decide +kernel
theorem dX5_gather_89 : decode cX5_gather 89 = .ok (.iadd, 1) := by decide +kernel
theorem dX5_gather_90 : decode cX5_gather 90 = .ok (.istore 5, 2) := by decide +kernel
theorem dX5_gather_92 : decode cX5_gather 92 = .ok (.iinc 6 1, 3) := by decide +kernel
theorem dX5_gather_95 : decode cX5_gather 95 = .ok (.goto (-84), 3) := by decide +kernel
theorem dX5_gather_98 : decode cX5_gather 98 = .ok (.aload_n 0, 1) := by decide +kernel
theorem dX5_gather_99 : decode cX5_gather 99 = .ok (.getfield 19, 3) := by decide +kernel
theorem dX5_gather_102 : decode cX5_gather 102 = .ok (.iload_n 2, 1) := by decide +kernel
theorem dX5_gather_103 : decode cX5_gather 103 = .ok (.iload_n 3, 1) := by decide +kernel
theorem dX5_gather_104 : decode cX5_gather 104 = .ok (.iastore, 1) := by decide +kernel
theorem dX5_gather_105 : decode cX5_gather 105 = .ok (.aload_n 0, 1) := by decide +kernel
theorem dX5_gather_106 : decode cX5_gather 106 = .ok (.getfield 22, 3) := by decide +kernel
theorem dX5_gather_109 : decode cX5_gather 109 = .ok (.iload_n 2, 1) := by decide +kernel
theorem dX5_gather_110 : decode cX5_gather 110 = .ok (.iload_n 3, 1) := by decide +kernel
theorem dX5_gather_111 : decode cX5_gather 111 = .ok (.ifCond .le 10, 3) := by decide +kernel
theorem dX5_gather_114 : decode cX5_gather 114 = .ok (.iload 4, 2) := by decide +kernel
theorem dX5_gather_116 : decode cX5_gather 116 = .ok (.iload_n 3, 1) := by decide +kernel
theorem dX5_gather_117 : decode cX5_gather 117 = .ok (.idiv, 1) := by decide +kernel
theorem dX5_gather_118 : decode cX5_gather 118 = .ok (.goto 4, 3) := by decide +kernel
theorem dX5_gather_121 : decode cX5_gather 121 = .ok (.iconst 0, 1) := by decide +kernel
theorem dX5_gather_122 : decode cX5_gather 122 = .ok (.iastore, 1) := by decide +kernel
theorem dX5_gather_123 : decode cX5_gather 123 = .ok (.aload_n 0, 1) := by decide +kernel
theorem dX5_gather_124 : decode cX5_gather 124 = .ok (.getfield 25, 3) := by decide +kernel
theorem dX5_gather_127 : decode cX5_gather 127 = .ok (.iload_n 2, 1) := by decide +kernel
theorem dX5_gather_128 : decode cX5_gather 128 = .ok (.iload_n 3, 1) := by decide +kernel
theorem dX5_gather_129 : decode cX5_gather 129 = .ok (.ifCond .le 10, 3) := by decide +kernel
theorem dX5_gather_132 : decode cX5_gather 132 = .ok (.iload 5, 2) := by decide +kernel
theorem dX5_gather_134 : decode cX5_gather 134 = .ok (.iload_n 3, 1) := by decide +kernel
theorem dX5_gather_135 : decode cX5_gather 135 = .ok (.idiv, 1) := by decide +kernel
theorem dX5_gather_136 : decode cX5_gather 136 = .ok (.goto 4, 3) := by decide +kernel
theorem dX5_gather_139 : decode cX5_gather 139 = .ok (.iconst 0, 1) := by decide +kernel
theorem dX5_gather_140 : decode cX5_gather 140 = .ok (.iastore, 1) := by decide +kernel
theorem dX5_gather_141 : decode cX5_gather 141 = .ok (.return_, 1) := by decide +kernel
theorem dX5_groupsWithin_0 : decode cX5_groupsWithin 0 = .ok (.iconst 0, 1) := by decide +kernel
theorem dX5_groupsWithin_1 : decode cX5_groupsWithin 1 = .ok (.istore_n 2, 1) := by decide +kernel
theorem dX5_groupsWithin_2 : decode cX5_groupsWithin 2 = .ok (.iconst 0, 1) := by decide +kernel
theorem dX5_groupsWithin_3 : decode cX5_groupsWithin 3 = .ok (.istore_n 3, 1) := by decide +kernel
theorem dX5_groupsWithin_4 : decode cX5_groupsWithin 4 = .ok (.iload_n 3, 1) := by decide +kernel
theorem dX5_groupsWithin_5 : decode cX5_groupsWithin 5 = .ok (.aload_n 0, 1) := by decide +kernel
theorem dX5_groupsWithin_6 : decode cX5_groupsWithin 6 = .ok (.getfield 9, 3) := by decide +kernel
theorem dX5_groupsWithin_9 : decode cX5_groupsWithin 9 = .ok (.if_icmp .ge 28, 3) := by decide +kernel
theorem dX5_groupsWithin_12 : decode cX5_groupsWithin 12 = .ok (.aload_n 0, 1) := by decide +kernel
theorem dX5_groupsWithin_13 : decode cX5_groupsWithin 13 = .ok (.getfield 15, 3) := by decide +kernel
theorem dX5_groupsWithin_16 : decode cX5_groupsWithin 16 = .ok (.iload_n 3, 1) := by decide +kernel
theorem dX5_groupsWithin_17 : decode cX5_groupsWithin 17 = .ok (.iaload, 1) := by decide +kernel
theorem dX5_groupsWithin_18 : decode cX5_groupsWithin 18 = .ok (.iload_n 1, 1) := by decide +kernel
theorem dX5_groupsWithin_19 : decode cX5_groupsWithin 19 = .ok (.iconst (-1), 1) := by decide +kernel
theorem dX5_groupsWithin_20 : decode cX5_groupsWithin 20 = .ok (.ixor, 1) := by decide +kernel
theorem dX5_groupsWithin_21 : decode cX5_groupsWithin 21 = .ok (.iand, 1) := by decide +kernel
theorem dX5_groupsWithin_22 : decode cX5_groupsWithin 22 = .ok (.ifCond .ne 9, 3) := by decide +kernel
theorem dX5_groupsWithin_25 : decode cX5_groupsWithin 25 = .ok (.iload_n 2, 1) := by decide +kernel
theorem dX5_groupsWithin_26 : decode cX5_groupsWithin 26 = .ok (.iconst 1, 1) := by decide +kernel
theorem dX5_groupsWithin_27 : decode cX5_groupsWithin 27 = .ok (.iload_n 3, 1) := by decide +kernel
theorem dX5_groupsWithin_28 : decode cX5_groupsWithin 28 = .ok (.ishl, 1) := by decide +kernel
theorem dX5_groupsWithin_29 : decode cX5_groupsWithin 29 = .ok (.ior, 1) := by decide +kernel
theorem dX5_groupsWithin_30 : decode cX5_groupsWithin 30 = .ok (.istore_n 2, 1) := by decide +kernel
theorem dX5_groupsWithin_31 : decode cX5_groupsWithin 31 = .ok (.iinc 3 1, 3) := by decide +kernel
theorem dX5_groupsWithin_34 : decode cX5_groupsWithin 34 = .ok (.goto (-30), 3) := by decide +kernel
theorem dX5_groupsWithin_37 : decode cX5_groupsWithin 37 = .ok (.iload_n 2, 1) := by decide +kernel
theorem dX5_groupsWithin_38 : decode cX5_groupsWithin 38 = .ok (.ireturn, 1) := by decide +kernel
theorem dX6_has_0 : decode cX6_has 0 = .ok (.iload_n 0, 1) := by decide +kernel
theorem dX6_has_1 : decode cX6_has 1 = .ok (.iload_n 1, 1) := by decide +kernel
theorem dX6_has_2 : decode cX6_has 2 = .ok (.ishr, 1) := by decide +kernel
theorem dX6_has_3 : decode cX6_has 3 = .ok (.iconst 1, 1) := by decide +kernel
theorem dX6_has_4 : decode cX6_has 4 = .ok (.iand, 1) := by decide +kernel
theorem dX6_has_5 : decode cX6_has 5 = .ok (.ifCond .eq 7, 3) := by decide +kernel
theorem dX6_has_8 : decode cX6_has 8 = .ok (.iconst 1, 1) := by decide +kernel
theorem dX6_has_9 : decode cX6_has 9 = .ok (.goto 4, 3) := by decide +kernel
theorem dX6_has_12 : decode cX6_has 12 = .ok (.iconst 0, 1) := by decide +kernel
theorem dX6_has_13 : decode cX6_has 13 = .ok (.ireturn, 1) := by decide +kernel
theorem dX6_first_0 : decode cX6_first 0 = .ok (.iconst 1, 1) := by decide +kernel
theorem dX6_first_1 : decode cX6_first 1 = .ok (.iload_n 0, 1) := by decide +kernel
theorem dX6_first_2 : decode cX6_first 2 = .ok (.ishl, 1) := by decide +kernel
theorem dX6_first_3 : decode cX6_first 3 = .ok (.iconst 1, 1) := by decide +kernel
theorem dX6_first_4 : decode cX6_first 4 = .ok (.isub, 1) := by decide +kernel
theorem dX6_first_5 : decode cX6_first 5 = .ok (.ireturn, 1) := by decide +kernel
theorem dX6_least_0 : decode cX6_least 0 = .ok (.iload_n 0, 1) := by decide +kernel
theorem dX6_least_1 : decode cX6_least 1 = .ok (.iconst 0, 1) := by decide +kernel
theorem dX6_least_2 : decode cX6_least 2 = .ok (.invokestatic 9, 3) := by decide +kernel
theorem dX6_least_5 : decode cX6_least 5 = .ok (.ireturn, 1) := by decide +kernel
theorem dX6_nth_0 : decode cX6_nth 0 = .ok (.iconst 0, 1) := by decide +kernel
theorem dX6_nth_1 : decode cX6_nth 1 = .ok (.istore_n 2, 1) := by decide +kernel
theorem dX6_nth_2 : decode cX6_nth 2 = .ok (.iconst 0, 1) := by decide +kernel
theorem dX6_nth_3 : decode cX6_nth 3 = .ok (.istore_n 3, 1) := by decide +kernel
theorem dX6_nth_4 : decode cX6_nth 4 = .ok (.iload_n 3, 1) := by decide +kernel
theorem dX6_nth_5 : decode cX6_nth 5 = .ok (.bipush 24, 2) := by decide +kernel
theorem dX6_nth_7 : decode cX6_nth 7 = .ok (.if_icmp .ge 27, 3) := by decide +kernel
theorem dX6_nth_10 : decode cX6_nth 10 = .ok (.iload_n 0, 1) := by decide +kernel
theorem dX6_nth_11 : decode cX6_nth 11 = .ok (.iload_n 3, 1) := by decide +kernel
theorem dX6_nth_12 : decode cX6_nth 12 = .ok (.invokestatic 15, 3) := by decide +kernel
theorem dX6_nth_15 : decode cX6_nth 15 = .ok (.ifCond .eq 13, 3) := by decide +kernel
theorem dX6_nth_18 : decode cX6_nth 18 = .ok (.iload_n 2, 1) := by decide +kernel
theorem dX6_nth_19 : decode cX6_nth 19 = .ok (.iload_n 1, 1) := by decide +kernel
theorem dX6_nth_20 : decode cX6_nth 20 = .ok (.if_icmp .ne 5, 3) := by decide +kernel
theorem dX6_nth_23 : decode cX6_nth 23 = .ok (.iload_n 3, 1) := by decide +kernel
theorem dX6_nth_24 : decode cX6_nth 24 = .ok (.ireturn, 1) := by decide +kernel
theorem dX6_nth_25 : decode cX6_nth 25 = .ok (.iinc 2 1, 3) := by decide +kernel
theorem dX6_nth_28 : decode cX6_nth 28 = .ok (.iinc 3 1, 3) := by decide +kernel
theorem dX6_nth_31 : decode cX6_nth 31 = .ok (.goto (-27), 3) := by decide +kernel
theorem dX6_nth_34 : decode cX6_nth 34 = .ok (.iconst (-1), 1) := by decide +kernel
theorem dX6_nth_35 : decode cX6_nth 35 = .ok (.ireturn, 1) := by decide +kernel
theorem dX6_lowest_0 : decode cX6_lowest 0 = .ok (.sipush 1024, 3) := by decide +kernel
theorem dX6_lowest_3 : decode cX6_lowest 3 = .ok (.istore_n 2, 1) := by decide +kernel
theorem dX6_lowest_4 : decode cX6_lowest 4 = .ok (.iconst 0, 1) := by decide +kernel
theorem dX6_lowest_5 : decode cX6_lowest 5 = .ok (.istore_n 3, 1) := by decide +kernel
theorem dX6_lowest_6 : decode cX6_lowest 6 = .ok (.iload_n 3, 1) := by decide +kernel
theorem dX6_lowest_7 : decode cX6_lowest 7 = .ok (.aload_n 0, 1) := by decide +kernel
theorem dX6_lowest_8 : decode cX6_lowest 8 = .ok (.arraylength, 1) := by decide +kernel
theorem dX6_lowest_9 : decode cX6_lowest 9 = .ok (.if_icmp .ge 25, 3) := by decide +kernel
theorem dX6_lowest_12 : decode cX6_lowest 12 = .ok (.iload_n 1, 1) := by decide +kernel
theorem dX6_lowest_13 : decode cX6_lowest 13 = .ok (.iload_n 3, 1) := by decide +kernel
theorem dX6_lowest_14 : decode cX6_lowest 14 = .ok (.invokestatic 15, 3) := by decide +kernel
theorem dX6_lowest_17 : decode cX6_lowest 17 = .ok (.ifCond .eq 11, 3) := by decide +kernel
theorem dX6_lowest_20 : decode cX6_lowest 20 = .ok (.iload_n 2, 1) := by decide +kernel
theorem dX6_lowest_21 : decode cX6_lowest 21 = .ok (.aload_n 0, 1) := by decide +kernel
theorem dX6_lowest_22 : decode cX6_lowest 22 = .ok (.iload_n 3, 1) := by decide +kernel
theorem dX6_lowest_23 : decode cX6_lowest 23 = .ok (.iaload, 1) := by decide +kernel
theorem dX6_lowest_24 : decode cX6_lowest 24 = .ok (.invokestatic 19, 3) := by decide +kernel
theorem dX6_lowest_27 : decode cX6_lowest 27 = .ok (.istore_n 2, 1) := by decide +kernel
theorem dX6_lowest_28 : decode cX6_lowest 28 = .ok (.iinc 3 1, 3) := by decide +kernel
theorem dX6_lowest_31 : decode cX6_lowest 31 = .ok (.goto (-25), 3) := by decide +kernel
theorem dX6_lowest_34 : decode cX6_lowest 34 = .ok (.iload_n 2, 1) := by decide +kernel
theorem dX6_lowest_35 : decode cX6_lowest 35 = .ok (.ireturn, 1) := by decide +kernel
theorem dX6_highest_0 : decode cX6_highest 0 = .ok (.iconst (-1), 1) := by decide +kernel
theorem dX6_highest_1 : decode cX6_highest 1 = .ok (.istore_n 2, 1) := by decide +kernel
theorem dX6_highest_2 : decode cX6_highest 2 = .ok (.iconst 0, 1) := by decide +kernel
theorem dX6_highest_3 : decode cX6_highest 3 = .ok (.istore_n 3, 1) := by decide +kernel
theorem dX6_highest_4 : decode cX6_highest 4 = .ok (.iload_n 3, 1) := by decide +kernel
theorem dX6_highest_5 : decode cX6_highest 5 = .ok (.aload_n 0, 1) := by decide +kernel
theorem dX6_highest_6 : decode cX6_highest 6 = .ok (.arraylength, 1) := by decide +kernel
theorem dX6_highest_7 : decode cX6_highest 7 = .ok (.if_icmp .ge 25, 3) := by decide +kernel
theorem dX6_highest_10 : decode cX6_highest 10 = .ok (.iload_n 1, 1) := by decide +kernel
theorem dX6_highest_11 : decode cX6_highest 11 = .ok (.iload_n 3, 1) := by decide +kernel
theorem dX6_highest_12 : decode cX6_highest 12 = .ok (.invokestatic 15, 3) := by decide +kernel
theorem dX6_highest_15 : decode cX6_highest 15 = .ok (.ifCond .eq 11, 3) := by decide +kernel
theorem dX6_highest_18 : decode cX6_highest 18 = .ok (.iload_n 2, 1) := by decide +kernel
theorem dX6_highest_19 : decode cX6_highest 19 = .ok (.aload_n 0, 1) := by decide +kernel
theorem dX6_highest_20 : decode cX6_highest 20 = .ok (.iload_n 3, 1) := by decide +kernel
theorem dX6_highest_21 : decode cX6_highest 21 = .ok (.iaload, 1) := by decide +kernel
theorem dX6_highest_22 : decode cX6_highest 22 = .ok (.invokestatic 24, 3) := by decide +kernel
theorem dX6_highest_25 : decode cX6_highest 25 = .ok (.istore_n 2, 1) := by decide +kernel
theorem dX6_highest_26 : decode cX6_highest 26 = .ok (.iinc 3 1, 3) := by decide +kernel
theorem dX6_highest_29 : decode cX6_highest 29 = .ok (.goto (-25), 3) := by decide +kernel
theorem dX6_highest_32 : decode cX6_highest 32 = .ok (.iload_n 2, 1) := by decide +kernel
theorem dX6_highest_33 : decode cX6_highest 33 = .ok (.ireturn, 1) := by decide +kernel
theorem dX6_root_0 : decode cX6_root 0 = .ok (.iconst 0, 1) := by decide +kernel
theorem dX6_root_1 : decode cX6_root 1 = .ok (.istore_n 1, 1) := by decide +kernel
theorem dX6_root_2 : decode cX6_root 2 = .ok (.bipush 10, 2) := by decide +kernel
theorem dX6_root_4 : decode cX6_root 4 = .ok (.istore_n 2, 1) := by decide +kernel
theorem dX6_root_5 : decode cX6_root 5 = .ok (.iload_n 2, 1) := by decide +kernel
theorem dX6_root_6 : decode cX6_root 6 = .ok (.ifCond .lt 24, 3) := by decide +kernel
theorem dX6_root_9 : decode cX6_root 9 = .ok (.iload_n 1, 1) := by decide +kernel
theorem dX6_root_10 : decode cX6_root 10 = .ok (.iconst 1, 1) := by decide +kernel
theorem dX6_root_11 : decode cX6_root 11 = .ok (.iload_n 2, 1) := by decide +kernel
theorem dX6_root_12 : decode cX6_root 12 = .ok (.ishl, 1) := by decide +kernel
theorem dX6_root_13 : decode cX6_root 13 = .ok (.iadd, 1) := by decide +kernel
theorem dX6_root_14 : decode cX6_root 14 = .ok (.istore_n 3, 1) := by decide +kernel
theorem dX6_root_15 : decode cX6_root 15 = .ok (.iload_n 3, 1) := by decide +kernel
theorem dX6_root_16 : decode cX6_root 16 = .ok (.iload_n 3, 1) := by decide +kernel
theorem dX6_root_17 : decode cX6_root 17 = .ok (.imul, 1) := by decide +kernel
theorem dX6_root_18 : decode cX6_root 18 = .ok (.iload_n 0, 1) := by decide +kernel
theorem dX6_root_19 : decode cX6_root 19 = .ok (.if_icmp .gt 5, 3) := by decide +kernel
theorem dX6_root_22 : decode cX6_root 22 = .ok (.iload_n 3, 1) := by decide +kernel
theorem dX6_root_23 : decode cX6_root 23 = .ok (.istore_n 1, 1) := by decide +kernel
theorem dX6_root_24 : decode cX6_root 24 = .ok (.iinc 2 (-1), 3) := by decide +kernel
theorem dX6_root_27 : decode cX6_root 27 = .ok (.goto (-22), 3) := by decide +kernel
theorem dX6_root_30 : decode cX6_root 30 = .ok (.iload_n 1, 1) := by decide +kernel
theorem dX6_root_31 : decode cX6_root 31 = .ok (.ireturn, 1) := by decide +kernel
theorem dX7_init_0 : decode cX7_init 0 = .ok (.aload_n 0, 1) := by decide +kernel
theorem dX7_init_1 : decode cX7_init 1 = .ok (.invokespecial 3, 3) := by decide +kernel
theorem dX7_init_4 : decode cX7_init 4 = .ok (.aload_n 0, 1) := by decide +kernel
theorem dX7_init_5 : decode cX7_init 5 = .ok (.bipush 24, 2) := by decide +kernel
theorem dX7_init_7 : decode cX7_init 7 = .ok (.bipush 24, 2) := by decide +kernel
theorem dX7_init_9 : decode cX7_init 9 = .ok (.multianewarray 9 2, 4) := by decide +kernel
theorem dX7_init_13 : decode cX7_init 13 = .ok (.putfield 11, 3) := by decide +kernel
theorem dX7_init_16 : decode cX7_init 16 = .ok (.return_, 1) := by decide +kernel
theorem dX8_init_0 : decode cX8_init 0 = .ok (.aload_n 0, 1) := by decide +kernel
theorem dX8_init_1 : decode cX8_init 1 = .ok (.invokespecial 3, 3) := by decide +kernel
theorem dX8_init_4 : decode cX8_init 4 = .ok (.aload_n 0, 1) := by decide +kernel
theorem dX8_init_5 : decode cX8_init 5 = .ok (.new 9, 3) := by decide +kernel
theorem dX8_init_8 : decode cX8_init 8 = .ok (.dup, 1) := by decide +kernel
theorem dX8_init_9 : decode cX8_init 9 = .ok (.invokespecial 11, 3) := by decide +kernel
theorem dX8_init_12 : decode cX8_init 12 = .ok (.putfield 12, 3) := by decide +kernel
theorem dX8_init_15 : decode cX8_init 15 = .ok (.aload_n 0, 1) := by decide +kernel
theorem dX8_init_16 : decode cX8_init 16 = .ok (.new 9, 3) := by decide +kernel
theorem dX8_init_19 : decode cX8_init 19 = .ok (.dup, 1) := by decide +kernel
theorem dX8_init_20 : decode cX8_init 20 = .ok (.invokespecial 11, 3) := by decide +kernel
theorem dX8_init_23 : decode cX8_init 23 = .ok (.putfield 16, 3) := by decide +kernel
theorem dX8_init_26 : decode cX8_init 26 = .ok (.aload_n 0, 1) := by decide +kernel
theorem dX8_init_27 : decode cX8_init 27 = .ok (.new 9, 3) := by decide +kernel
theorem dX8_init_30 : decode cX8_init 30 = .ok (.dup, 1) := by decide +kernel
theorem dX8_init_31 : decode cX8_init 31 = .ok (.invokespecial 11, 3) := by decide +kernel
theorem dX8_init_34 : decode cX8_init 34 = .ok (.putfield 19, 3) := by decide +kernel
theorem dX8_init_37 : decode cX8_init 37 = .ok (.aload_n 0, 1) := by decide +kernel
theorem dX8_init_38 : decode cX8_init 38 = .ok (.new 22, 3) := by decide +kernel
theorem dX8_init_41 : decode cX8_init 41 = .ok (.dup, 1) := by decide +kernel
theorem dX8_init_42 : decode cX8_init 42 = .ok (.invokespecial 24, 3) := by decide +kernel
theorem dX8_init_45 : decode cX8_init 45 = .ok (.putfield 25, 3) := by decide +kernel
theorem dX8_init_48 : decode cX8_init 48 = .ok (.aload_n 0, 1) := by decide +kernel
theorem dX8_init_49 : decode cX8_init 49 = .ok (.new 22, 3) := by decide +kernel
theorem dX8_init_52 : decode cX8_init 52 = .ok (.dup, 1) := by decide +kernel
theorem dX8_init_53 : decode cX8_init 53 = .ok (.invokespecial 24, 3) := by decide +kernel
theorem dX8_init_56 : decode cX8_init 56 = .ok (.putfield 29, 3) := by decide +kernel
theorem dX8_init_59 : decode cX8_init 59 = .ok (.aload_n 0, 1) := by decide +kernel
theorem dX8_init_60 : decode cX8_init 60 = .ok (.new 32, 3) := by decide +kernel
theorem dX8_init_63 : decode cX8_init 63 = .ok (.dup, 1) := by decide +kernel
theorem dX8_init_64 : decode cX8_init 64 = .ok (.invokespecial 34, 3) := by decide +kernel
theorem dX8_init_67 : decode cX8_init 67 = .ok (.putfield 35, 3) := by decide +kernel
theorem dX8_init_70 : decode cX8_init 70 = .ok (.aload_n 0, 1) := by decide +kernel
theorem dX8_init_71 : decode cX8_init 71 = .ok (.new 39, 3) := by decide +kernel
theorem dX8_init_74 : decode cX8_init 74 = .ok (.dup, 1) := by decide +kernel
theorem dX8_init_75 : decode cX8_init 75 = .ok (.invokespecial 41, 3) := by decide +kernel
theorem dX8_init_78 : decode cX8_init 78 = .ok (.putfield 42, 3) := by decide +kernel
theorem dX8_init_81 : decode cX8_init 81 = .ok (.aload_n 0, 1) := by decide +kernel
theorem dX8_init_82 : decode cX8_init 82 = .ok (.new 46, 3) := by decide +kernel
theorem dX8_init_85 : decode cX8_init 85 = .ok (.dup, 1) := by decide +kernel
theorem dX8_init_86 : decode cX8_init 86 = .ok (.invokespecial 48, 3) := by decide +kernel
theorem dX8_init_89 : decode cX8_init 89 = .ok (.putfield 49, 3) := by decide +kernel
theorem dX8_init_92 : decode cX8_init 92 = .ok (.aload_n 0, 1) := by decide +kernel
theorem dX8_init_93 : decode cX8_init 93 = .ok (.new 53, 3) := by decide +kernel
theorem dX8_init_96 : decode cX8_init 96 = .ok (.dup, 1) := by decide +kernel
theorem dX8_init_97 : decode cX8_init 97 = .ok (.invokespecial 55, 3) := by decide +kernel
theorem dX8_init_100 : decode cX8_init 100 = .ok (.putfield 56, 3) := by decide +kernel
theorem dX8_init_103 : decode cX8_init 103 = .ok (.aload_n 0, 1) := by decide +kernel
theorem dX8_init_104 : decode cX8_init 104 = .ok (.bipush 24, 2) := by decide +kernel
theorem dX8_init_106 : decode cX8_init 106 = .ok (.newarray .int, 2) := by decide +kernel
theorem dX8_init_108 : decode cX8_init 108 = .ok (.putfield 60, 3) := by decide +kernel
theorem dX8_init_111 : decode cX8_init 111 = .ok (.aload_n 0, 1) := by decide +kernel
theorem dX8_init_112 : decode cX8_init 112 = .ok (.bipush 64, 2) := by decide +kernel
theorem dX8_init_114 : decode cX8_init 114 = .ok (.putfield 64, 3) := by decide +kernel
theorem dX8_init_117 : decode cX8_init 117 = .ok (.aload_n 0, 1) := by decide +kernel
theorem dX8_init_118 : decode cX8_init 118 = .ok (.iconst 0, 1) := by decide +kernel
theorem dX8_init_119 : decode cX8_init 119 = .ok (.putfield 68, 3) := by decide +kernel
theorem dX8_init_122 : decode cX8_init 122 = .ok (.return_, 1) := by decide +kernel
theorem dX8_add_0 : decode cX8_add 0 = .ok (.iload_n 3, 1) := by decide +kernel
theorem dX8_add_1 : decode cX8_add 1 = .ok (.invokestatic 71, 3) := by decide +kernel
theorem dX8_add_4 : decode cX8_add 4 = .ok (.ifCond .eq 18, 3) := by decide +kernel
theorem dX8_add_7 : decode cX8_add 7 = .ok (.aload_n 0, 1) := by decide +kernel
theorem dX8_add_8 : decode cX8_add 8 = .ok (.getfield 12, 3) := by decide +kernel
theorem dX8_add_11 : decode cX8_add 11 = .ok (.getfield 75, 3) := by decide +kernel
theorem dX8_add_14 : decode cX8_add 14 = .ok (.iload_n 1, 1) := by decide +kernel
theorem dX8_add_15 : decode cX8_add 15 = .ok (.iload_n 2, 1) := by decide +kernel
theorem dX8_add_16 : decode cX8_add 16 = .ok (.invokevirtual 79, 3) := by decide +kernel
theorem dX8_add_19 : decode cX8_add 19 = .ok (.ifCond .ne 5, 3) := by decide +kernel
theorem dX8_add_22 : decode cX8_add 22 = .ok (.iconst (-1), 1) := by decide +kernel
theorem dX8_add_23 : decode cX8_add 23 = .ok (.ireturn, 1) := by decide +kernel
theorem dX8_add_24 : decode cX8_add 24 = .ok (.aload_n 0, 1) := by decide +kernel
theorem dX8_add_25 : decode cX8_add 25 = .ok (.invokevirtual 85, 3) := by decide +kernel
theorem dX8_add_28 : decode cX8_add 28 = .ok (.aload_n 0, 1) := by decide +kernel
theorem dX8_add_29 : decode cX8_add 29 = .ok (.getfield 12, 3) := by decide +kernel
theorem dX8_add_32 : decode cX8_add 32 = .ok (.getfield 75, 3) := by decide +kernel
theorem dX8_add_35 : decode cX8_add 35 = .ok (.iload_n 1, 1) := by decide +kernel
theorem dX8_add_36 : decode cX8_add 36 = .ok (.iload_n 2, 1) := by decide +kernel
theorem dX8_add_37 : decode cX8_add 37 = .ok (.iload_n 3, 1) := by decide +kernel
theorem dX8_add_38 : decode cX8_add 38 = .ok (.invokevirtual 88, 3) := by decide +kernel
theorem dX8_add_41 : decode cX8_add 41 = .ok (.aload_n 0, 1) := by decide +kernel
theorem dX8_add_42 : decode cX8_add 42 = .ok (.getfield 12, 3) := by decide +kernel
theorem dX8_add_45 : decode cX8_add 45 = .ok (.invokevirtual 92, 3) := by decide +kernel
theorem dX8_add_48 : decode cX8_add 48 = .ok (.aload_n 0, 1) := by decide +kernel
theorem dX8_add_49 : decode cX8_add 49 = .ok (.getfield 12, 3) := by decide +kernel
theorem dX8_add_52 : decode cX8_add 52 = .ok (.aload_n 0, 1) := by decide +kernel
theorem dX8_add_53 : decode cX8_add 53 = .ok (.getfield 16, 3) := by decide +kernel
theorem dX8_add_56 : decode cX8_add 56 = .ok (.invokevirtual 95, 3) := by decide +kernel
theorem dX8_add_59 : decode cX8_add 59 = .ok (.ireturn, 1) := by decide +kernel
theorem dX8_take_0 : decode cX8_take 0 = .ok (.aload_n 0, 1) := by decide +kernel
theorem dX8_take_1 : decode cX8_take 1 = .ok (.iload_n 1, 1) := by decide +kernel
theorem dX8_take_2 : decode cX8_take 2 = .ok (.invokevirtual 99, 3) := by decide +kernel
theorem dX8_take_5 : decode cX8_take 5 = .ok (.ifCond .ne 5, 3) := by decide +kernel
theorem dX8_take_8 : decode cX8_take 8 = .ok (.iconst (-1), 1) := by decide +kernel
theorem dX8_take_9 : decode cX8_take 9 = .ok (.ireturn, 1) := by decide +kernel
theorem dX8_take_10 : decode cX8_take 10 = .ok (.aload_n 0, 1) := by decide +kernel
theorem dX8_take_11 : decode cX8_take 11 = .ok (.invokevirtual 85, 3) := by decide +kernel
theorem dX8_take_14 : decode cX8_take 14 = .ok (.aload_n 0, 1) := by decide +kernel
theorem dX8_take_15 : decode cX8_take 15 = .ok (.getfield 12, 3) := by decide +kernel
theorem dX8_take_18 : decode cX8_take 18 = .ok (.getfield 75, 3) := by decide +kernel
theorem dX8_take_21 : decode cX8_take 21 = .ok (.iload_n 1, 1) := by decide +kernel
theorem dX8_take_22 : decode cX8_take 22 = .ok (.invokevirtual 102, 3) := by decide +kernel
theorem dX8_take_25 : decode cX8_take 25 = .ok (.aload_n 0, 1) := by decide +kernel
theorem dX8_take_26 : decode cX8_take 26 = .ok (.getfield 12, 3) := by decide +kernel
theorem dX8_take_29 : decode cX8_take 29 = .ok (.invokevirtual 92, 3) := by decide +kernel
theorem dX8_take_32 : decode cX8_take 32 = .ok (.aload_n 0, 1) := by decide +kernel
theorem dX8_take_33 : decode cX8_take 33 = .ok (.getfield 12, 3) := by decide +kernel
theorem dX8_take_36 : decode cX8_take 36 = .ok (.aload_n 0, 1) := by decide +kernel
theorem dX8_take_37 : decode cX8_take 37 = .ok (.getfield 16, 3) := by decide +kernel
theorem dX8_take_40 : decode cX8_take 40 = .ok (.invokevirtual 95, 3) := by decide +kernel
theorem dX8_take_43 : decode cX8_take 43 = .ok (.ireturn, 1) := by decide +kernel
theorem dX8_point_0 : decode cX8_point 0 = .ok (.aload_n 0, 1) := by decide +kernel
theorem dX8_point_1 : decode cX8_point 1 = .ok (.iload_n 1, 1) := by decide +kernel
theorem dX8_point_2 : decode cX8_point 2 = .ok (.invokevirtual 99, 3) := by decide +kernel
theorem dX8_point_5 : decode cX8_point 5 = .ok (.ifCond .ne 5, 3) := by decide +kernel
theorem dX8_point_8 : decode cX8_point 8 = .ok (.iconst (-1), 1) := by decide +kernel
theorem dX8_point_9 : decode cX8_point 9 = .ok (.ireturn, 1) := by decide +kernel
theorem dX8_point_10 : decode cX8_point 10 = .ok (.aload_n 0, 1) := by decide +kernel
theorem dX8_point_11 : decode cX8_point 11 = .ok (.getfield 12, 3) := by decide +kernel
theorem dX8_point_14 : decode cX8_point 14 = .ok (.getfield 75, 3) := by decide +kernel
theorem dX8_point_17 : decode cX8_point 17 = .ok (.astore_n 3, 1) := by decide +kernel
theorem dX8_point_18 : decode cX8_point 18 = .ok (.iload_n 2, 1) := by decide +kernel
theorem dX8_point_19 : decode cX8_point 19 = .ok (.tableswitch 79 0 5 #[37, 44, 51, 58, 64, 70], 37) := by decide +kernel
theorem dX8_point_56 : decode cX8_point 56 = .ok (.aload_n 3, 1) := by decide +kernel
theorem dX8_point_57 : decode cX8_point 57 = .ok (.getfield 116, 3) := by decide +kernel
theorem dX8_point_60 : decode cX8_point 60 = .ok (.iload_n 1, 1) := by decide +kernel
theorem dX8_point_61 : decode cX8_point 61 = .ok (.iaload, 1) := by decide +kernel
theorem dX8_point_62 : decode cX8_point 62 = .ok (.ireturn, 1) := by decide +kernel
theorem dX8_point_63 : decode cX8_point 63 = .ok (.aload_n 3, 1) := by decide +kernel
theorem dX8_point_64 : decode cX8_point 64 = .ok (.getfield 119, 3) := by decide +kernel
theorem dX8_point_67 : decode cX8_point 67 = .ok (.iload_n 1, 1) := by decide +kernel
theorem dX8_point_68 : decode cX8_point 68 = .ok (.iaload, 1) := by decide +kernel
theorem dX8_point_69 : decode cX8_point 69 = .ok (.ireturn, 1) := by decide +kernel
theorem dX8_point_70 : decode cX8_point 70 = .ok (.aload_n 3, 1) := by decide +kernel
theorem dX8_point_71 : decode cX8_point 71 = .ok (.getfield 106, 3) := by decide +kernel
theorem dX8_point_74 : decode cX8_point 74 = .ok (.iload_n 1, 1) := by decide +kernel
theorem dX8_point_75 : decode cX8_point 75 = .ok (.iaload, 1) := by decide +kernel
theorem dX8_point_76 : decode cX8_point 76 = .ok (.ireturn, 1) := by decide +kernel
theorem dX8_point_77 : decode cX8_point 77 = .ok (.aload_n 3, 1) := by decide +kernel
theorem dX8_point_78 : decode cX8_point 78 = .ok (.iload_n 1, 1) := by decide +kernel
theorem dX8_point_79 : decode cX8_point 79 = .ok (.invokevirtual 122, 3) := by decide +kernel
theorem dX8_point_82 : decode cX8_point 82 = .ok (.ireturn, 1) := by decide +kernel
theorem dX8_point_83 : decode cX8_point 83 = .ok (.aload_n 3, 1) := by decide +kernel
theorem dX8_point_84 : decode cX8_point 84 = .ok (.iload_n 1, 1) := by decide +kernel
theorem dX8_point_85 : decode cX8_point 85 = .ok (.invokevirtual 125, 3) := by decide +kernel
theorem dX8_point_88 : decode cX8_point 88 = .ok (.ireturn, 1) := by decide +kernel
theorem dX8_point_89 : decode cX8_point 89 = .ok (.aload_n 0, 1) := by decide +kernel
theorem dX8_point_90 : decode cX8_point 90 = .ok (.getfield 12, 3) := by decide +kernel
theorem dX8_point_93 : decode cX8_point 93 = .ok (.iload_n 1, 1) := by decide +kernel
theorem dX8_point_94 : decode cX8_point 94 = .ok (.invokevirtual 128, 3) := by decide +kernel
theorem dX8_point_97 : decode cX8_point 97 = .ok (.ireturn, 1) := by decide +kernel
theorem dX8_point_98 : decode cX8_point 98 = .ok (.iconst (-1), 1) := by decide +kernel
theorem dX8_point_99 : decode cX8_point 99 = .ok (.ireturn, 1) := by decide +kernel
theorem dX8_at_0 : decode cX8_at 0 = .ok (.aload_n 0, 1) := by decide +kernel
theorem dX8_at_1 : decode cX8_at 1 = .ok (.getfield 12, 3) := by decide +kernel
theorem dX8_at_4 : decode cX8_at 4 = .ok (.getfield 75, 3) := by decide +kernel
theorem dX8_at_7 : decode cX8_at 7 = .ok (.iload_n 1, 1) := by decide +kernel
theorem dX8_at_8 : decode cX8_at 8 = .ok (.iload_n 2, 1) := by decide +kernel
theorem dX8_at_9 : decode cX8_at 9 = .ok (.invokevirtual 131, 3) := by decide +kernel
theorem dX8_at_12 : decode cX8_at 12 = .ok (.ireturn, 1) := by decide +kernel
theorem dX8_join_0 : decode cX8_join 0 = .ok (.iload_n 1, 1) := by decide +kernel
theorem dX8_join_1 : decode cX8_join 1 = .ok (.ifCond .lt 14, 3) := by decide +kernel
theorem dX8_join_4 : decode cX8_join 4 = .ok (.iload_n 1, 1) := by decide +kernel
theorem dX8_join_5 : decode cX8_join 5 = .ok (.aload_n 0, 1) := by decide +kernel
theorem dX8_join_6 : decode cX8_join 6 = .ok (.getfield 12, 3) := by decide +kernel
theorem dX8_join_9 : decode cX8_join 9 = .ok (.getfield 145, 3) := by decide +kernel
theorem dX8_join_12 : decode cX8_join 12 = .ok (.if_icmp .lt 5, 3) := by decide +kernel
theorem dX8_join_15 : decode cX8_join 15 = .ok (.iconst (-1), 1) := by decide +kernel
theorem dX8_join_16 : decode cX8_join 16 = .ok (.ireturn, 1) := by decide +kernel
theorem dX8_join_17 : decode cX8_join 17 = .ok (.iload_n 2, 1) := by decide +kernel
theorem dX8_join_18 : decode cX8_join 18 = .ok (.tableswitch 184 0 9 #[54, 64, 74, 84, 97, 117, 127, 137, 147, 159], 54) := by decide +kernel
theorem dX8_join_72 : decode cX8_join 72 = .ok (.aload_n 0, 1) := by decide +kernel
theorem dX8_join_73 : decode cX8_join 73 = .ok (.getfield 12, 3) := by decide +kernel
theorem dX8_join_76 : decode cX8_join 76 = .ok (.getfield 146, 3) := by decide +kernel
theorem dX8_join_79 : decode cX8_join 79 = .ok (.iload_n 1, 1) := by decide +kernel
theorem dX8_join_80 : decode cX8_join 80 = .ok (.iaload, 1) := by decide +kernel
theorem dX8_join_81 : decode cX8_join 81 = .ok (.ireturn, 1) := by decide +kernel
theorem dX8_join_82 : decode cX8_join 82 = .ok (.aload_n 0, 1) := by decide +kernel
theorem dX8_join_83 : decode cX8_join 83 = .ok (.getfield 12, 3) := by decide +kernel
theorem dX8_join_86 : decode cX8_join 86 = .ok (.getfield 149, 3) := by decide +kernel
theorem dX8_join_89 : decode cX8_join 89 = .ok (.iload_n 1, 1) := by decide +kernel
theorem dX8_join_90 : decode cX8_join 90 = .ok (.iaload, 1) := by decide +kernel
theorem dX8_join_91 : decode cX8_join 91 = .ok (.ireturn, 1) := by decide +kernel
theorem dX8_join_92 : decode cX8_join 92 = .ok (.aload_n 0, 1) := by decide +kernel
theorem dX8_join_93 : decode cX8_join 93 = .ok (.getfield 12, 3) := by decide +kernel
theorem dX8_join_96 : decode cX8_join 96 = .ok (.getfield 152, 3) := by decide +kernel
theorem dX8_join_99 : decode cX8_join 99 = .ok (.iload_n 1, 1) := by decide +kernel
theorem dX8_join_100 : decode cX8_join 100 = .ok (.iaload, 1) := by decide +kernel
theorem dX8_join_101 : decode cX8_join 101 = .ok (.ireturn, 1) := by decide +kernel
theorem dX8_join_102 : decode cX8_join 102 = .ok (.aload_n 0, 1) := by decide +kernel
theorem dX8_join_103 : decode cX8_join 103 = .ok (.getfield 12, 3) := by decide +kernel
theorem dX8_join_106 : decode cX8_join 106 = .ok (.getfield 155, 3) := by decide +kernel
theorem dX8_join_109 : decode cX8_join 109 = .ok (.iload_n 1, 1) := by decide +kernel
theorem dX8_join_110 : decode cX8_join 110 = .ok (.iaload, 1) := by decide +kernel
theorem dX8_join_111 : decode cX8_join 111 = .ok (.invokestatic 158, 3) := by decide +kernel
theorem dX8_join_114 : decode cX8_join 114 = .ok (.ireturn, 1) := by decide +kernel
theorem dX8_join_115 : decode cX8_join 115 = .ok (.aload_n 0, 1) := by decide +kernel
theorem dX8_join_116 : decode cX8_join 116 = .ok (.getfield 12, 3) := by decide +kernel
theorem dX8_join_119 : decode cX8_join 119 = .ok (.getfield 75, 3) := by decide +kernel
theorem dX8_join_122 : decode cX8_join 122 = .ok (.aload_n 0, 1) := by decide +kernel
theorem dX8_join_123 : decode cX8_join 123 = .ok (.getfield 12, 3) := by decide +kernel
theorem dX8_join_126 : decode cX8_join 126 = .ok (.getfield 155, 3) := by decide +kernel
theorem dX8_join_129 : decode cX8_join 129 = .ok (.iload_n 1, 1) := by decide +kernel
theorem dX8_join_130 : decode cX8_join 130 = .ok (.iaload, 1) := by decide +kernel
theorem dX8_join_131 : decode cX8_join 131 = .ok (.invokevirtual 163, 3) := by decide +kernel
theorem dX8_join_134 : decode cX8_join 134 = .ok (.ireturn, 1) := by decide +kernel
theorem dX8_join_135 : decode cX8_join 135 = .ok (.aload_n 0, 1) := by decide +kernel
theorem dX8_join_136 : decode cX8_join 136 = .ok (.getfield 12, 3) := by decide +kernel
theorem dX8_join_139 : decode cX8_join 139 = .ok (.getfield 166, 3) := by decide +kernel
theorem dX8_join_142 : decode cX8_join 142 = .ok (.iload_n 1, 1) := by decide +kernel
theorem dX8_join_143 : decode cX8_join 143 = .ok (.iaload, 1) := by decide +kernel
theorem dX8_join_144 : decode cX8_join 144 = .ok (.ireturn, 1) := by decide +kernel
theorem dX8_join_145 : decode cX8_join 145 = .ok (.aload_n 0, 1) := by decide +kernel
theorem dX8_join_146 : decode cX8_join 146 = .ok (.getfield 12, 3) := by decide +kernel
theorem dX8_join_149 : decode cX8_join 149 = .ok (.getfield 169, 3) := by decide +kernel
theorem dX8_join_152 : decode cX8_join 152 = .ok (.iload_n 1, 1) := by decide +kernel
theorem dX8_join_153 : decode cX8_join 153 = .ok (.iaload, 1) := by decide +kernel
theorem dX8_join_154 : decode cX8_join 154 = .ok (.ireturn, 1) := by decide +kernel
theorem dX8_join_155 : decode cX8_join 155 = .ok (.aload_n 0, 1) := by decide +kernel
theorem dX8_join_156 : decode cX8_join 156 = .ok (.getfield 12, 3) := by decide +kernel
theorem dX8_join_159 : decode cX8_join 159 = .ok (.getfield 172, 3) := by decide +kernel
theorem dX8_join_162 : decode cX8_join 162 = .ok (.iload_n 1, 1) := by decide +kernel
theorem dX8_join_163 : decode cX8_join 163 = .ok (.iaload, 1) := by decide +kernel
theorem dX8_join_164 : decode cX8_join 164 = .ok (.ireturn, 1) := by decide +kernel
theorem dX8_join_165 : decode cX8_join 165 = .ok (.aload_n 0, 1) := by decide +kernel
theorem dX8_join_166 : decode cX8_join 166 = .ok (.getfield 12, 3) := by decide +kernel
theorem dX8_join_169 : decode cX8_join 169 = .ok (.bipush 100, 2) := by decide +kernel
theorem dX8_join_171 : decode cX8_join 171 = .ok (.iload_n 1, 1) := by decide +kernel
theorem dX8_join_172 : decode cX8_join 172 = .ok (.iadd, 1) := by decide +kernel
theorem dX8_join_173 : decode cX8_join 173 = .ok (.invokevirtual 175, 3) := by decide +kernel
theorem dX8_join_176 : decode cX8_join 176 = .ok (.ireturn, 1) := by decide +kernel
theorem dX8_join_177 : decode cX8_join 177 = .ok (.aload_n 0, 1) := by decide +kernel
theorem dX8_join_178 : decode cX8_join 178 = .ok (.getfield 16, 3) := by decide +kernel
theorem dX8_join_181 : decode cX8_join 181 = .ok (.aload_n 0, 1) := by decide +kernel
theorem dX8_join_182 : decode cX8_join 182 = .ok (.getfield 12, 3) := by decide +kernel
theorem dX8_join_185 : decode cX8_join 185 = .ok (.getfield 178, 3) := by decide +kernel
theorem dX8_join_188 : decode cX8_join 188 = .ok (.iload_n 1, 1) := by decide +kernel
theorem dX8_join_189 : decode cX8_join 189 = .ok (.laload, 1) := by decide +kernel
theorem dX8_join_190 : decode cX8_join 190 = .ok (.invokevirtual 182, 3) := by decide +kernel
theorem dX8_join_193 : decode cX8_join 193 = .ok (.ifCond .eq 7, 3) := by decide +kernel
theorem dX8_join_196 : decode cX8_join 196 = .ok (.iconst 0, 1) := by decide +kernel
theorem dX8_join_197 : decode cX8_join 197 = .ok (.goto 4, 3) := by decide +kernel
theorem dX8_join_200 : decode cX8_join 200 = .ok (.iconst 1, 1) := by decide +kernel
theorem dX8_join_201 : decode cX8_join 201 = .ok (.ireturn, 1) := by decide +kernel
theorem dX8_join_202 : decode cX8_join 202 = .ok (.iconst (-1), 1) := by decide +kernel
theorem dX8_join_203 : decode cX8_join 203 = .ok (.ireturn, 1) := by decide +kernel
theorem dX8_groups_0 : decode cX8_groups 0 = .ok (.iload_n 1, 1) := by decide +kernel
theorem dX8_groups_1 : decode cX8_groups 1 = .ok (.invokestatic 203, 3) := by decide +kernel
theorem dX8_groups_4 : decode cX8_groups 4 = .ok (.ifCond .eq 25, 3) := by decide +kernel
theorem dX8_groups_7 : decode cX8_groups 7 = .ok (.aload_n 0, 1) := by decide +kernel
theorem dX8_groups_8 : decode cX8_groups 8 = .ok (.getfield 12, 3) := by decide +kernel
theorem dX8_groups_11 : decode cX8_groups 11 = .ok (.getfield 75, 3) := by decide +kernel
theorem dX8_groups_14 : decode cX8_groups 14 = .ok (.getfield 113, 3) := by decide +kernel
theorem dX8_groups_17 : decode cX8_groups 17 = .ok (.aload_n 0, 1) := by decide +kernel
theorem dX8_groups_18 : decode cX8_groups 18 = .ok (.getfield 12, 3) := by decide +kernel
theorem dX8_groups_21 : decode cX8_groups 21 = .ok (.iload_n 1, 1) := by decide +kernel
theorem dX8_groups_22 : decode cX8_groups 22 = .ok (.invokevirtual 200, 3) := by decide +kernel
theorem dX8_groups_25 : decode cX8_groups 25 = .ok (.isub, 1) := by decide +kernel
theorem dX8_groups_26 : decode cX8_groups 26 = .ok (.goto 4, 3) := by decide +kernel
theorem dX8_groups_29 : decode cX8_groups 29 = .ok (.iconst (-1), 1) := by decide +kernel
theorem dX8_groups_30 : decode cX8_groups 30 = .ok (.ireturn, 1) := by decide +kernel
theorem dX8_groupOf_0 : decode cX8_groupOf 0 = .ok (.iload_n 1, 1) := by decide +kernel
theorem dX8_groupOf_1 : decode cX8_groupOf 1 = .ok (.invokestatic 203, 3) := by decide +kernel
theorem dX8_groupOf_4 : decode cX8_groupOf 4 = .ok (.ifCond .eq 11, 3) := by decide +kernel
theorem dX8_groupOf_7 : decode cX8_groupOf 7 = .ok (.aload_n 0, 1) := by decide +kernel
theorem dX8_groupOf_8 : decode cX8_groupOf 8 = .ok (.iload_n 2, 1) := by decide +kernel
theorem dX8_groupOf_9 : decode cX8_groupOf 9 = .ok (.invokevirtual 99, 3) := by decide +kernel
theorem dX8_groupOf_12 : decode cX8_groupOf 12 = .ok (.ifCond .ne 5, 3) := by decide +kernel
theorem dX8_groupOf_15 : decode cX8_groupOf 15 = .ok (.iconst (-1), 1) := by decide +kernel
theorem dX8_groupOf_16 : decode cX8_groupOf 16 = .ok (.ireturn, 1) := by decide +kernel
theorem dX8_groupOf_17 : decode cX8_groupOf 17 = .ok (.aload_n 0, 1) := by decide +kernel
theorem dX8_groupOf_18 : decode cX8_groupOf 18 = .ok (.getfield 25, 3) := by decide +kernel
theorem dX8_groupOf_21 : decode cX8_groupOf 21 = .ok (.aload_n 0, 1) := by decide +kernel
theorem dX8_groupOf_22 : decode cX8_groupOf 22 = .ok (.getfield 12, 3) := by decide +kernel
theorem dX8_groupOf_25 : decode cX8_groupOf 25 = .ok (.iload_n 1, 1) := by decide +kernel
theorem dX8_groupOf_26 : decode cX8_groupOf 26 = .ok (.invokevirtual 206, 3) := by decide +kernel
theorem dX8_groupOf_29 : decode cX8_groupOf 29 = .ok (.aload_n 0, 1) := by decide +kernel
theorem dX8_groupOf_30 : decode cX8_groupOf 30 = .ok (.getfield 25, 3) := by decide +kernel
theorem dX8_groupOf_33 : decode cX8_groupOf 33 = .ok (.getfield 210, 3) := by decide +kernel
theorem dX8_groupOf_36 : decode cX8_groupOf 36 = .ok (.iload_n 2, 1) := by decide +kernel
theorem dX8_groupOf_37 : decode cX8_groupOf 37 = .ok (.iaload, 1) := by decide +kernel
theorem dX8_groupOf_38 : decode cX8_groupOf 38 = .ok (.ireturn, 1) := by decide +kernel
theorem dX8_group_0 : decode cX8_group 0 = .ok (.aload_n 0, 1) := by decide +kernel
theorem dX8_group_1 : decode cX8_group 1 = .ok (.iload_n 1, 1) := by decide +kernel
theorem dX8_group_2 : decode cX8_group 2 = .ok (.iload_n 2, 1) := by decide +kernel
theorem dX8_group_3 : decode cX8_group 3 = .ok (.invokevirtual 213, 3) := by decide +kernel
theorem dX8_group_6 : decode cX8_group 6 = .ok (.ifCond .ne 5, 3) := by decide +kernel
theorem dX8_group_9 : decode cX8_group 9 = .ok (.iconst (-1), 1) := by decide +kernel
theorem dX8_group_10 : decode cX8_group 10 = .ok (.ireturn, 1) := by decide +kernel
theorem dX8_group_11 : decode cX8_group 11 = .ok (.aload_n 0, 1) := by decide +kernel
theorem dX8_group_12 : decode cX8_group 12 = .ok (.getfield 12, 3) := by decide +kernel
theorem dX8_group_15 : decode cX8_group 15 = .ok (.getfield 75, 3) := by decide +kernel
theorem dX8_group_18 : decode cX8_group 18 = .ok (.astore 4, 2) := by decide +kernel
theorem dX8_group_20 : decode cX8_group 20 = .ok (.aload_n 0, 1) := by decide +kernel
theorem dX8_group_21 : decode cX8_group 21 = .ok (.getfield 25, 3) := by decide +kernel
theorem dX8_group_24 : decode cX8_group 24 = .ok (.getfield 216, 3) := by decide +kernel
theorem dX8_group_27 : decode cX8_group 27 = .ok (.iload_n 2, 1) := by decide +kernel
theorem dX8_group_28 : decode cX8_group 28 = .ok (.iaload, 1) := by decide +kernel
theorem dX8_group_29 : decode cX8_group 29 = .ok (.istore 5, 2) := by decide +kernel
theorem dX8_group_31 : decode cX8_group 31 = .ok (.iload_n 3, 1) := by decide +kernel
theorem dX8_group_32 : decode cX8_group 32 = .ok (.tableswitch 188 0 12 #[68, 74, 80, 90, 101, 112, 123, 134, 144, 154, 162, 172, 180], 68) := by decide +kernel
theorem dX8_group_100 : decode cX8_group 100 = .ok (.iload 5, 2) := by decide +kernel
theorem dX8_group_102 : decode cX8_group 102 = .ok (.invokestatic 219, 3) := by decide +kernel
theorem dX8_group_105 : decode cX8_group 105 = .ok (.ireturn, 1) := by decide +kernel
theorem dX8_group_106 : decode cX8_group 106 = .ok (.iload 5, 2) := by decide +kernel
theorem dX8_group_108 : decode cX8_group 108 = .ok (.invokestatic 158, 3) := by decide +kernel
theorem dX8_group_111 : decode cX8_group 111 = .ok (.ireturn, 1) := by decide +kernel
theorem dX8_group_112 : decode cX8_group 112 = .ok (.aload_n 0, 1) := by decide +kernel
theorem dX8_group_113 : decode cX8_group 113 = .ok (.getfield 25, 3) := by decide +kernel
theorem dX8_group_116 : decode cX8_group 116 = .ok (.getfield 224, 3) := by decide +kernel
theorem dX8_group_119 : decode cX8_group 119 = .ok (.iload_n 2, 1) := by decide +kernel
theorem dX8_group_120 : decode cX8_group 120 = .ok (.iaload, 1) := by decide +kernel
theorem dX8_group_121 : decode cX8_group 121 = .ok (.ireturn, 1) := by decide +kernel
theorem dX8_group_122 : decode cX8_group 122 = .ok (.aload 4, 2) := by decide +kernel
theorem dX8_group_124 : decode cX8_group 124 = .ok (.getfield 116, 3) := by decide +kernel
theorem dX8_group_127 : decode cX8_group 127 = .ok (.iload 5, 2) := by decide +kernel
theorem dX8_group_129 : decode cX8_group 129 = .ok (.invokestatic 227, 3) := by decide +kernel
theorem dX8_group_132 : decode cX8_group 132 = .ok (.ireturn, 1) := by decide +kernel
theorem dX8_group_133 : decode cX8_group 133 = .ok (.aload 4, 2) := by decide +kernel
theorem dX8_group_135 : decode cX8_group 135 = .ok (.getfield 116, 3) := by decide +kernel
theorem dX8_group_138 : decode cX8_group 138 = .ok (.iload 5, 2) := by decide +kernel
theorem dX8_group_140 : decode cX8_group 140 = .ok (.invokestatic 231, 3) := by decide +kernel
theorem dX8_group_143 : decode cX8_group 143 = .ok (.ireturn, 1) := by decide +kernel
theorem dX8_group_144 : decode cX8_group 144 = .ok (.aload 4, 2) := by decide +kernel
theorem dX8_group_146 : decode cX8_group 146 = .ok (.getfield 119, 3) := by decide +kernel
theorem dX8_group_149 : decode cX8_group 149 = .ok (.iload 5, 2) := by decide +kernel
theorem dX8_group_151 : decode cX8_group 151 = .ok (.invokestatic 227, 3) := by decide +kernel
theorem dX8_group_154 : decode cX8_group 154 = .ok (.ireturn, 1) := by decide +kernel
theorem dX8_group_155 : decode cX8_group 155 = .ok (.aload 4, 2) := by decide +kernel
theorem dX8_group_157 : decode cX8_group 157 = .ok (.getfield 119, 3) := by decide +kernel
theorem dX8_group_160 : decode cX8_group 160 = .ok (.iload 5, 2) := by decide +kernel
theorem dX8_group_162 : decode cX8_group 162 = .ok (.invokestatic 231, 3) := by decide +kernel
theorem dX8_group_165 : decode cX8_group 165 = .ok (.ireturn, 1) := by decide +kernel
theorem dX8_group_166 : decode cX8_group 166 = .ok (.aload_n 0, 1) := by decide +kernel
theorem dX8_group_167 : decode cX8_group 167 = .ok (.getfield 25, 3) := by decide +kernel
theorem dX8_group_170 : decode cX8_group 170 = .ok (.getfield 234, 3) := by decide +kernel
theorem dX8_group_173 : decode cX8_group 173 = .ok (.iload_n 2, 1) := by decide +kernel
theorem dX8_group_174 : decode cX8_group 174 = .ok (.iaload, 1) := by decide +kernel
theorem dX8_group_175 : decode cX8_group 175 = .ok (.ireturn, 1) := by decide +kernel
theorem dX8_group_176 : decode cX8_group 176 = .ok (.aload_n 0, 1) := by decide +kernel
theorem dX8_group_177 : decode cX8_group 177 = .ok (.getfield 25, 3) := by decide +kernel
theorem dX8_group_180 : decode cX8_group 180 = .ok (.getfield 235, 3) := by decide +kernel
theorem dX8_group_183 : decode cX8_group 183 = .ok (.iload_n 2, 1) := by decide +kernel
theorem dX8_group_184 : decode cX8_group 184 = .ok (.iaload, 1) := by decide +kernel
theorem dX8_group_185 : decode cX8_group 185 = .ok (.ireturn, 1) := by decide +kernel
theorem dX8_group_186 : decode cX8_group 186 = .ok (.aload 4, 2) := by decide +kernel
theorem dX8_group_188 : decode cX8_group 188 = .ok (.iload 5, 2) := by decide +kernel
theorem dX8_group_190 : decode cX8_group 190 = .ok (.invokevirtual 236, 3) := by decide +kernel
theorem dX8_group_193 : decode cX8_group 193 = .ok (.ireturn, 1) := by decide +kernel
theorem dX8_group_194 : decode cX8_group 194 = .ok (.aload_n 0, 1) := by decide +kernel
theorem dX8_group_195 : decode cX8_group 195 = .ok (.getfield 12, 3) := by decide +kernel
theorem dX8_group_198 : decode cX8_group 198 = .ok (.iload 5, 2) := by decide +kernel
theorem dX8_group_200 : decode cX8_group 200 = .ok (.invokevirtual 239, 3) := by decide +kernel
theorem dX8_group_203 : decode cX8_group 203 = .ok (.ireturn, 1) := by decide +kernel
theorem dX8_group_204 : decode cX8_group 204 = .ok (.aload_n 0, 1) := by decide +kernel
theorem dX8_group_205 : decode cX8_group 205 = .ok (.iload_n 1, 1) := by decide +kernel
theorem dX8_group_206 : decode cX8_group 206 = .ok (.iload 5, 2) := by decide +kernel
theorem dX8_group_208 : decode cX8_group 208 = .ok (.invokevirtual 242, 3) := by decide +kernel
theorem dX8_group_211 : decode cX8_group 211 = .ok (.ireturn, 1) := by decide +kernel
theorem dX8_group_212 : decode cX8_group 212 = .ok (.aload 4, 2) := by decide +kernel
theorem dX8_group_214 : decode cX8_group 214 = .ok (.iload 5, 2) := by decide +kernel
theorem dX8_group_216 : decode cX8_group 216 = .ok (.invokevirtual 245, 3) := by decide +kernel
theorem dX8_group_219 : decode cX8_group 219 = .ok (.ireturn, 1) := by decide +kernel
theorem dX8_group_220 : decode cX8_group 220 = .ok (.iconst (-1), 1) := by decide +kernel
theorem dX8_group_221 : decode cX8_group 221 = .ok (.ireturn, 1) := by decide +kernel
theorem dX8_member_0 : decode cX8_member 0 = .ok (.aload_n 0, 1) := by decide +kernel
theorem dX8_member_1 : decode cX8_member 1 = .ok (.iload_n 1, 1) := by decide +kernel
theorem dX8_member_2 : decode cX8_member 2 = .ok (.iload_n 2, 1) := by decide +kernel
theorem dX8_member_3 : decode cX8_member 3 = .ok (.invokevirtual 213, 3) := by decide +kernel
theorem dX8_member_6 : decode cX8_member 6 = .ok (.ifCond .eq 19, 3) := by decide +kernel
theorem dX8_member_9 : decode cX8_member 9 = .ok (.aload_n 0, 1) := by decide +kernel
theorem dX8_member_10 : decode cX8_member 10 = .ok (.getfield 25, 3) := by decide +kernel
theorem dX8_member_13 : decode cX8_member 13 = .ok (.getfield 216, 3) := by decide +kernel
theorem dX8_member_16 : decode cX8_member 16 = .ok (.iload_n 2, 1) := by decide +kernel
theorem dX8_member_17 : decode cX8_member 17 = .ok (.iaload, 1) := by decide +kernel
theorem dX8_member_18 : decode cX8_member 18 = .ok (.iload_n 3, 1) := by decide +kernel
theorem dX8_member_19 : decode cX8_member 19 = .ok (.invokestatic 248, 3) := by decide +kernel
theorem dX8_member_22 : decode cX8_member 22 = .ok (.goto 4, 3) := by decide +kernel
theorem dX8_member_25 : decode cX8_member 25 = .ok (.iconst (-1), 1) := by decide +kernel
theorem dX8_member_26 : decode cX8_member 26 = .ok (.ireturn, 1) := by decide +kernel
theorem dX8_splits_0 : decode cX8_splits 0 = .ok (.iload_n 1, 1) := by decide +kernel
theorem dX8_splits_1 : decode cX8_splits 1 = .ok (.bipush 10, 2) := by decide +kernel
theorem dX8_splits_3 : decode cX8_splits 3 = .ok (.if_icmp .eq 12, 3) := by decide +kernel
theorem dX8_splits_6 : decode cX8_splits 6 = .ok (.aload_n 0, 1) := by decide +kernel
theorem dX8_splits_7 : decode cX8_splits 7 = .ok (.iload_n 1, 1) := by decide +kernel
theorem dX8_splits_8 : decode cX8_splits 8 = .ok (.iload_n 2, 1) := by decide +kernel
theorem dX8_splits_9 : decode cX8_splits 9 = .ok (.invokevirtual 213, 3) := by decide +kernel
theorem dX8_splits_12 : decode cX8_splits 12 = .ok (.ifCond .ne 5, 3) := by decide +kernel
theorem dX8_splits_15 : decode cX8_splits 15 = .ok (.iconst (-1), 1) := by decide +kernel
theorem dX8_splits_16 : decode cX8_splits 16 = .ok (.ireturn, 1) := by decide +kernel
theorem dX8_splits_17 : decode cX8_splits 17 = .ok (.aload_n 0, 1) := by decide +kernel
theorem dX8_splits_18 : decode cX8_splits 18 = .ok (.getfield 29, 3) := by decide +kernel
theorem dX8_splits_21 : decode cX8_splits 21 = .ok (.aload_n 0, 1) := by decide +kernel
theorem dX8_splits_22 : decode cX8_splits 22 = .ok (.getfield 12, 3) := by decide +kernel
theorem dX8_splits_25 : decode cX8_splits 25 = .ok (.iload_n 1, 1) := by decide +kernel
theorem dX8_splits_26 : decode cX8_splits 26 = .ok (.iconst 1, 1) := by decide +kernel
theorem dX8_splits_27 : decode cX8_splits 27 = .ok (.iadd, 1) := by decide +kernel
theorem dX8_splits_28 : decode cX8_splits 28 = .ok (.invokevirtual 206, 3) := by decide +kernel
theorem dX8_splits_31 : decode cX8_splits 31 = .ok (.aload_n 0, 1) := by decide +kernel
theorem dX8_splits_32 : decode cX8_splits 32 = .ok (.getfield 29, 3) := by decide +kernel
theorem dX8_splits_35 : decode cX8_splits 35 = .ok (.aload_n 0, 1) := by decide +kernel
theorem dX8_splits_36 : decode cX8_splits 36 = .ok (.getfield 25, 3) := by decide +kernel
theorem dX8_splits_39 : decode cX8_splits 39 = .ok (.getfield 216, 3) := by decide +kernel
theorem dX8_splits_42 : decode cX8_splits 42 = .ok (.iload_n 2, 1) := by decide +kernel
theorem dX8_splits_43 : decode cX8_splits 43 = .ok (.iaload, 1) := by decide +kernel
theorem dX8_splits_44 : decode cX8_splits 44 = .ok (.invokevirtual 251, 3) := by decide +kernel
theorem dX8_splits_47 : decode cX8_splits 47 = .ok (.iload_n 3, 1) := by decide +kernel
theorem dX8_splits_48 : decode cX8_splits 48 = .ok (.invokestatic 248, 3) := by decide +kernel
theorem dX8_splits_51 : decode cX8_splits 51 = .ok (.ireturn, 1) := by decide +kernel
theorem dX8_look_0 : decode cX8_look 0 = .ok (.aload_n 0, 1) := by decide +kernel
theorem dX8_look_1 : decode cX8_look 1 = .ok (.getfield 12, 3) := by decide +kernel
theorem dX8_look_4 : decode cX8_look 4 = .ok (.getfield 75, 3) := by decide +kernel
theorem dX8_look_7 : decode cX8_look 7 = .ok (.getfield 113, 3) := by decide +kernel
theorem dX8_look_10 : decode cX8_look 10 = .ok (.invokestatic 339, 3) := by decide +kernel
theorem dX8_look_13 : decode cX8_look 13 = .ok (.istore_n 2, 1) := by decide +kernel
theorem dX8_look_14 : decode cX8_look 14 = .ok (.iload_n 1, 1) := by decide +kernel
theorem dX8_look_15 : decode cX8_look 15 = .ok (.tableswitch 123 0 8 #[49, 60, 72, 77, 82, 90, 98, 110, 118], 49) := by decide +kernel
theorem dX8_look_64 : decode cX8_look 64 = .ok (.aload_n 0, 1) := by decide +kernel
theorem dX8_look_65 : decode cX8_look 65 = .ok (.getfield 12, 3) := by decide +kernel
theorem dX8_look_68 : decode cX8_look 68 = .ok (.getfield 75, 3) := by decide +kernel
theorem dX8_look_71 : decode cX8_look 71 = .ok (.getfield 113, 3) := by decide +kernel
theorem dX8_look_74 : decode cX8_look 74 = .ok (.ireturn, 1) := by decide +kernel
theorem dX8_look_75 : decode cX8_look 75 = .ok (.aload_n 0, 1) := by decide +kernel
theorem dX8_look_76 : decode cX8_look 76 = .ok (.getfield 12, 3) := by decide +kernel
theorem dX8_look_79 : decode cX8_look 79 = .ok (.getfield 75, 3) := by decide +kernel
theorem dX8_look_82 : decode cX8_look 82 = .ok (.iload_n 2, 1) := by decide +kernel
theorem dX8_look_83 : decode cX8_look 83 = .ok (.invokevirtual 163, 3) := by decide +kernel
theorem dX8_look_86 : decode cX8_look 86 = .ok (.ireturn, 1) := by decide +kernel
theorem dX8_look_87 : decode cX8_look 87 = .ok (.aload_n 0, 1) := by decide +kernel
theorem dX8_look_88 : decode cX8_look 88 = .ok (.getfield 64, 3) := by decide +kernel
theorem dX8_look_91 : decode cX8_look 91 = .ok (.ireturn, 1) := by decide +kernel
theorem dX8_look_92 : decode cX8_look 92 = .ok (.aload_n 0, 1) := by decide +kernel
theorem dX8_look_93 : decode cX8_look 93 = .ok (.getfield 68, 3) := by decide +kernel
theorem dX8_look_96 : decode cX8_look 96 = .ok (.ireturn, 1) := by decide +kernel
theorem dX8_look_97 : decode cX8_look 97 = .ok (.aload_n 0, 1) := by decide +kernel
theorem dX8_look_98 : decode cX8_look 98 = .ok (.getfield 12, 3) := by decide +kernel
theorem dX8_look_101 : decode cX8_look 101 = .ok (.invokevirtual 327, 3) := by decide +kernel
theorem dX8_look_104 : decode cX8_look 104 = .ok (.ireturn, 1) := by decide +kernel
theorem dX8_look_105 : decode cX8_look 105 = .ok (.aload_n 0, 1) := by decide +kernel
theorem dX8_look_106 : decode cX8_look 106 = .ok (.getfield 12, 3) := by decide +kernel
theorem dX8_look_109 : decode cX8_look 109 = .ok (.invokevirtual 342, 3) := by decide +kernel
theorem dX8_look_112 : decode cX8_look 112 = .ok (.ireturn, 1) := by decide +kernel
theorem dX8_look_113 : decode cX8_look 113 = .ok (.aload_n 0, 1) := by decide +kernel
theorem dX8_look_114 : decode cX8_look 114 = .ok (.getfield 12, 3) := by decide +kernel
theorem dX8_look_117 : decode cX8_look 117 = .ok (.getfield 75, 3) := by decide +kernel
theorem dX8_look_120 : decode cX8_look 120 = .ok (.iload_n 2, 1) := by decide +kernel
theorem dX8_look_121 : decode cX8_look 121 = .ok (.invokevirtual 245, 3) := by decide +kernel
theorem dX8_look_124 : decode cX8_look 124 = .ok (.ireturn, 1) := by decide +kernel
theorem dX8_look_125 : decode cX8_look 125 = .ok (.aload_n 0, 1) := by decide +kernel
theorem dX8_look_126 : decode cX8_look 126 = .ok (.getfield 12, 3) := by decide +kernel
theorem dX8_look_129 : decode cX8_look 129 = .ok (.invokevirtual 345, 3) := by decide +kernel
theorem dX8_look_132 : decode cX8_look 132 = .ok (.ireturn, 1) := by decide +kernel
theorem dX8_look_133 : decode cX8_look 133 = .ok (.aload_n 0, 1) := by decide +kernel
theorem dX8_look_134 : decode cX8_look 134 = .ok (.invokevirtual 348, 3) := by decide +kernel
theorem dX8_look_137 : decode cX8_look 137 = .ok (.ireturn, 1) := by decide +kernel
theorem dX8_look_138 : decode cX8_look 138 = .ok (.bipush (-10), 2) := by decide +kernel
theorem dX8_look_140 : decode cX8_look 140 = .ok (.ireturn, 1) := by decide +kernel
theorem dX8_isZoom_0 : decode cX8_isZoom 0 = .ok (.iload_n 0, 1) := by decide +kernel
theorem dX8_isZoom_1 : decode cX8_isZoom 1 = .ok (.ifCond .lt 13, 3) := by decide +kernel
theorem dX8_isZoom_4 : decode cX8_isZoom 4 = .ok (.iload_n 0, 1) := by decide +kernel
theorem dX8_isZoom_5 : decode cX8_isZoom 5 = .ok (.bipush 10, 2) := by decide +kernel
theorem dX8_isZoom_7 : decode cX8_isZoom 7 = .ok (.if_icmp .gt 7, 3) := by decide +kernel
theorem dX8_isZoom_10 : decode cX8_isZoom 10 = .ok (.iconst 1, 1) := by decide +kernel
theorem dX8_isZoom_11 : decode cX8_isZoom 11 = .ok (.goto 4, 3) := by decide +kernel
theorem dX8_isZoom_14 : decode cX8_isZoom 14 = .ok (.iconst 0, 1) := by decide +kernel
theorem dX8_isZoom_15 : decode cX8_isZoom 15 = .ok (.ireturn, 1) := by decide +kernel
theorem dX8_isWeight_0 : decode cX8_isWeight 0 = .ok (.iload_n 0, 1) := by decide +kernel
theorem dX8_isWeight_1 : decode cX8_isWeight 1 = .ok (.iconst 1, 1) := by decide +kernel
theorem dX8_isWeight_2 : decode cX8_isWeight 2 = .ok (.if_icmp .lt 13, 3) := by decide +kernel
theorem dX8_isWeight_5 : decode cX8_isWeight 5 = .ok (.iload_n 0, 1) := by decide +kernel
theorem dX8_isWeight_6 : decode cX8_isWeight 6 = .ok (.bipush 99, 2) := by decide +kernel
theorem dX8_isWeight_8 : decode cX8_isWeight 8 = .ok (.if_icmp .gt 7, 3) := by decide +kernel
theorem dX8_isWeight_11 : decode cX8_isWeight 11 = .ok (.iconst 1, 1) := by decide +kernel
theorem dX8_isWeight_12 : decode cX8_isWeight 12 = .ok (.goto 4, 3) := by decide +kernel
theorem dX8_isWeight_15 : decode cX8_isWeight 15 = .ok (.iconst 0, 1) := by decide +kernel
theorem dX8_isWeight_16 : decode cX8_isWeight 16 = .ok (.ireturn, 1) := by decide +kernel
theorem dX8_isPoint_0 : decode cX8_isPoint 0 = .ok (.iload_n 1, 1) := by decide +kernel
theorem dX8_isPoint_1 : decode cX8_isPoint 1 = .ok (.ifCond .lt 21, 3) := by decide +kernel
theorem dX8_isPoint_4 : decode cX8_isPoint 4 = .ok (.iload_n 1, 1) := by decide +kernel
theorem dX8_isPoint_5 : decode cX8_isPoint 5 = .ok (.aload_n 0, 1) := by decide +kernel
theorem dX8_isPoint_6 : decode cX8_isPoint 6 = .ok (.getfield 12, 3) := by decide +kernel
theorem dX8_isPoint_9 : decode cX8_isPoint 9 = .ok (.getfield 75, 3) := by decide +kernel
theorem dX8_isPoint_12 : decode cX8_isPoint 12 = .ok (.getfield 113, 3) := by decide +kernel
theorem dX8_isPoint_15 : decode cX8_isPoint 15 = .ok (.if_icmp .ge 7, 3) := by decide +kernel
theorem dX8_isPoint_18 : decode cX8_isPoint 18 = .ok (.iconst 1, 1) := by decide +kernel
theorem dX8_isPoint_19 : decode cX8_isPoint 19 = .ok (.goto 4, 3) := by decide +kernel
theorem dX8_isPoint_22 : decode cX8_isPoint 22 = .ok (.iconst 0, 1) := by decide +kernel
theorem dX8_isPoint_23 : decode cX8_isPoint 23 = .ok (.ireturn, 1) := by decide +kernel
theorem dX8_cutsGroup_0 : decode cX8_cutsGroup 0 = .ok (.iload_n 1, 1) := by decide +kernel
theorem dX8_cutsGroup_1 : decode cX8_cutsGroup 1 = .ok (.invokestatic 203, 3) := by decide +kernel
theorem dX8_cutsGroup_4 : decode cX8_cutsGroup 4 = .ok (.ifCond .ne 5, 3) := by decide +kernel
theorem dX8_cutsGroup_7 : decode cX8_cutsGroup 7 = .ok (.iconst 0, 1) := by decide +kernel
theorem dX8_cutsGroup_8 : decode cX8_cutsGroup 8 = .ok (.ireturn, 1) := by decide +kernel
theorem dX8_cutsGroup_9 : decode cX8_cutsGroup 9 = .ok (.aload_n 0, 1) := by decide +kernel
theorem dX8_cutsGroup_10 : decode cX8_cutsGroup 10 = .ok (.getfield 25, 3) := by decide +kernel
theorem dX8_cutsGroup_13 : decode cX8_cutsGroup 13 = .ok (.aload_n 0, 1) := by decide +kernel
theorem dX8_cutsGroup_14 : decode cX8_cutsGroup 14 = .ok (.getfield 12, 3) := by decide +kernel
theorem dX8_cutsGroup_17 : decode cX8_cutsGroup 17 = .ok (.iload_n 1, 1) := by decide +kernel
theorem dX8_cutsGroup_18 : decode cX8_cutsGroup 18 = .ok (.invokevirtual 206, 3) := by decide +kernel
theorem dX8_cutsGroup_21 : decode cX8_cutsGroup 21 = .ok (.iload_n 2, 1) := by decide +kernel
theorem dX8_cutsGroup_22 : decode cX8_cutsGroup 22 = .ok (.ifCond .lt 18, 3) := by decide +kernel
theorem dX8_cutsGroup_25 : decode cX8_cutsGroup 25 = .ok (.iload_n 2, 1) := by decide +kernel
theorem dX8_cutsGroup_26 : decode cX8_cutsGroup 26 = .ok (.aload_n 0, 1) := by decide +kernel
theorem dX8_cutsGroup_27 : decode cX8_cutsGroup 27 = .ok (.getfield 25, 3) := by decide +kernel
theorem dX8_cutsGroup_30 : decode cX8_cutsGroup 30 = .ok (.getfield 283, 3) := by decide +kernel
theorem dX8_cutsGroup_33 : decode cX8_cutsGroup 33 = .ok (.if_icmp .ge 7, 3) := by decide +kernel
theorem dX8_cutsGroup_36 : decode cX8_cutsGroup 36 = .ok (.iconst 1, 1) := by decide +kernel
theorem dX8_cutsGroup_37 : decode cX8_cutsGroup 37 = .ok (.goto 4, 3) := by decide +kernel
theorem dX8_cutsGroup_40 : decode cX8_cutsGroup 40 = .ok (.iconst 0, 1) := by decide +kernel
theorem dX8_cutsGroup_41 : decode cX8_cutsGroup 41 = .ok (.ireturn, 1) := by decide +kernel
theorem dX8_startRepair_0 : decode cX8_startRepair 0 = .ok (.aload_n 0, 1) := by decide +kernel
theorem dX8_startRepair_1 : decode cX8_startRepair 1 = .ok (.getfield 16, 3) := by decide +kernel
theorem dX8_startRepair_4 : decode cX8_startRepair 4 = .ok (.astore_n 1, 1) := by decide +kernel
theorem dX8_startRepair_5 : decode cX8_startRepair 5 = .ok (.aload_n 0, 1) := by decide +kernel
theorem dX8_startRepair_6 : decode cX8_startRepair 6 = .ok (.aload_n 0, 1) := by decide +kernel
theorem dX8_startRepair_7 : decode cX8_startRepair 7 = .ok (.getfield 12, 3) := by decide +kernel
theorem dX8_startRepair_10 : decode cX8_startRepair 10 = .ok (.putfield 16, 3) := by decide +kernel
theorem dX8_startRepair_13 : decode cX8_startRepair 13 = .ok (.aload_n 0, 1) := by decide +kernel
theorem dX8_startRepair_14 : decode cX8_startRepair 14 = .ok (.aload_n 1, 1) := by decide +kernel
theorem dX8_startRepair_15 : decode cX8_startRepair 15 = .ok (.putfield 12, 3) := by decide +kernel
theorem dX8_startRepair_18 : decode cX8_startRepair 18 = .ok (.aload_n 0, 1) := by decide +kernel
theorem dX8_startRepair_19 : decode cX8_startRepair 19 = .ok (.getfield 12, 3) := by decide +kernel
theorem dX8_startRepair_22 : decode cX8_startRepair 22 = .ok (.getfield 75, 3) := by decide +kernel
theorem dX8_startRepair_25 : decode cX8_startRepair 25 = .ok (.aload_n 0, 1) := by decide +kernel
theorem dX8_startRepair_26 : decode cX8_startRepair 26 = .ok (.getfield 16, 3) := by decide +kernel
theorem dX8_startRepair_29 : decode cX8_startRepair 29 = .ok (.getfield 75, 3) := by decide +kernel
theorem dX8_startRepair_32 : decode cX8_startRepair 32 = .ok (.invokevirtual 335, 3) := by decide +kernel
theorem dX8_startRepair_35 : decode cX8_startRepair 35 = .ok (.return_, 1) := by decide +kernel
theorem dX8_countSplits_0 : decode cX8_countSplits 0 = .ok (.iload_n 1, 1) := by decide +kernel
theorem dX8_countSplits_1 : decode cX8_countSplits 1 = .ok (.bipush 10, 2) := by decide +kernel
theorem dX8_countSplits_3 : decode cX8_countSplits 3 = .ok (.if_icmp .lt 5, 3) := by decide +kernel
theorem dX8_countSplits_6 : decode cX8_countSplits 6 = .ok (.iconst 1, 1) := by decide +kernel
theorem dX8_countSplits_7 : decode cX8_countSplits 7 = .ok (.ireturn, 1) := by decide +kernel
theorem dX8_countSplits_8 : decode cX8_countSplits 8 = .ok (.aload_n 0, 1) := by decide +kernel
theorem dX8_countSplits_9 : decode cX8_countSplits 9 = .ok (.getfield 29, 3) := by decide +kernel
theorem dX8_countSplits_12 : decode cX8_countSplits 12 = .ok (.aload_n 0, 1) := by decide +kernel
theorem dX8_countSplits_13 : decode cX8_countSplits 13 = .ok (.getfield 12, 3) := by decide +kernel
theorem dX8_countSplits_16 : decode cX8_countSplits 16 = .ok (.iload_n 1, 1) := by decide +kernel
theorem dX8_countSplits_17 : decode cX8_countSplits 17 = .ok (.iconst 1, 1) := by decide +kernel
theorem dX8_countSplits_18 : decode cX8_countSplits 18 = .ok (.iadd, 1) := by decide +kernel
theorem dX8_countSplits_19 : decode cX8_countSplits 19 = .ok (.invokevirtual 206, 3) := by decide +kernel
theorem dX8_countSplits_22 : decode cX8_countSplits 22 = .ok (.aload_n 0, 1) := by decide +kernel
theorem dX8_countSplits_23 : decode cX8_countSplits 23 = .ok (.getfield 29, 3) := by decide +kernel
theorem dX8_countSplits_26 : decode cX8_countSplits 26 = .ok (.iload_n 2, 1) := by decide +kernel
theorem dX8_countSplits_27 : decode cX8_countSplits 27 = .ok (.invokevirtual 251, 3) := by decide +kernel
theorem dX8_countSplits_30 : decode cX8_countSplits 30 = .ok (.invokestatic 158, 3) := by decide +kernel
theorem dX8_countSplits_33 : decode cX8_countSplits 33 = .ok (.ireturn, 1) := by decide +kernel
theorem dX8_groupsOfAllZooms_0 : decode cX8_groupsOfAllZooms 0 = .ok (.iconst 0, 1) := by decide +kernel
theorem dX8_groupsOfAllZooms_1 : decode cX8_groupsOfAllZooms 1 = .ok (.istore_n 1, 1) := by decide +kernel
theorem dX8_groupsOfAllZooms_2 : decode cX8_groupsOfAllZooms 2 = .ok (.iconst 0, 1) := by decide +kernel
theorem dX8_groupsOfAllZooms_3 : decode cX8_groupsOfAllZooms 3 = .ok (.istore_n 2, 1) := by decide +kernel
theorem dX8_groupsOfAllZooms_4 : decode cX8_groupsOfAllZooms 4 = .ok (.iload_n 2, 1) := by decide +kernel
theorem dX8_groupsOfAllZooms_5 : decode cX8_groupsOfAllZooms 5 = .ok (.bipush 10, 2) := by decide +kernel
theorem dX8_groupsOfAllZooms_7 : decode cX8_groupsOfAllZooms 7 = .ok (.if_icmp .gt 17, 3) := by decide +kernel
theorem dX8_groupsOfAllZooms_10 : decode cX8_groupsOfAllZooms 10 = .ok (.iload_n 1, 1) := by decide +kernel
theorem dX8_groupsOfAllZooms_11 : decode cX8_groupsOfAllZooms 11 = .ok (.aload_n 0, 1) := by decide +kernel
theorem dX8_groupsOfAllZooms_12 : decode cX8_groupsOfAllZooms 12 = .ok (.iload_n 2, 1) := by decide +kernel
theorem dX8_groupsOfAllZooms_13 : decode cX8_groupsOfAllZooms 13 = .ok (.invokevirtual 357, 3) := by decide +kernel
theorem dX8_groupsOfAllZooms_16 : decode cX8_groupsOfAllZooms 16 = .ok (.iadd, 1) := by decide +kernel
theorem dX8_groupsOfAllZooms_17 : decode cX8_groupsOfAllZooms 17 = .ok (.istore_n 1, 1) := by decide +kernel
theorem dX8_groupsOfAllZooms_18 : decode cX8_groupsOfAllZooms 18 = .ok (.iinc 2 1, 3) := by decide +kernel
theorem dX8_groupsOfAllZooms_21 : decode cX8_groupsOfAllZooms 21 = .ok (.goto (-17), 3) := by decide +kernel
theorem dX8_groupsOfAllZooms_24 : decode cX8_groupsOfAllZooms 24 = .ok (.iload_n 1, 1) := by decide +kernel
theorem dX8_groupsOfAllZooms_25 : decode cX8_groupsOfAllZooms 25 = .ok (.ireturn, 1) := by decide +kernel
theorem dJ6_bitCount_0f7a4_0 : decode cJ6_bitCount_0f7a4 0 = .ok (.iload_n 0, 1) := by decide +kernel
theorem dJ6_bitCount_0f7a4_1 : decode cJ6_bitCount_0f7a4 1 = .ok (.iload_n 0, 1) := by decide +kernel
theorem dJ6_bitCount_0f7a4_2 : decode cJ6_bitCount_0f7a4 2 = .ok (.iconst 1, 1) := by decide +kernel
theorem dJ6_bitCount_0f7a4_3 : decode cJ6_bitCount_0f7a4 3 = .ok (.iushr, 1) := by decide +kernel
theorem dJ6_bitCount_0f7a4_4 : decode cJ6_bitCount_0f7a4 4 = .ok (.ldc_w 265, 3) := by decide +kernel
theorem dJ6_bitCount_0f7a4_7 : decode cJ6_bitCount_0f7a4 7 = .ok (.iand, 1) := by decide +kernel
theorem dJ6_bitCount_0f7a4_8 : decode cJ6_bitCount_0f7a4 8 = .ok (.isub, 1) := by decide +kernel
theorem dJ6_bitCount_0f7a4_9 : decode cJ6_bitCount_0f7a4 9 = .ok (.istore_n 0, 1) := by decide +kernel
theorem dJ6_bitCount_0f7a4_10 : decode cJ6_bitCount_0f7a4 10 = .ok (.iload_n 0, 1) := by decide +kernel
theorem dJ6_bitCount_0f7a4_11 : decode cJ6_bitCount_0f7a4 11 = .ok (.ldc_w 266, 3) := by decide +kernel
theorem dJ6_bitCount_0f7a4_14 : decode cJ6_bitCount_0f7a4 14 = .ok (.iand, 1) := by decide +kernel
theorem dJ6_bitCount_0f7a4_15 : decode cJ6_bitCount_0f7a4 15 = .ok (.iload_n 0, 1) := by decide +kernel
theorem dJ6_bitCount_0f7a4_16 : decode cJ6_bitCount_0f7a4 16 = .ok (.iconst 2, 1) := by decide +kernel
theorem dJ6_bitCount_0f7a4_17 : decode cJ6_bitCount_0f7a4 17 = .ok (.iushr, 1) := by decide +kernel
theorem dJ6_bitCount_0f7a4_18 : decode cJ6_bitCount_0f7a4 18 = .ok (.ldc_w 266, 3) := by decide +kernel
theorem dJ6_bitCount_0f7a4_21 : decode cJ6_bitCount_0f7a4 21 = .ok (.iand, 1) := by decide +kernel
theorem dJ6_bitCount_0f7a4_22 : decode cJ6_bitCount_0f7a4 22 = .ok (.iadd, 1) := by decide +kernel
theorem dJ6_bitCount_0f7a4_23 : decode cJ6_bitCount_0f7a4 23 = .ok (.istore_n 0, 1) := by decide +kernel
theorem dJ6_bitCount_0f7a4_24 : decode cJ6_bitCount_0f7a4 24 = .ok (.iload_n 0, 1) := by decide +kernel
theorem dJ6_bitCount_0f7a4_25 : decode cJ6_bitCount_0f7a4 25 = .ok (.iload_n 0, 1) := by decide +kernel
theorem dJ6_bitCount_0f7a4_26 : decode cJ6_bitCount_0f7a4 26 = .ok (.iconst 4, 1) := by decide +kernel
theorem dJ6_bitCount_0f7a4_27 : decode cJ6_bitCount_0f7a4 27 = .ok (.iushr, 1) := by decide +kernel
theorem dJ6_bitCount_0f7a4_28 : decode cJ6_bitCount_0f7a4 28 = .ok (.iadd, 1) := by decide +kernel
theorem dJ6_bitCount_0f7a4_29 : decode cJ6_bitCount_0f7a4 29 = .ok (.ldc_w 267, 3) := by decide +kernel
theorem dJ6_bitCount_0f7a4_32 : decode cJ6_bitCount_0f7a4 32 = .ok (.iand, 1) := by decide +kernel
theorem dJ6_bitCount_0f7a4_33 : decode cJ6_bitCount_0f7a4 33 = .ok (.istore_n 0, 1) := by decide +kernel
theorem dJ6_bitCount_0f7a4_34 : decode cJ6_bitCount_0f7a4 34 = .ok (.iload_n 0, 1) := by decide +kernel
theorem dJ6_bitCount_0f7a4_35 : decode cJ6_bitCount_0f7a4 35 = .ok (.iload_n 0, 1) := by decide +kernel
theorem dJ6_bitCount_0f7a4_36 : decode cJ6_bitCount_0f7a4 36 = .ok (.bipush 8, 2) := by decide +kernel
theorem dJ6_bitCount_0f7a4_38 : decode cJ6_bitCount_0f7a4 38 = .ok (.iushr, 1) := by decide +kernel
theorem dJ6_bitCount_0f7a4_39 : decode cJ6_bitCount_0f7a4 39 = .ok (.iadd, 1) := by decide +kernel
theorem dJ6_bitCount_0f7a4_40 : decode cJ6_bitCount_0f7a4 40 = .ok (.istore_n 0, 1) := by decide +kernel
theorem dJ6_bitCount_0f7a4_41 : decode cJ6_bitCount_0f7a4 41 = .ok (.iload_n 0, 1) := by decide +kernel
theorem dJ6_bitCount_0f7a4_42 : decode cJ6_bitCount_0f7a4 42 = .ok (.iload_n 0, 1) := by decide +kernel
theorem dJ6_bitCount_0f7a4_43 : decode cJ6_bitCount_0f7a4 43 = .ok (.bipush 16, 2) := by decide +kernel
theorem dJ6_bitCount_0f7a4_45 : decode cJ6_bitCount_0f7a4 45 = .ok (.iushr, 1) := by decide +kernel
theorem dJ6_bitCount_0f7a4_46 : decode cJ6_bitCount_0f7a4 46 = .ok (.iadd, 1) := by decide +kernel
theorem dJ6_bitCount_0f7a4_47 : decode cJ6_bitCount_0f7a4 47 = .ok (.istore_n 0, 1) := by decide +kernel
theorem dJ6_bitCount_0f7a4_48 : decode cJ6_bitCount_0f7a4 48 = .ok (.iload_n 0, 1) := by decide +kernel
theorem dJ6_bitCount_0f7a4_49 : decode cJ6_bitCount_0f7a4 49 = .ok (.bipush 63, 2) := by decide +kernel
theorem dJ6_bitCount_0f7a4_51 : decode cJ6_bitCount_0f7a4 51 = .ok (.iand, 1) := by decide +kernel
theorem dJ6_bitCount_0f7a4_52 : decode cJ6_bitCount_0f7a4 52 = .ok (.ireturn, 1) := by decide +kernel
theorem dJ9_max_7cf53_0 : decode cJ9_max_7cf53 0 = .ok (.iload_n 0, 1) := by decide +kernel
theorem dJ9_max_7cf53_1 : decode cJ9_max_7cf53 1 = .ok (.iload_n 1, 1) := by decide +kernel
theorem dJ9_max_7cf53_2 : decode cJ9_max_7cf53 2 = .ok (.if_icmp .lt 7, 3) := by decide +kernel
theorem dJ9_max_7cf53_5 : decode cJ9_max_7cf53 5 = .ok (.iload_n 0, 1) := by decide +kernel
theorem dJ9_max_7cf53_6 : decode cJ9_max_7cf53 6 = .ok (.goto 4, 3) := by decide +kernel
theorem dJ9_max_7cf53_9 : decode cJ9_max_7cf53 9 = .ok (.iload_n 1, 1) := by decide +kernel
theorem dJ9_max_7cf53_10 : decode cJ9_max_7cf53 10 = .ok (.ireturn, 1) := by decide +kernel
theorem dJ9_min_7cf53_0 : decode cJ9_min_7cf53 0 = .ok (.iload_n 0, 1) := by decide +kernel
theorem dJ9_min_7cf53_1 : decode cJ9_min_7cf53 1 = .ok (.iload_n 1, 1) := by decide +kernel
theorem dJ9_min_7cf53_2 : decode cJ9_min_7cf53 2 = .ok (.if_icmp .gt 7, 3) := by decide +kernel
theorem dJ9_min_7cf53_5 : decode cJ9_min_7cf53 5 = .ok (.iload_n 0, 1) := by decide +kernel
theorem dJ9_min_7cf53_6 : decode cJ9_min_7cf53 6 = .ok (.goto 4, 3) := by decide +kernel
theorem dJ9_min_7cf53_9 : decode cJ9_min_7cf53 9 = .ok (.iload_n 1, 1) := by decide +kernel
theorem dJ9_min_7cf53_10 : decode cJ9_min_7cf53 10 = .ok (.ireturn, 1) := by decide +kernel
theorem dJ9_min_f86c9_0 : decode cJ9_min_f86c9 0 = .ok (.lload_n 0, 1) := by decide +kernel
theorem dJ9_min_f86c9_1 : decode cJ9_min_f86c9 1 = .ok (.lload_n 2, 1) := by decide +kernel
theorem dJ9_min_f86c9_2 : decode cJ9_min_f86c9 2 = .ok (.lcmp, 1) := by decide +kernel
theorem dJ9_min_f86c9_3 : decode cJ9_min_f86c9 3 = .ok (.ifCond .gt 7, 3) := by decide +kernel
theorem dJ9_min_f86c9_6 : decode cJ9_min_f86c9 6 = .ok (.lload_n 0, 1) := by decide +kernel
theorem dJ9_min_f86c9_7 : decode cJ9_min_f86c9 7 = .ok (.goto 4, 3) := by decide +kernel
theorem dJ9_min_f86c9_10 : decode cJ9_min_f86c9 10 = .ok (.lload_n 2, 1) := by decide +kernel
theorem dJ9_min_f86c9_11 : decode cJ9_min_f86c9 11 = .ok (.lreturn, 1) := by decide +kernel
theorem dL_cell_0 : decode cL_cell 0 = .ok (.iload_n 1, 1) := by decide +kernel
theorem dL_cell_1 : decode cL_cell 1 = .ok (.aload_n 0, 1) := by decide +kernel
theorem dL_cell_2 : decode cL_cell 2 = .ok (.arraylength, 1) := by decide +kernel
theorem dL_cell_3 : decode cL_cell 3 = .ok (.if_icmp .ge 9, 3) := by decide +kernel
theorem dL_cell_6 : decode cL_cell 6 = .ok (.aload_n 0, 1) := by decide +kernel
theorem dL_cell_7 : decode cL_cell 7 = .ok (.iload_n 1, 1) := by decide +kernel
theorem dL_cell_8 : decode cL_cell 8 = .ok (.iaload, 1) := by decide +kernel
theorem dL_cell_9 : decode cL_cell 9 = .ok (.goto 11, 3) := by decide +kernel
theorem dL_cell_12 : decode cL_cell 12 = .ok (.ldc 7, 2) := by decide +kernel
theorem dL_cell_14 : decode cL_cell 14 = .ok (.iload_n 1, 1) := by decide +kernel
theorem dL_cell_15 : decode cL_cell 15 = .ok (.imul, 1) := by decide +kernel
theorem dL_cell_16 : decode cL_cell 16 = .ok (.sipush 829, 3) := by decide +kernel
theorem dL_cell_19 : decode cL_cell 19 = .ok (.iadd, 1) := by decide +kernel
theorem dL_cell_20 : decode cL_cell 20 = .ok (.ireturn, 1) := by decide +kernel
theorem dL_between_0 : decode cL_between 0 = .ok (.iload_n 1, 1) := by decide +kernel
theorem dL_between_1 : decode cL_between 1 = .ok (.iload_n 0, 1) := by decide +kernel
theorem dL_between_2 : decode cL_between 2 = .ok (.ldc 8, 2) := by decide +kernel
theorem dL_between_4 : decode cL_between 4 = .ok (.iand, 1) := by decide +kernel
theorem dL_between_5 : decode cL_between 5 = .ok (.iload_n 2, 1) := by decide +kernel
theorem dL_between_6 : decode cL_between 6 = .ok (.iload_n 1, 1) := by decide +kernel
theorem dL_between_7 : decode cL_between 7 = .ok (.isub, 1) := by decide +kernel
theorem dL_between_8 : decode cL_between 8 = .ok (.iconst 1, 1) := by decide +kernel
theorem dL_between_9 : decode cL_between 9 = .ok (.iadd, 1) := by decide +kernel
theorem dL_between_10 : decode cL_between 10 = .ok (.irem, 1) := by decide +kernel
theorem dL_between_11 : decode cL_between 11 = .ok (.iadd, 1) := by decide +kernel
theorem dL_between_12 : decode cL_between 12 = .ok (.ireturn, 1) := by decide +kernel
theorem dL_place_0 : decode cL_place 0 = .ok (.aload_n 0, 1) := by decide +kernel
theorem dL_place_1 : decode cL_place 1 = .ok (.iload_n 1, 1) := by decide +kernel
theorem dL_place_2 : decode cL_place 2 = .ok (.invokestatic 9, 3) := by decide +kernel
theorem dL_place_5 : decode cL_place 5 = .ok (.istore_n 3, 1) := by decide +kernel
theorem dL_place_6 : decode cL_place 6 = .ok (.iload_n 2, 1) := by decide +kernel
theorem dL_place_7 : decode cL_place 7 = .ok (.ifCond .eq 9, 3) := by decide +kernel
theorem dL_place_10 : decode cL_place 10 = .ok (.iload_n 3, 1) := by decide +kernel
theorem dL_place_11 : decode cL_place 11 = .ok (.iconst 3, 1) := by decide +kernel
theorem dL_place_12 : decode cL_place 12 = .ok (.ishr, 1) := by decide +kernel
theorem dL_place_13 : decode cL_place 13 = .ok (.goto 7, 3) := by decide +kernel
theorem dL_place_16 : decode cL_place 16 = .ok (.iload_n 3, 1) := by decide +kernel
theorem dL_place_17 : decode cL_place 17 = .ok (.bipush 13, 2) := by decide +kernel
theorem dL_place_19 : decode cL_place 19 = .ok (.ishr, 1) := by decide +kernel
theorem dL_place_20 : decode cL_place 20 = .ok (.istore 4, 2) := by decide +kernel
theorem dL_place_22 : decode cL_place 22 = .ok (.iload_n 3, 1) := by decide +kernel
theorem dL_place_23 : decode cL_place 23 = .ok (.iconst 3, 1) := by decide +kernel
theorem dL_place_24 : decode cL_place 24 = .ok (.iand, 1) := by decide +kernel
theorem dL_place_25 : decode cL_place 25 = .ok (.lookupswitch 50 #[(0, 27), (1, 37)], 27) := by decide +kernel
theorem dL_place_52 : decode cL_place 52 = .ok (.iload 4, 2) := by decide +kernel
theorem dL_place_54 : decode cL_place 54 = .ok (.iconst 0, 1) := by decide +kernel
theorem dL_place_55 : decode cL_place 55 = .ok (.sipush 1023, 3) := by decide +kernel
theorem dL_place_58 : decode cL_place 58 = .ok (.invokestatic 15, 3) := by decide +kernel
theorem dL_place_61 : decode cL_place 61 = .ok (.ireturn, 1) := by decide +kernel
theorem dL_place_62 : decode cL_place 62 = .ok (.sipush 500, 3) := by decide +kernel
theorem dL_place_65 : decode cL_place 65 = .ok (.iload 4, 2) := by decide +kernel
theorem dL_place_67 : decode cL_place 67 = .ok (.iconst 0, 1) := by decide +kernel
theorem dL_place_68 : decode cL_place 68 = .ok (.bipush 30, 2) := by decide +kernel
theorem dL_place_70 : decode cL_place 70 = .ok (.invokestatic 15, 3) := by decide +kernel
theorem dL_place_73 : decode cL_place 73 = .ok (.iadd, 1) := by decide +kernel
theorem dL_place_74 : decode cL_place 74 = .ok (.ireturn, 1) := by decide +kernel
theorem dL_place_75 : decode cL_place 75 = .ok (.bipush 16, 2) := by decide +kernel
theorem dL_place_77 : decode cL_place 77 = .ok (.iload 4, 2) := by decide +kernel
theorem dL_place_79 : decode cL_place 79 = .ok (.iconst 0, 1) := by decide +kernel
theorem dL_place_80 : decode cL_place 80 = .ok (.bipush 9, 2) := by decide +kernel
theorem dL_place_82 : decode cL_place 82 = .ok (.invokestatic 15, 3) := by decide +kernel
theorem dL_place_85 : decode cL_place 85 = .ok (.imul, 1) := by decide +kernel
theorem dL_place_86 : decode cL_place 86 = .ok (.ireturn, 1) := by decide +kernel
theorem dL_many_0 : decode cL_many 0 = .ok (.aload_n 0, 1) := by decide +kernel
theorem dL_many_1 : decode cL_many 1 = .ok (.iconst 0, 1) := by decide +kernel
theorem dL_many_2 : decode cL_many 2 = .ok (.invokestatic 9, 3) := by decide +kernel
theorem dL_many_5 : decode cL_many 5 = .ok (.iconst 0, 1) := by decide +kernel
theorem dL_many_6 : decode cL_many 6 = .ok (.bipush 24, 2) := by decide +kernel
theorem dL_many_8 : decode cL_many 8 = .ok (.invokestatic 15, 3) := by decide +kernel
theorem dL_many_11 : decode cL_many 11 = .ok (.ireturn, 1) := by decide +kernel
theorem dL_comes_0 : decode cL_comes 0 = .ok (.aload_n 0, 1) := by decide +kernel
theorem dL_comes_1 : decode cL_comes 1 = .ok (.aload_n 1, 1) := by decide +kernel
theorem dL_comes_2 : decode cL_comes 2 = .ok (.iconst 1, 1) := by decide +kernel
theorem dL_comes_3 : decode cL_comes 3 = .ok (.iload_n 2, 1) := by decide +kernel
theorem dL_comes_4 : decode cL_comes 4 = .ok (.iadd, 1) := by decide +kernel
theorem dL_comes_5 : decode cL_comes 5 = .ok (.iconst 1, 1) := by decide +kernel
theorem dL_comes_6 : decode cL_comes 6 = .ok (.invokestatic 19, 3) := by decide +kernel
theorem dL_comes_9 : decode cL_comes 9 = .ok (.aload_n 1, 1) := by decide +kernel
theorem dL_comes_10 : decode cL_comes 10 = .ok (.iconst 1, 1) := by decide +kernel
theorem dL_comes_11 : decode cL_comes 11 = .ok (.iload_n 2, 1) := by decide +kernel
theorem dL_comes_12 : decode cL_comes 12 = .ok (.iadd, 1) := by decide +kernel
theorem dL_comes_13 : decode cL_comes 13 = .ok (.iconst 0, 1) := by decide +kernel
theorem dL_comes_14 : decode cL_comes 14 = .ok (.invokestatic 19, 3) := by decide +kernel
theorem dL_comes_17 : decode cL_comes 17 = .ok (.aload_n 1, 1) := by decide +kernel
theorem dL_comes_18 : decode cL_comes 18 = .ok (.bipush 30, 2) := by decide +kernel
theorem dL_comes_20 : decode cL_comes 20 = .ok (.iload_n 2, 1) := by decide +kernel
theorem dL_comes_21 : decode cL_comes 21 = .ok (.iadd, 1) := by decide +kernel
theorem dL_comes_22 : decode cL_comes 22 = .ok (.invokestatic 9, 3) := by decide +kernel
theorem dL_comes_25 : decode cL_comes 25 = .ok (.iconst 1, 1) := by decide +kernel
theorem dL_comes_26 : decode cL_comes 26 = .ok (.bipush 99, 2) := by decide +kernel
theorem dL_comes_28 : decode cL_comes 28 = .ok (.invokestatic 15, 3) := by decide +kernel
theorem dL_comes_31 : decode cL_comes 31 = .ok (.invokevirtual 23, 3) := by decide +kernel
theorem dL_comes_34 : decode cL_comes 34 = .ok (.pop, 1) := by decide +kernel
theorem dL_comes_35 : decode cL_comes 35 = .ok (.return_, 1) := by decide +kernel
theorem dL_law_0 : decode cL_law 0 = .ok (.new 24, 3) := by decide +kernel
theorem dL_law_3 : decode cL_law 3 = .ok (.dup, 1) := by decide +kernel
theorem dL_law_4 : decode cL_law 4 = .ok (.invokespecial 28, 3) := by decide +kernel
theorem dL_law_7 : decode cL_law 7 = .ok (.astore_n 1, 1) := by decide +kernel
theorem dL_law_8 : decode cL_law 8 = .ok (.new 24, 3) := by decide +kernel
theorem dL_law_11 : decode cL_law 11 = .ok (.dup, 1) := by decide +kernel
theorem dL_law_12 : decode cL_law 12 = .ok (.invokespecial 28, 3) := by decide +kernel
theorem dL_law_15 : decode cL_law 15 = .ok (.astore_n 2, 1) := by decide +kernel
theorem dL_law_16 : decode cL_law 16 = .ok (.aload_n 0, 1) := by decide +kernel
theorem dL_law_17 : decode cL_law 17 = .ok (.invokestatic 29, 3) := by decide +kernel
theorem dL_law_20 : decode cL_law 20 = .ok (.istore_n 3, 1) := by decide +kernel
theorem dL_law_21 : decode cL_law 21 = .ok (.iconst 0, 1) := by decide +kernel
theorem dL_law_22 : decode cL_law 22 = .ok (.istore 4, 2) := by decide +kernel
theorem dL_law_24 : decode cL_law 24 = .ok (.iload 4, 2) := by decide +kernel
theorem dL_law_26 : decode cL_law 26 = .ok (.iload_n 3, 1) := by decide +kernel
theorem dL_law_27 : decode cL_law 27 = .ok (.if_icmp .ge 16, 3) := by decide +kernel
theorem dL_law_30 : decode cL_law 30 = .ok (.aload_n 1, 1) := by decide +kernel
theorem dL_law_31 : decode cL_law 31 = .ok (.aload_n 0, 1) := by decide +kernel
theorem dL_law_32 : decode cL_law 32 = .ok (.iload 4, 2) := by decide +kernel
theorem dL_law_34 : decode cL_law 34 = .ok (.invokestatic 33, 3) := by decide +kernel
theorem dL_law_37 : decode cL_law 37 = .ok (.iinc 4 1, 3) := by decide +kernel
theorem dL_law_40 : decode cL_law 40 = .ok (.goto (-16), 3) := by decide +kernel
theorem dL_law_43 : decode cL_law 43 = .ok (.aload_n 1, 1) := by decide +kernel
theorem dL_law_44 : decode cL_law 44 = .ok (.iconst 0, 1) := by decide +kernel
theorem dL_law_45 : decode cL_law 45 = .ok (.invokevirtual 37, 3) := by decide +kernel
theorem dL_law_48 : decode cL_law 48 = .ok (.istore 4, 2) := by decide +kernel
theorem dL_law_50 : decode cL_law 50 = .ok (.iconst 0, 1) := by decide +kernel
theorem dL_law_51 : decode cL_law 51 = .ok (.istore 5, 2) := by decide +kernel
theorem dL_law_53 : decode cL_law 53 = .ok (.iload 5, 2) := by decide +kernel
theorem dL_law_55 : decode cL_law 55 = .ok (.iload 4, 2) := by decide +kernel
theorem dL_law_57 : decode cL_law 57 = .ok (.if_icmp .ge 211, 3) := by decide +kernel
theorem dL_law_60 : decode cL_law 60 = .ok (.iload 5, 2) := by decide +kernel
theorem dL_law_62 : decode cL_law 62 = .ok (.bipush 7, 2) := by decide +kernel
theorem dL_law_64 : decode cL_law 64 = .ok (.imul, 1) := by decide +kernel
theorem dL_law_65 : decode cL_law 65 = .ok (.aload_n 0, 1) := by decide +kernel
theorem dL_law_66 : decode cL_law 66 = .ok (.bipush 60, 2) := by decide +kernel
theorem dL_law_68 : decode cL_law 68 = .ok (.invokestatic 9, 3) := by decide +kernel
theorem dL_law_71 : decode cL_law 71 = .ok (.iconst 0, 1) := by decide +kernel
theorem dL_law_72 : decode cL_law 72 = .ok (.bipush 23, 2) := by decide +kernel
theorem dL_law_74 : decode cL_law 74 = .ok (.invokestatic 15, 3) := by decide +kernel
theorem dL_law_77 : decode cL_law 77 = .ok (.iadd, 1) := by decide +kernel
theorem dL_law_78 : decode cL_law 78 = .ok (.iload 4, 2) := by decide +kernel
theorem dL_law_80 : decode cL_law 80 = .ok (.irem, 1) := by decide +kernel
theorem dL_law_81 : decode cL_law 81 = .ok (.istore 6, 2) := by decide +kernel
theorem dL_law_83 : decode cL_law 83 = .ok (.iconst 0, 1) := by decide +kernel
theorem dL_law_84 : decode cL_law 84 = .ok (.istore 7, 2) := by decide +kernel
theorem dL_law_86 : decode cL_law 86 = .ok (.iconst 0, 1) := by decide +kernel
theorem dL_law_87 : decode cL_law 87 = .ok (.istore 8, 2) := by decide +kernel
theorem dL_law_89 : decode cL_law 89 = .ok (.iload 8, 2) := by decide +kernel
theorem dL_law_91 : decode cL_law 91 = .ok (.iload 4, 2) := by decide +kernel
theorem dL_law_93 : decode cL_law 93 = .ok (.if_icmp .ge 79, 3) := by decide +kernel
theorem dL_law_96 : decode cL_law 96 = .ok (.iload 6, 2) := by decide +kernel
theorem dL_law_98 : decode cL_law 98 = .ok (.iload 8, 2) := by decide +kernel
theorem dL_law_100 : decode cL_law 100 = .ok (.iadd, 1) := by decide +kernel
theorem dL_law_101 : decode cL_law 101 = .ok (.iload 4, 2) := by decide +kernel
theorem dL_law_103 : decode cL_law 103 = .ok (.irem, 1) := by decide +kernel
theorem dL_law_104 : decode cL_law 104 = .ok (.istore 9, 2) := by decide +kernel
theorem dL_law_106 : decode cL_law 106 = .ok (.aload_n 2, 1) := by decide +kernel
theorem dL_law_107 : decode cL_law 107 = .ok (.aload_n 1, 1) := by decide +kernel
theorem dL_law_108 : decode cL_law 108 = .ok (.iload 9, 2) := by decide +kernel
theorem dL_law_110 : decode cL_law 110 = .ok (.iconst 0, 1) := by decide +kernel
theorem dL_law_111 : decode cL_law 111 = .ok (.invokevirtual 41, 3) := by decide +kernel
theorem dL_law_114 : decode cL_law 114 = .ok (.aload_n 1, 1) := by decide +kernel
theorem dL_law_115 : decode cL_law 115 = .ok (.iload 9, 2) := by decide +kernel
theorem dL_law_117 : decode cL_law 117 = .ok (.iconst 1, 1) := by decide +kernel
theorem dL_law_118 : decode cL_law 118 = .ok (.invokevirtual 41, 3) := by decide +kernel
theorem dL_law_121 : decode cL_law 121 = .ok (.invokevirtual 45, 3) := by decide +kernel
theorem dL_law_124 : decode cL_law 124 = .ok (.ifCond .lt 6, 3) := by decide +kernel
theorem dL_law_127 : decode cL_law 127 = .ok (.goto 39, 3) := by decide +kernel
theorem dL_law_130 : decode cL_law 130 = .ok (.aload_n 2, 1) := by decide +kernel
theorem dL_law_131 : decode cL_law 131 = .ok (.aload_n 1, 1) := by decide +kernel
theorem dL_law_132 : decode cL_law 132 = .ok (.iload 9, 2) := by decide +kernel
theorem dL_law_134 : decode cL_law 134 = .ok (.iconst 0, 1) := by decide +kernel
theorem dL_law_135 : decode cL_law 135 = .ok (.invokevirtual 41, 3) := by decide +kernel
theorem dL_law_138 : decode cL_law 138 = .ok (.aload_n 1, 1) := by decide +kernel
theorem dL_law_139 : decode cL_law 139 = .ok (.iload 9, 2) := by decide +kernel
theorem dL_law_141 : decode cL_law 141 = .ok (.iconst 1, 1) := by decide +kernel
theorem dL_law_142 : decode cL_law 142 = .ok (.invokevirtual 41, 3) := by decide +kernel
theorem dL_law_145 : decode cL_law 145 = .ok (.aload_n 1, 1) := by decide +kernel
theorem dL_law_146 : decode cL_law 146 = .ok (.iload 9, 2) := by decide +kernel
theorem dL_law_148 : decode cL_law 148 = .ok (.iconst 2, 1) := by decide +kernel
theorem dL_law_149 : decode cL_law 149 = .ok (.invokevirtual 41, 3) := by decide +kernel
theorem dL_law_152 : decode cL_law 152 = .ok (.invokevirtual 23, 3) := by decide +kernel
theorem dL_law_155 : decode cL_law 155 = .ok (.ifCond .ge 5, 3) := by decide +kernel
theorem dL_law_158 : decode cL_law 158 = .ok (.iconst 0, 1) := by decide +kernel
theorem dL_law_159 : decode cL_law 159 = .ok (.ireturn, 1) := by decide +kernel
theorem dL_law_160 : decode cL_law 160 = .ok (.iconst 1, 1) := by decide +kernel
theorem dL_law_161 : decode cL_law 161 = .ok (.istore 7, 2) := by decide +kernel
theorem dL_law_163 : decode cL_law 163 = .ok (.goto 9, 3) := by decide +kernel
theorem dL_law_166 : decode cL_law 166 = .ok (.iinc 8 1, 3) := by decide +kernel
theorem dL_law_169 : decode cL_law 169 = .ok (.goto (-80), 3) := by decide +kernel
theorem dL_law_172 : decode cL_law 172 = .ok (.iload 7, 2) := by decide +kernel
theorem dL_law_174 : decode cL_law 174 = .ok (.ifCond .ne 5, 3) := by decide +kernel
theorem dL_law_177 : decode cL_law 177 = .ok (.iconst 0, 1) := by decide +kernel
theorem dL_law_178 : decode cL_law 178 = .ok (.ireturn, 1) := by decide +kernel
theorem dL_law_179 : decode cL_law 179 = .ok (.aload_n 2, 1) := by decide +kernel
theorem dL_law_180 : decode cL_law 180 = .ok (.iconst 0, 1) := by decide +kernel
theorem dL_law_181 : decode cL_law 181 = .ok (.invokevirtual 37, 3) := by decide +kernel
theorem dL_law_184 : decode cL_law 184 = .ok (.bipush 24, 2) := by decide +kernel
theorem dL_law_186 : decode cL_law 186 = .ok (.if_icmp .ge 76, 3) := by decide +kernel
theorem dL_law_189 : decode cL_law 189 = .ok (.aload_n 0, 1) := by decide +kernel
theorem dL_law_190 : decode cL_law 190 = .ok (.bipush 61, 2) := by decide +kernel
theorem dL_law_192 : decode cL_law 192 = .ok (.iload 5, 2) := by decide +kernel
theorem dL_law_194 : decode cL_law 194 = .ok (.iadd, 1) := by decide +kernel
theorem dL_law_195 : decode cL_law 195 = .ok (.invokestatic 9, 3) := by decide +kernel
theorem dL_law_198 : decode cL_law 198 = .ok (.iconst 3, 1) := by decide +kernel
theorem dL_law_199 : decode cL_law 199 = .ok (.iand, 1) := by decide +kernel
theorem dL_law_200 : decode cL_law 200 = .ok (.ifCond .ne 62, 3) := by decide +kernel
theorem dL_law_203 : decode cL_law 203 = .ok (.aload_n 2, 1) := by decide +kernel
theorem dL_law_204 : decode cL_law 204 = .ok (.sipush 1000, 3) := by decide +kernel
theorem dL_law_207 : decode cL_law 207 = .ok (.sipush 1000, 3) := by decide +kernel
theorem dL_law_210 : decode cL_law 210 = .ok (.invokevirtual 45, 3) := by decide +kernel
theorem dL_law_213 : decode cL_law 213 = .ok (.ifCond .ge 49, 3) := by decide +kernel
theorem dL_law_216 : decode cL_law 216 = .ok (.aload_n 1, 1) := by decide +kernel
theorem dL_law_217 : decode cL_law 217 = .ok (.sipush 1000, 3) := by decide +kernel
theorem dL_law_220 : decode cL_law 220 = .ok (.sipush 1000, 3) := by decide +kernel
theorem dL_law_223 : decode cL_law 223 = .ok (.invokevirtual 45, 3) := by decide +kernel
theorem dL_law_226 : decode cL_law 226 = .ok (.ifCond .ge 36, 3) := by decide +kernel
theorem dL_law_229 : decode cL_law 229 = .ok (.aload_n 2, 1) := by decide +kernel
theorem dL_law_230 : decode cL_law 230 = .ok (.sipush 1000, 3) := by decide +kernel
theorem dL_law_233 : decode cL_law 233 = .ok (.sipush 1000, 3) := by decide +kernel
theorem dL_law_236 : decode cL_law 236 = .ok (.iconst 5, 1) := by decide +kernel
theorem dL_law_237 : decode cL_law 237 = .ok (.invokevirtual 23, 3) := by decide +kernel
theorem dL_law_240 : decode cL_law 240 = .ok (.ifCond .lt 20, 3) := by decide +kernel
theorem dL_law_243 : decode cL_law 243 = .ok (.aload_n 2, 1) := by decide +kernel
theorem dL_law_244 : decode cL_law 244 = .ok (.aload_n 2, 1) := by decide +kernel
theorem dL_law_245 : decode cL_law 245 = .ok (.sipush 1000, 3) := by decide +kernel
theorem dL_law_248 : decode cL_law 248 = .ok (.sipush 1000, 3) := by decide +kernel
theorem dL_law_251 : decode cL_law 251 = .ok (.invokevirtual 45, 3) := by decide +kernel
theorem dL_law_254 : decode cL_law 254 = .ok (.invokevirtual 48, 3) := by decide +kernel
theorem dL_law_257 : decode cL_law 257 = .ok (.ifCond .ge 5, 3) := by decide +kernel
theorem dL_law_260 : decode cL_law 260 = .ok (.iconst 0, 1) := by decide +kernel
theorem dL_law_261 : decode cL_law 261 = .ok (.ireturn, 1) := by decide +kernel
theorem dL_law_262 : decode cL_law 262 = .ok (.iinc 5 1, 3) := by decide +kernel
theorem dL_law_265 : decode cL_law 265 = .ok (.goto (-212), 3) := by decide +kernel
theorem dL_law_268 : decode cL_law 268 = .ok (.aload_n 2, 1) := by decide +kernel
theorem dL_law_269 : decode cL_law 269 = .ok (.iconst 0, 1) := by decide +kernel
theorem dL_law_270 : decode cL_law 270 = .ok (.invokevirtual 37, 3) := by decide +kernel
theorem dL_law_273 : decode cL_law 273 = .ok (.iload 4, 2) := by decide +kernel
theorem dL_law_275 : decode cL_law 275 = .ok (.if_icmp .ne 31, 3) := by decide +kernel
theorem dL_law_278 : decode cL_law 278 = .ok (.aload_n 2, 1) := by decide +kernel
theorem dL_law_279 : decode cL_law 279 = .ok (.iconst 4, 1) := by decide +kernel
theorem dL_law_280 : decode cL_law 280 = .ok (.invokevirtual 37, 3) := by decide +kernel
theorem dL_law_283 : decode cL_law 283 = .ok (.aload_n 1, 1) := by decide +kernel
theorem dL_law_284 : decode cL_law 284 = .ok (.iconst 4, 1) := by decide +kernel
theorem dL_law_285 : decode cL_law 285 = .ok (.invokevirtual 37, 3) := by decide +kernel
theorem dL_law_288 : decode cL_law 288 = .ok (.if_icmp .ne 18, 3) := by decide +kernel
theorem dL_law_291 : decode cL_law 291 = .ok (.aload_n 2, 1) := by decide +kernel
theorem dL_law_292 : decode cL_law 292 = .ok (.bipush 8, 2) := by decide +kernel
theorem dL_law_294 : decode cL_law 294 = .ok (.invokevirtual 37, 3) := by decide +kernel
theorem dL_law_297 : decode cL_law 297 = .ok (.aload_n 1, 1) := by decide +kernel
theorem dL_law_298 : decode cL_law 298 = .ok (.bipush 8, 2) := by decide +kernel
theorem dL_law_300 : decode cL_law 300 = .ok (.invokevirtual 37, 3) := by decide +kernel
theorem dL_law_303 : decode cL_law 303 = .ok (.if_icmp .eq 5, 3) := by decide +kernel
theorem dL_law_306 : decode cL_law 306 = .ok (.iconst 0, 1) := by decide +kernel
theorem dL_law_307 : decode cL_law 307 = .ok (.ireturn, 1) := by decide +kernel
theorem dL_law_308 : decode cL_law 308 = .ok (.iconst 0, 1) := by decide +kernel
theorem dL_law_309 : decode cL_law 309 = .ok (.istore 5, 2) := by decide +kernel
theorem dL_law_311 : decode cL_law 311 = .ok (.iload 5, 2) := by decide +kernel
theorem dL_law_313 : decode cL_law 313 = .ok (.iload 4, 2) := by decide +kernel
theorem dL_law_315 : decode cL_law 315 = .ok (.iconst 1, 1) := by decide +kernel
theorem dL_law_316 : decode cL_law 316 = .ok (.isub, 1) := by decide +kernel
theorem dL_law_317 : decode cL_law 317 = .ok (.if_icmp .ge 46, 3) := by decide +kernel
theorem dL_law_320 : decode cL_law 320 = .ok (.iconst 0, 1) := by decide +kernel
theorem dL_law_321 : decode cL_law 321 = .ok (.istore 6, 2) := by decide +kernel
theorem dL_law_323 : decode cL_law 323 = .ok (.iload 6, 2) := by decide +kernel
theorem dL_law_325 : decode cL_law 325 = .ok (.bipush 9, 2) := by decide +kernel
theorem dL_law_327 : decode cL_law 327 = .ok (.if_icmp .ge 30, 3) := by decide +kernel
theorem dL_law_330 : decode cL_law 330 = .ok (.aload_n 2, 1) := by decide +kernel
theorem dL_law_331 : decode cL_law 331 = .ok (.iload 5, 2) := by decide +kernel
theorem dL_law_333 : decode cL_law 333 = .ok (.iload 6, 2) := by decide +kernel
theorem dL_law_335 : decode cL_law 335 = .ok (.invokevirtual 51, 3) := by decide +kernel
theorem dL_law_338 : decode cL_law 338 = .ok (.aload_n 1, 1) := by decide +kernel
theorem dL_law_339 : decode cL_law 339 = .ok (.iload 5, 2) := by decide +kernel
theorem dL_law_341 : decode cL_law 341 = .ok (.iload 6, 2) := by decide +kernel
theorem dL_law_343 : decode cL_law 343 = .ok (.invokevirtual 51, 3) := by decide +kernel
theorem dL_law_346 : decode cL_law 346 = .ok (.if_icmp .eq 5, 3) := by decide +kernel
theorem dL_law_349 : decode cL_law 349 = .ok (.iconst 0, 1) := by decide +kernel
theorem dL_law_350 : decode cL_law 350 = .ok (.ireturn, 1) := by decide +kernel
theorem dL_law_351 : decode cL_law 351 = .ok (.iinc 6 1, 3) := by decide +kernel
theorem dL_law_354 : decode cL_law 354 = .ok (.goto (-31), 3) := by decide +kernel
theorem dL_law_357 : decode cL_law 357 = .ok (.iinc 5 1, 3) := by decide +kernel
theorem dL_law_360 : decode cL_law 360 = .ok (.goto (-49), 3) := by decide +kernel
theorem dL_law_363 : decode cL_law 363 = .ok (.iconst 0, 1) := by decide +kernel
theorem dL_law_364 : decode cL_law 364 = .ok (.istore 5, 2) := by decide +kernel
theorem dL_law_366 : decode cL_law 366 = .ok (.iload 5, 2) := by decide +kernel
theorem dL_law_368 : decode cL_law 368 = .ok (.bipush 10, 2) := by decide +kernel
theorem dL_law_370 : decode cL_law 370 = .ok (.if_icmp .gt 446, 3) := by decide +kernel
theorem dL_law_373 : decode cL_law 373 = .ok (.aload_n 1, 1) := by decide +kernel
theorem dL_law_374 : decode cL_law 374 = .ok (.iload 5, 2) := by decide +kernel
theorem dL_law_376 : decode cL_law 376 = .ok (.invokevirtual 54, 3) := by decide +kernel
theorem dL_law_379 : decode cL_law 379 = .ok (.istore 6, 2) := by decide +kernel
theorem dL_law_381 : decode cL_law 381 = .ok (.aload_n 2, 1) := by decide +kernel
theorem dL_law_382 : decode cL_law 382 = .ok (.iload 5, 2) := by decide +kernel
theorem dL_law_384 : decode cL_law 384 = .ok (.invokevirtual 54, 3) := by decide +kernel
theorem dL_law_387 : decode cL_law 387 = .ok (.iload 6, 2) := by decide +kernel
theorem dL_law_389 : decode cL_law 389 = .ok (.if_icmp .ne 21, 3) := by decide +kernel
theorem dL_law_392 : decode cL_law 392 = .ok (.iload 5, 2) := by decide +kernel
theorem dL_law_394 : decode cL_law 394 = .ok (.ifCond .le 18, 3) := by decide +kernel
theorem dL_law_397 : decode cL_law 397 = .ok (.iload 6, 2) := by decide +kernel
theorem dL_law_399 : decode cL_law 399 = .ok (.aload_n 1, 1) := by decide +kernel
theorem dL_law_400 : decode cL_law 400 = .ok (.iload 5, 2) := by decide +kernel
theorem dL_law_402 : decode cL_law 402 = .ok (.iconst 1, 1) := by decide +kernel
theorem dL_law_403 : decode cL_law 403 = .ok (.isub, 1) := by decide +kernel
theorem dL_law_404 : decode cL_law 404 = .ok (.invokevirtual 54, 3) := by decide +kernel
theorem dL_law_407 : decode cL_law 407 = .ok (.if_icmp .ge 5, 3) := by decide +kernel
theorem dL_law_410 : decode cL_law 410 = .ok (.iconst 0, 1) := by decide +kernel
theorem dL_law_411 : decode cL_law 411 = .ok (.ireturn, 1) := by decide +kernel
theorem dL_law_412 : decode cL_law 412 = .ok (.iconst 0, 1) := by decide +kernel
theorem dL_law_413 : decode cL_law 413 = .ok (.istore 7, 2) := by decide +kernel
theorem dL_law_415 : decode cL_law 415 = .ok (.iconst 0, 1) := by decide +kernel
theorem dL_law_416 : decode cL_law 416 = .ok (.istore 8, 2) := by decide +kernel
theorem dL_law_418 : decode cL_law 418 = .ok (.iconst 0, 1) := by decide +kernel
theorem dL_law_419 : decode cL_law 419 = .ok (.istore 9, 2) := by decide +kernel
theorem dL_law_421 : decode cL_law 421 = .ok (.iconst 0, 1) := by decide +kernel
theorem dL_law_422 : decode cL_law 422 = .ok (.istore 10, 2) := by decide +kernel
theorem dL_law_424 : decode cL_law 424 = .ok (.iload 10, 2) := by decide +kernel
theorem dL_law_426 : decode cL_law 426 = .ok (.iload 6, 2) := by decide +kernel
theorem dL_law_428 : decode cL_law 428 = .ok (.if_icmp .ge 343, 3) := by decide +kernel
theorem dL_law_431 : decode cL_law 431 = .ok (.iload 10, 2) := by decide +kernel
theorem dL_law_433 : decode cL_law 433 = .ok (.ifCond .le 28, 3) := by decide +kernel
theorem dL_law_436 : decode cL_law 436 = .ok (.aload_n 1, 1) := by decide +kernel
theorem dL_law_437 : decode cL_law 437 = .ok (.iload 5, 2) := by decide +kernel
theorem dL_law_439 : decode cL_law 439 = .ok (.iload 10, 2) := by decide +kernel
theorem dL_law_441 : decode cL_law 441 = .ok (.iconst 0, 1) := by decide +kernel
theorem dL_law_442 : decode cL_law 442 = .ok (.invokevirtual 57, 3) := by decide +kernel
theorem dL_law_445 : decode cL_law 445 = .ok (.aload_n 1, 1) := by decide +kernel
theorem dL_law_446 : decode cL_law 446 = .ok (.iload 5, 2) := by decide +kernel
theorem dL_law_448 : decode cL_law 448 = .ok (.iload 10, 2) := by decide +kernel
theorem dL_law_450 : decode cL_law 450 = .ok (.iconst 1, 1) := by decide +kernel
theorem dL_law_451 : decode cL_law 451 = .ok (.isub, 1) := by decide +kernel
theorem dL_law_452 : decode cL_law 452 = .ok (.iconst 0, 1) := by decide +kernel
theorem dL_law_453 : decode cL_law 453 = .ok (.invokevirtual 57, 3) := by decide +kernel
theorem dL_law_456 : decode cL_law 456 = .ok (.if_icmp .gt 5, 3) := by decide +kernel
theorem dL_law_459 : decode cL_law 459 = .ok (.iconst 0, 1) := by decide +kernel
theorem dL_law_460 : decode cL_law 460 = .ok (.ireturn, 1) := by decide +kernel
theorem dL_law_461 : decode cL_law 461 = .ok (.iload 7, 2) := by decide +kernel
theorem dL_law_463 : decode cL_law 463 = .ok (.aload_n 1, 1) := by decide +kernel
theorem dL_law_464 : decode cL_law 464 = .ok (.iload 5, 2) := by decide +kernel
theorem dL_law_466 : decode cL_law 466 = .ok (.iload 10, 2) := by decide +kernel
theorem dL_law_468 : decode cL_law 468 = .ok (.iconst 1, 1) := by decide +kernel
theorem dL_law_469 : decode cL_law 469 = .ok (.invokevirtual 57, 3) := by decide +kernel
theorem dL_law_472 : decode cL_law 472 = .ok (.iadd, 1) := by decide +kernel
theorem dL_law_473 : decode cL_law 473 = .ok (.istore 7, 2) := by decide +kernel
theorem dL_law_475 : decode cL_law 475 = .ok (.iload 8, 2) := by decide +kernel
theorem dL_law_477 : decode cL_law 477 = .ok (.aload_n 1, 1) := by decide +kernel
theorem dL_law_478 : decode cL_law 478 = .ok (.iload 5, 2) := by decide +kernel
theorem dL_law_480 : decode cL_law 480 = .ok (.iload 10, 2) := by decide +kernel
theorem dL_law_482 : decode cL_law 482 = .ok (.iconst 2, 1) := by decide +kernel
theorem dL_law_483 : decode cL_law 483 = .ok (.invokevirtual 57, 3) := by decide +kernel
theorem dL_law_486 : decode cL_law 486 = .ok (.iadd, 1) := by decide +kernel
theorem dL_law_487 : decode cL_law 487 = .ok (.istore 8, 2) := by decide +kernel
theorem dL_law_489 : decode cL_law 489 = .ok (.iload 9, 2) := by decide +kernel
theorem dL_law_491 : decode cL_law 491 = .ok (.iload 5, 2) := by decide +kernel
theorem dL_law_493 : decode cL_law 493 = .ok (.bipush 10, 2) := by decide +kernel
theorem dL_law_495 : decode cL_law 495 = .ok (.if_icmp .ge 16, 3) := by decide +kernel
theorem dL_law_498 : decode cL_law 498 = .ok (.aload_n 1, 1) := by decide +kernel
theorem dL_law_499 : decode cL_law 499 = .ok (.iload 5, 2) := by decide +kernel
theorem dL_law_501 : decode cL_law 501 = .ok (.iload 10, 2) := by decide +kernel
theorem dL_law_503 : decode cL_law 503 = .ok (.bipush 11, 2) := by decide +kernel
theorem dL_law_505 : decode cL_law 505 = .ok (.invokevirtual 57, 3) := by decide +kernel
theorem dL_law_508 : decode cL_law 508 = .ok (.goto 4, 3) := by decide +kernel
theorem dL_law_511 : decode cL_law 511 = .ok (.iconst 0, 1) := by decide +kernel
theorem dL_law_512 : decode cL_law 512 = .ok (.iadd, 1) := by decide +kernel
theorem dL_law_513 : decode cL_law 513 = .ok (.istore 9, 2) := by decide +kernel
theorem dL_law_515 : decode cL_law 515 = .ok (.iconst 0, 1) := by decide +kernel
theorem dL_law_516 : decode cL_law 516 = .ok (.istore 11, 2) := by decide +kernel
theorem dL_law_518 : decode cL_law 518 = .ok (.iconst 0, 1) := by decide +kernel
theorem dL_law_519 : decode cL_law 519 = .ok (.istore 12, 2) := by decide +kernel
theorem dL_law_521 : decode cL_law 521 = .ok (.iload 5, 2) := by decide +kernel
theorem dL_law_523 : decode cL_law 523 = .ok (.bipush 10, 2) := by decide +kernel
theorem dL_law_525 : decode cL_law 525 = .ok (.if_icmp .ge 102, 3) := by decide +kernel
theorem dL_law_528 : decode cL_law 528 = .ok (.iload 12, 2) := by decide +kernel
theorem dL_law_530 : decode cL_law 530 = .ok (.aload_n 1, 1) := by decide +kernel
theorem dL_law_531 : decode cL_law 531 = .ok (.iload 5, 2) := by decide +kernel
theorem dL_law_533 : decode cL_law 533 = .ok (.iload 10, 2) := by decide +kernel
theorem dL_law_535 : decode cL_law 535 = .ok (.bipush 11, 2) := by decide +kernel
theorem dL_law_537 : decode cL_law 537 = .ok (.invokevirtual 57, 3) := by decide +kernel
theorem dL_law_540 : decode cL_law 540 = .ok (.if_icmp .ge 87, 3) := by decide +kernel
theorem dL_law_543 : decode cL_law 543 = .ok (.aload_n 1, 1) := by decide +kernel
theorem dL_law_544 : decode cL_law 544 = .ok (.iload 5, 2) := by decide +kernel
theorem dL_law_546 : decode cL_law 546 = .ok (.iload 10, 2) := by decide +kernel
theorem dL_law_548 : decode cL_law 548 = .ok (.iload 12, 2) := by decide +kernel
theorem dL_law_550 : decode cL_law 550 = .ok (.invokevirtual 60, 3) := by decide +kernel
theorem dL_law_553 : decode cL_law 553 = .ok (.istore 13, 2) := by decide +kernel
theorem dL_law_555 : decode cL_law 555 = .ok (.iload 11, 2) := by decide +kernel
theorem dL_law_557 : decode cL_law 557 = .ok (.aload_n 1, 1) := by decide +kernel
theorem dL_law_558 : decode cL_law 558 = .ok (.iload 5, 2) := by decide +kernel
theorem dL_law_560 : decode cL_law 560 = .ok (.iconst 1, 1) := by decide +kernel
theorem dL_law_561 : decode cL_law 561 = .ok (.iadd, 1) := by decide +kernel
theorem dL_law_562 : decode cL_law 562 = .ok (.iload 13, 2) := by decide +kernel
theorem dL_law_564 : decode cL_law 564 = .ok (.iconst 2, 1) := by decide +kernel
theorem dL_law_565 : decode cL_law 565 = .ok (.invokevirtual 57, 3) := by decide +kernel
theorem dL_law_568 : decode cL_law 568 = .ok (.iadd, 1) := by decide +kernel
theorem dL_law_569 : decode cL_law 569 = .ok (.istore 11, 2) := by decide +kernel
theorem dL_law_571 : decode cL_law 571 = .ok (.iconst 0, 1) := by decide +kernel
theorem dL_law_572 : decode cL_law 572 = .ok (.istore 14, 2) := by decide +kernel
theorem dL_law_574 : decode cL_law 574 = .ok (.iload 14, 2) := by decide +kernel
theorem dL_law_576 : decode cL_law 576 = .ok (.aload_n 1, 1) := by decide +kernel
theorem dL_law_577 : decode cL_law 577 = .ok (.iload 5, 2) := by decide +kernel
theorem dL_law_579 : decode cL_law 579 = .ok (.iconst 1, 1) := by decide +kernel
theorem dL_law_580 : decode cL_law 580 = .ok (.iadd, 1) := by decide +kernel
theorem dL_law_581 : decode cL_law 581 = .ok (.iload 13, 2) := by decide +kernel
theorem dL_law_583 : decode cL_law 583 = .ok (.iconst 1, 1) := by decide +kernel
theorem dL_law_584 : decode cL_law 584 = .ok (.invokevirtual 57, 3) := by decide +kernel
theorem dL_law_587 : decode cL_law 587 = .ok (.if_icmp .ge 34, 3) := by decide +kernel
theorem dL_law_590 : decode cL_law 590 = .ok (.aload_n 1, 1) := by decide +kernel
theorem dL_law_591 : decode cL_law 591 = .ok (.iload 5, 2) := by decide +kernel
theorem dL_law_593 : decode cL_law 593 = .ok (.aload_n 1, 1) := by decide +kernel
theorem dL_law_594 : decode cL_law 594 = .ok (.iload 5, 2) := by decide +kernel
theorem dL_law_596 : decode cL_law 596 = .ok (.iconst 1, 1) := by decide +kernel
theorem dL_law_597 : decode cL_law 597 = .ok (.iadd, 1) := by decide +kernel
theorem dL_law_598 : decode cL_law 598 = .ok (.iload 13, 2) := by decide +kernel
theorem dL_law_600 : decode cL_law 600 = .ok (.iload 14, 2) := by decide +kernel
theorem dL_law_602 : decode cL_law 602 = .ok (.invokevirtual 63, 3) := by decide +kernel
theorem dL_law_605 : decode cL_law 605 = .ok (.invokevirtual 66, 3) := by decide +kernel
theorem dL_law_608 : decode cL_law 608 = .ok (.iload 10, 2) := by decide +kernel
theorem dL_law_610 : decode cL_law 610 = .ok (.if_icmp .eq 5, 3) := by decide +kernel
theorem dL_law_613 : decode cL_law 613 = .ok (.iconst 0, 1) := by decide +kernel
theorem dL_law_614 : decode cL_law 614 = .ok (.ireturn, 1) := by decide +kernel
theorem dL_law_615 : decode cL_law 615 = .ok (.iinc 14 1, 3) := by decide +kernel
theorem dL_law_618 : decode cL_law 618 = .ok (.goto (-44), 3) := by decide +kernel
theorem dL_law_621 : decode cL_law 621 = .ok (.iinc 12 1, 3) := by decide +kernel
theorem dL_law_624 : decode cL_law 624 = .ok (.goto (-103), 3) := by decide +kernel
theorem dL_law_627 : decode cL_law 627 = .ok (.iload 5, 2) := by decide +kernel
theorem dL_law_629 : decode cL_law 629 = .ok (.bipush 10, 2) := by decide +kernel
theorem dL_law_631 : decode cL_law 631 = .ok (.if_icmp .ge 41, 3) := by decide +kernel
theorem dL_law_634 : decode cL_law 634 = .ok (.iload 11, 2) := by decide +kernel
theorem dL_law_636 : decode cL_law 636 = .ok (.aload_n 1, 1) := by decide +kernel
theorem dL_law_637 : decode cL_law 637 = .ok (.iload 5, 2) := by decide +kernel
theorem dL_law_639 : decode cL_law 639 = .ok (.iload 10, 2) := by decide +kernel
theorem dL_law_641 : decode cL_law 641 = .ok (.iconst 2, 1) := by decide +kernel
theorem dL_law_642 : decode cL_law 642 = .ok (.invokevirtual 57, 3) := by decide +kernel
theorem dL_law_645 : decode cL_law 645 = .ok (.if_icmp .ne 25, 3) := by decide +kernel
theorem dL_law_648 : decode cL_law 648 = .ok (.aload_n 1, 1) := by decide +kernel
theorem dL_law_649 : decode cL_law 649 = .ok (.iload 5, 2) := by decide +kernel
theorem dL_law_651 : decode cL_law 651 = .ok (.iload 10, 2) := by decide +kernel
theorem dL_law_653 : decode cL_law 653 = .ok (.aload_n 1, 1) := by decide +kernel
theorem dL_law_654 : decode cL_law 654 = .ok (.iload 5, 2) := by decide +kernel
theorem dL_law_656 : decode cL_law 656 = .ok (.iload 10, 2) := by decide +kernel
theorem dL_law_658 : decode cL_law 658 = .ok (.bipush 11, 2) := by decide +kernel
theorem dL_law_660 : decode cL_law 660 = .ok (.invokevirtual 57, 3) := by decide +kernel
theorem dL_law_663 : decode cL_law 663 = .ok (.invokevirtual 60, 3) := by decide +kernel
theorem dL_law_666 : decode cL_law 666 = .ok (.iconst (-1), 1) := by decide +kernel
theorem dL_law_667 : decode cL_law 667 = .ok (.if_icmp .eq 5, 3) := by decide +kernel
theorem dL_law_670 : decode cL_law 670 = .ok (.iconst 0, 1) := by decide +kernel
theorem dL_law_671 : decode cL_law 671 = .ok (.ireturn, 1) := by decide +kernel
theorem dL_law_672 : decode cL_law 672 = .ok (.aload_n 1, 1) := by decide +kernel
theorem dL_law_673 : decode cL_law 673 = .ok (.iload 5, 2) := by decide +kernel
theorem dL_law_675 : decode cL_law 675 = .ok (.iload 10, 2) := by decide +kernel
theorem dL_law_677 : decode cL_law 677 = .ok (.bipush 10, 2) := by decide +kernel
theorem dL_law_679 : decode cL_law 679 = .ok (.invokevirtual 57, 3) := by decide +kernel
theorem dL_law_682 : decode cL_law 682 = .ok (.istore 12, 2) := by decide +kernel
theorem dL_law_684 : decode cL_law 684 = .ok (.iload 12, 2) := by decide +kernel
theorem dL_law_686 : decode cL_law 686 = .ok (.iconst (-1), 1) := by decide +kernel
theorem dL_law_687 : decode cL_law 687 = .ok (.if_icmp .ne 7, 3) := by decide +kernel
theorem dL_law_690 : decode cL_law 690 = .ok (.iconst 1, 1) := by decide +kernel
theorem dL_law_691 : decode cL_law 691 = .ok (.goto 4, 3) := by decide +kernel
theorem dL_law_694 : decode cL_law 694 = .ok (.iconst 0, 1) := by decide +kernel
theorem dL_law_695 : decode cL_law 695 = .ok (.aload_n 1, 1) := by decide +kernel
theorem dL_law_696 : decode cL_law 696 = .ok (.iload 5, 2) := by decide +kernel
theorem dL_law_698 : decode cL_law 698 = .ok (.iload 10, 2) := by decide +kernel
theorem dL_law_700 : decode cL_law 700 = .ok (.iconst 1, 1) := by decide +kernel
theorem dL_law_701 : decode cL_law 701 = .ok (.invokevirtual 57, 3) := by decide +kernel
theorem dL_law_704 : decode cL_law 704 = .ok (.iconst 1, 1) := by decide +kernel
theorem dL_law_705 : decode cL_law 705 = .ok (.if_icmp .ne 7, 3) := by decide +kernel
theorem dL_law_708 : decode cL_law 708 = .ok (.iconst 1, 1) := by decide +kernel
theorem dL_law_709 : decode cL_law 709 = .ok (.goto 4, 3) := by decide +kernel
theorem dL_law_712 : decode cL_law 712 = .ok (.iconst 0, 1) := by decide +kernel
theorem dL_law_713 : decode cL_law 713 = .ok (.if_icmp .ne 50, 3) := by decide +kernel
theorem dL_law_716 : decode cL_law 716 = .ok (.iload 12, 2) := by decide +kernel
theorem dL_law_718 : decode cL_law 718 = .ok (.ifCond .lt 47, 3) := by decide +kernel
theorem dL_law_721 : decode cL_law 721 = .ok (.aload_n 1, 1) := by decide +kernel
theorem dL_law_722 : decode cL_law 722 = .ok (.iload 12, 2) := by decide +kernel
theorem dL_law_724 : decode cL_law 724 = .ok (.iconst 3, 1) := by decide +kernel
theorem dL_law_725 : decode cL_law 725 = .ok (.invokevirtual 51, 3) := by decide +kernel
theorem dL_law_728 : decode cL_law 728 = .ok (.aload_n 1, 1) := by decide +kernel
theorem dL_law_729 : decode cL_law 729 = .ok (.iload 5, 2) := by decide +kernel
theorem dL_law_731 : decode cL_law 731 = .ok (.iload 10, 2) := by decide +kernel
theorem dL_law_733 : decode cL_law 733 = .ok (.iconst 1, 1) := by decide +kernel
theorem dL_law_734 : decode cL_law 734 = .ok (.invokevirtual 57, 3) := by decide +kernel
theorem dL_law_737 : decode cL_law 737 = .ok (.if_icmp .ne 26, 3) := by decide +kernel
theorem dL_law_740 : decode cL_law 740 = .ok (.aload_n 1, 1) := by decide +kernel
theorem dL_law_741 : decode cL_law 741 = .ok (.iload 12, 2) := by decide +kernel
theorem dL_law_743 : decode cL_law 743 = .ok (.iconst 0, 1) := by decide +kernel
theorem dL_law_744 : decode cL_law 744 = .ok (.invokevirtual 51, 3) := by decide +kernel
theorem dL_law_747 : decode cL_law 747 = .ok (.sipush 1024, 3) := by decide +kernel
theorem dL_law_750 : decode cL_law 750 = .ok (.iload 5, 2) := by decide +kernel
theorem dL_law_752 : decode cL_law 752 = .ok (.ishr, 1) := by decide +kernel
theorem dL_law_753 : decode cL_law 753 = .ok (.sipush 1024, 3) := by decide +kernel
theorem dL_law_756 : decode cL_law 756 = .ok (.iload 5, 2) := by decide +kernel
theorem dL_law_758 : decode cL_law 758 = .ok (.ishr, 1) := by decide +kernel
theorem dL_law_759 : decode cL_law 759 = .ok (.imul, 1) := by decide +kernel
theorem dL_law_760 : decode cL_law 760 = .ok (.if_icmp .le 5, 3) := by decide +kernel
theorem dL_law_763 : decode cL_law 763 = .ok (.iconst 0, 1) := by decide +kernel
theorem dL_law_764 : decode cL_law 764 = .ok (.ireturn, 1) := by decide +kernel
