theorem dX10_houseLine_12 : decode cX10_houseLine 12 = .ok (.getfield 23, 3) := by decide +kernel
theorem dX10_houseLine_15 : decode cX10_houseLine 15 = .ok (.iconst 3, 1) := by decide +kernel
theorem dX10_houseLine_16 : decode cX10_houseLine 16 = .ok (.iaload, 1) := by decide +kernel
theorem dX10_houseLine_17 : decode cX10_houseLine 17 = .ok (.imul, 1) := by decide +kernel
theorem dX10_houseLine_18 : decode cX10_houseLine 18 = .ok (.iadd, 1) := by decide +kernel
theorem dX10_houseLine_19 : decode cX10_houseLine 19 = .ok (.istore_n 1, 1) := by decide +kernel
theorem dX10_houseLine_20 : decode cX10_houseLine 20 = .ok (.aload_n 0, 1) := by decide +kernel
theorem dX10_houseLine_21 : decode cX10_houseLine 21 = .ok (.bipush 6, 2) := by decide +kernel
theorem dX10_houseLine_23 : decode cX10_houseLine 23 = .ok (.aload_n 0, 1) := by decide +kernel
theorem dX10_houseLine_24 : decode cX10_houseLine 24 = .ok (.getfield 23, 3) := by decide +kernel
theorem dX10_houseLine_27 : decode cX10_houseLine 27 = .ok (.iconst 3, 1) := by decide +kernel
theorem dX10_houseLine_28 : decode cX10_houseLine 28 = .ok (.iaload, 1) := by decide +kernel
theorem dX10_houseLine_29 : decode cX10_houseLine 29 = .ok (.iadd, 1) := by decide +kernel
theorem dX10_houseLine_30 : decode cX10_houseLine 30 = .ok (.invokevirtual 265, 3) := by decide +kernel
theorem dX10_houseLine_33 : decode cX10_houseLine 33 = .ok (.aload_n 0, 1) := by decide +kernel
theorem dX10_houseLine_34 : decode cX10_houseLine 34 = .ok (.getfield 23, 3) := by decide +kernel
theorem dX10_houseLine_37 : decode cX10_houseLine 37 = .ok (.iload_n 1, 1) := by decide +kernel
theorem dX10_houseLine_38 : decode cX10_houseLine 38 = .ok (.aload_n 0, 1) := by decide +kernel
theorem dX10_houseLine_39 : decode cX10_houseLine 39 = .ok (.ldc_w 274, 3) := by decide +kernel
theorem dX10_houseLine_42 : decode cX10_houseLine 42 = .ok (.iconst 0, 1) := by decide +kernel
theorem dX10_houseLine_43 : decode cX10_houseLine 43 = .ok (.sipush 999, 3) := by decide +kernel
theorem dX10_houseLine_46 : decode cX10_houseLine 46 = .ok (.invokevirtual 261, 3) := by decide +kernel
theorem dX10_houseLine_49 : decode cX10_houseLine 49 = .ok (.iastore, 1) := by decide +kernel
theorem dX10_houseLine_50 : decode cX10_houseLine 50 = .ok (.aload_n 0, 1) := by decide +kernel
theorem dX10_houseLine_51 : decode cX10_houseLine 51 = .ok (.getfield 23, 3) := by decide +kernel
theorem dX10_houseLine_54 : decode cX10_houseLine 54 = .ok (.iload_n 1, 1) := by decide +kernel
theorem dX10_houseLine_55 : decode cX10_houseLine 55 = .ok (.iconst 1, 1) := by decide +kernel
theorem dX10_houseLine_56 : decode cX10_houseLine 56 = .ok (.iadd, 1) := by decide +kernel
theorem dX10_houseLine_57 : decode cX10_houseLine 57 = .ok (.aload_n 0, 1) := by decide +kernel
theorem dX10_houseLine_58 : decode cX10_houseLine 58 = .ok (.ldc_w 276, 3) := by decide +kernel
theorem dX10_houseLine_61 : decode cX10_houseLine 61 = .ok (.iconst 1, 1) := by decide +kernel
theorem dX10_houseLine_62 : decode cX10_houseLine 62 = .ok (.bipush 99, 2) := by decide +kernel
theorem dX10_houseLine_64 : decode cX10_houseLine 64 = .ok (.invokevirtual 261, 3) := by decide +kernel
theorem dX10_houseLine_67 : decode cX10_houseLine 67 = .ok (.iastore, 1) := by decide +kernel
theorem dX10_houseLine_68 : decode cX10_houseLine 68 = .ok (.aload_n 0, 1) := by decide +kernel
theorem dX10_houseLine_69 : decode cX10_houseLine 69 = .ok (.getfield 23, 3) := by decide +kernel
theorem dX10_houseLine_72 : decode cX10_houseLine 72 = .ok (.iload_n 1, 1) := by decide +kernel
theorem dX10_houseLine_73 : decode cX10_houseLine 73 = .ok (.iconst 2, 1) := by decide +kernel
theorem dX10_houseLine_74 : decode cX10_houseLine 74 = .ok (.iadd, 1) := by decide +kernel
theorem dX10_houseLine_75 : decode cX10_houseLine 75 = .ok (.aload_n 0, 1) := by decide +kernel
theorem dX10_houseLine_76 : decode cX10_houseLine 76 = .ok (.ldc_w 278, 3) := by decide +kernel
theorem dX10_houseLine_79 : decode cX10_houseLine 79 = .ok (.iconst 0, 1) := by decide +kernel
theorem dX10_houseLine_80 : decode cX10_houseLine 80 = .ok (.bipush 99, 2) := by decide +kernel
theorem dX10_houseLine_82 : decode cX10_houseLine 82 = .ok (.invokevirtual 261, 3) := by decide +kernel
theorem dX10_houseLine_85 : decode cX10_houseLine 85 = .ok (.iastore, 1) := by decide +kernel
theorem dX10_houseLine_86 : decode cX10_houseLine 86 = .ok (.aload_n 0, 1) := by decide +kernel
theorem dX10_houseLine_87 : decode cX10_houseLine 87 = .ok (.getfield 89, 3) := by decide +kernel
theorem dX10_houseLine_90 : decode cX10_houseLine 90 = .ok (.ifCond .ne 13, 3) := by decide +kernel
theorem dX10_houseLine_93 : decode cX10_houseLine 93 = .ok (.aload_n 0, 1) := by decide +kernel
theorem dX10_houseLine_94 : decode cX10_houseLine 94 = .ok (.getfield 23, 3) := by decide +kernel
theorem dX10_houseLine_97 : decode cX10_houseLine 97 = .ok (.iconst 3, 1) := by decide +kernel
theorem dX10_houseLine_98 : decode cX10_houseLine 98 = .ok (.dup2, 1) := by decide +kernel
theorem dX10_houseLine_99 : decode cX10_houseLine 99 = .ok (.iaload, 1) := by decide +kernel
theorem dX10_houseLine_100 : decode cX10_houseLine 100 = .ok (.iconst 1, 1) := by decide +kernel
theorem dX10_houseLine_101 : decode cX10_houseLine 101 = .ok (.iadd, 1) := by decide +kernel
theorem dX10_houseLine_102 : decode cX10_houseLine 102 = .ok (.iastore, 1) := by decide +kernel
theorem dX10_houseLine_103 : decode cX10_houseLine 103 = .ok (.return_, 1) := by decide +kernel
theorem dX10_twinLine_0 : decode cX10_twinLine 0 = .ok (.aload_n 0, 1) := by decide +kernel
theorem dX10_twinLine_1 : decode cX10_twinLine 1 = .ok (.getfield 89, 3) := by decide +kernel
theorem dX10_twinLine_4 : decode cX10_twinLine 4 = .ok (.ifCond .eq 4, 3) := by decide +kernel
theorem dX10_twinLine_7 : decode cX10_twinLine 7 = .ok (.return_, 1) := by decide +kernel
theorem dX10_twinLine_8 : decode cX10_twinLine 8 = .ok (.bipush 41, 2) := by decide +kernel
theorem dX10_twinLine_10 : decode cX10_twinLine 10 = .ok (.iconst 2, 1) := by decide +kernel
theorem dX10_twinLine_11 : decode cX10_twinLine 11 = .ok (.aload_n 0, 1) := by decide +kernel
theorem dX10_twinLine_12 : decode cX10_twinLine 12 = .ok (.getfield 23, 3) := by decide +kernel
theorem dX10_twinLine_15 : decode cX10_twinLine 15 = .ok (.iconst 4, 1) := by decide +kernel
theorem dX10_twinLine_16 : decode cX10_twinLine 16 = .ok (.iaload, 1) := by decide +kernel
theorem dX10_twinLine_17 : decode cX10_twinLine 17 = .ok (.imul, 1) := by decide +kernel
theorem dX10_twinLine_18 : decode cX10_twinLine 18 = .ok (.iadd, 1) := by decide +kernel
theorem dX10_twinLine_19 : decode cX10_twinLine 19 = .ok (.istore_n 1, 1) := by decide +kernel
theorem dX10_twinLine_20 : decode cX10_twinLine 20 = .ok (.aload_n 0, 1) := by decide +kernel
theorem dX10_twinLine_21 : decode cX10_twinLine 21 = .ok (.invokevirtual 280, 3) := by decide +kernel
theorem dX10_twinLine_24 : decode cX10_twinLine 24 = .ok (.istore_n 2, 1) := by decide +kernel
theorem dX10_twinLine_25 : decode cX10_twinLine 25 = .ok (.aload_n 0, 1) := by decide +kernel
theorem dX10_twinLine_26 : decode cX10_twinLine 26 = .ok (.iconst 0, 1) := by decide +kernel
theorem dX10_twinLine_27 : decode cX10_twinLine 27 = .ok (.bipush 30, 2) := by decide +kernel
theorem dX10_twinLine_29 : decode cX10_twinLine 29 = .ok (.invokevirtual 164, 3) := by decide +kernel
theorem dX10_twinLine_32 : decode cX10_twinLine 32 = .ok (.istore_n 3, 1) := by decide +kernel
theorem dX10_twinLine_33 : decode cX10_twinLine 33 = .ok (.iconst 0, 1) := by decide +kernel
theorem dX10_twinLine_34 : decode cX10_twinLine 34 = .ok (.istore 4, 2) := by decide +kernel
theorem dX10_twinLine_36 : decode cX10_twinLine 36 = .ok (.iload 4, 2) := by decide +kernel
theorem dX10_twinLine_38 : decode cX10_twinLine 38 = .ok (.aload_n 0, 1) := by decide +kernel
theorem dX10_twinLine_39 : decode cX10_twinLine 39 = .ok (.getfield 23, 3) := by decide +kernel
theorem dX10_twinLine_42 : decode cX10_twinLine 42 = .ok (.iconst 4, 1) := by decide +kernel
theorem dX10_twinLine_43 : decode cX10_twinLine 43 = .ok (.iaload, 1) := by decide +kernel
theorem dX10_twinLine_44 : decode cX10_twinLine 44 = .ok (.if_icmp .ge 59, 3) := by decide +kernel
theorem dX10_twinLine_47 : decode cX10_twinLine 47 = .ok (.aload_n 0, 1) := by decide +kernel
theorem dX10_twinLine_48 : decode cX10_twinLine 48 = .ok (.getfield 89, 3) := by decide +kernel
theorem dX10_twinLine_51 : decode cX10_twinLine 51 = .ok (.ifCond .ne 46, 3) := by decide +kernel
theorem dX10_twinLine_54 : decode cX10_twinLine 54 = .ok (.aload_n 0, 1) := by decide +kernel
theorem dX10_twinLine_55 : decode cX10_twinLine 55 = .ok (.getfield 23, 3) := by decide +kernel
theorem dX10_twinLine_58 : decode cX10_twinLine 58 = .ok (.bipush 41, 2) := by decide +kernel
theorem dX10_twinLine_60 : decode cX10_twinLine 60 = .ok (.iconst 2, 1) := by decide +kernel
theorem dX10_twinLine_61 : decode cX10_twinLine 61 = .ok (.iload 4, 2) := by decide +kernel
theorem dX10_twinLine_63 : decode cX10_twinLine 63 = .ok (.imul, 1) := by decide +kernel
theorem dX10_twinLine_64 : decode cX10_twinLine 64 = .ok (.iadd, 1) := by decide +kernel
theorem dX10_twinLine_65 : decode cX10_twinLine 65 = .ok (.iaload, 1) := by decide +kernel
theorem dX10_twinLine_66 : decode cX10_twinLine 66 = .ok (.iload_n 2, 1) := by decide +kernel
theorem dX10_twinLine_67 : decode cX10_twinLine 67 = .ok (.if_icmp .ne 30, 3) := by decide +kernel
theorem dX10_twinLine_70 : decode cX10_twinLine 70 = .ok (.aload_n 0, 1) := by decide +kernel
theorem dX10_twinLine_71 : decode cX10_twinLine 71 = .ok (.getfield 23, 3) := by decide +kernel
theorem dX10_twinLine_74 : decode cX10_twinLine 74 = .ok (.bipush 41, 2) := by decide +kernel
theorem dX10_twinLine_76 : decode cX10_twinLine 76 = .ok (.iconst 2, 1) := by decide +kernel
theorem dX10_twinLine_77 : decode cX10_twinLine 77 = .ok (.iload 4, 2) := by decide +kernel
theorem dX10_twinLine_79 : decode cX10_twinLine 79 = .ok (.imul, 1) := by decide +kernel
theorem dX10_twinLine_80 : decode cX10_twinLine 80 = .ok (.iadd, 1) := by decide +kernel
theorem dX10_twinLine_81 : decode cX10_twinLine 81 = .ok (.iconst 1, 1) := by decide +kernel
theorem dX10_twinLine_82 : decode cX10_twinLine 82 = .ok (.iadd, 1) := by decide +kernel
theorem dX10_twinLine_83 : decode cX10_twinLine 83 = .ok (.iaload, 1) := by decide +kernel
theorem dX10_twinLine_84 : decode cX10_twinLine 84 = .ok (.iload_n 3, 1) := by decide +kernel
theorem dX10_twinLine_85 : decode cX10_twinLine 85 = .ok (.if_icmp .ne 12, 3) := by decide +kernel
theorem dX10_twinLine_88 : decode cX10_twinLine 88 = .ok (.aload_n 0, 1) := by decide +kernel
theorem dX10_twinLine_89 : decode cX10_twinLine 89 = .ok (.iconst 3, 1) := by decide +kernel
theorem dX10_twinLine_90 : decode cX10_twinLine 90 = .ok (.aload_n 0, 1) := by decide +kernel
theorem dX10_twinLine_91 : decode cX10_twinLine 91 = .ok (.getfield 70, 3) := by decide +kernel
theorem dX10_twinLine_94 : decode cX10_twinLine 94 = .ok (.invokevirtual 116, 3) := by decide +kernel
theorem dX10_twinLine_97 : decode cX10_twinLine 97 = .ok (.iinc 4 1, 3) := by decide +kernel
theorem dX10_twinLine_100 : decode cX10_twinLine 100 = .ok (.goto (-64), 3) := by decide +kernel
theorem dX10_twinLine_103 : decode cX10_twinLine 103 = .ok (.aload_n 0, 1) := by decide +kernel
theorem dX10_twinLine_104 : decode cX10_twinLine 104 = .ok (.getfield 89, 3) := by decide +kernel
theorem dX10_twinLine_107 : decode cX10_twinLine 107 = .ok (.ifCond .eq 4, 3) := by decide +kernel
theorem dX10_twinLine_110 : decode cX10_twinLine 110 = .ok (.return_, 1) := by decide +kernel
theorem dX10_twinLine_111 : decode cX10_twinLine 111 = .ok (.aload_n 0, 1) := by decide +kernel
theorem dX10_twinLine_112 : decode cX10_twinLine 112 = .ok (.invokevirtual 110, 3) := by decide +kernel
theorem dX10_twinLine_115 : decode cX10_twinLine 115 = .ok (.aload_n 0, 1) := by decide +kernel
theorem dX10_twinLine_116 : decode cX10_twinLine 116 = .ok (.getfield 23, 3) := by decide +kernel
theorem dX10_twinLine_119 : decode cX10_twinLine 119 = .ok (.iload_n 1, 1) := by decide +kernel
theorem dX10_twinLine_120 : decode cX10_twinLine 120 = .ok (.iload_n 2, 1) := by decide +kernel
theorem dX10_twinLine_121 : decode cX10_twinLine 121 = .ok (.iastore, 1) := by decide +kernel
theorem dX10_twinLine_122 : decode cX10_twinLine 122 = .ok (.aload_n 0, 1) := by decide +kernel
theorem dX10_twinLine_123 : decode cX10_twinLine 123 = .ok (.getfield 23, 3) := by decide +kernel
theorem dX10_twinLine_126 : decode cX10_twinLine 126 = .ok (.iload_n 1, 1) := by decide +kernel
theorem dX10_twinLine_127 : decode cX10_twinLine 127 = .ok (.iconst 1, 1) := by decide +kernel
theorem dX10_twinLine_128 : decode cX10_twinLine 128 = .ok (.iadd, 1) := by decide +kernel
theorem dX10_twinLine_129 : decode cX10_twinLine 129 = .ok (.iload_n 3, 1) := by decide +kernel
theorem dX10_twinLine_130 : decode cX10_twinLine 130 = .ok (.iastore, 1) := by decide +kernel
theorem dX10_twinLine_131 : decode cX10_twinLine 131 = .ok (.aload_n 0, 1) := by decide +kernel
theorem dX10_twinLine_132 : decode cX10_twinLine 132 = .ok (.getfield 23, 3) := by decide +kernel
theorem dX10_twinLine_135 : decode cX10_twinLine 135 = .ok (.iconst 4, 1) := by decide +kernel
theorem dX10_twinLine_136 : decode cX10_twinLine 136 = .ok (.dup2, 1) := by decide +kernel
theorem dX10_twinLine_137 : decode cX10_twinLine 137 = .ok (.iaload, 1) := by decide +kernel
theorem dX10_twinLine_138 : decode cX10_twinLine 138 = .ok (.iconst 1, 1) := by decide +kernel
theorem dX10_twinLine_139 : decode cX10_twinLine 139 = .ok (.iadd, 1) := by decide +kernel
theorem dX10_twinLine_140 : decode cX10_twinLine 140 = .ok (.iastore, 1) := by decide +kernel
theorem dX10_twinLine_141 : decode cX10_twinLine 141 = .ok (.return_, 1) := by decide +kernel
theorem dX10_endsLine_0 : decode cX10_endsLine 0 = .ok (.aload_n 0, 1) := by decide +kernel
theorem dX10_endsLine_1 : decode cX10_endsLine 1 = .ok (.getfield 89, 3) := by decide +kernel
theorem dX10_endsLine_4 : decode cX10_endsLine 4 = .ok (.ifCond .eq 4, 3) := by decide +kernel
theorem dX10_endsLine_7 : decode cX10_endsLine 7 = .ok (.return_, 1) := by decide +kernel
theorem dX10_endsLine_8 : decode cX10_endsLine 8 = .ok (.aload_n 0, 1) := by decide +kernel
theorem dX10_endsLine_9 : decode cX10_endsLine 9 = .ok (.bipush 6, 2) := by decide +kernel
theorem dX10_endsLine_11 : decode cX10_endsLine 11 = .ok (.bipush 11, 2) := by decide +kernel
theorem dX10_endsLine_13 : decode cX10_endsLine 13 = .ok (.invokevirtual 160, 3) := by decide +kernel
theorem dX10_endsLine_16 : decode cX10_endsLine 16 = .ok (.istore_n 1, 1) := by decide +kernel
theorem dX10_endsLine_17 : decode cX10_endsLine 17 = .ok (.aload_n 0, 1) := by decide +kernel
theorem dX10_endsLine_18 : decode cX10_endsLine 18 = .ok (.getfield 89, 3) := by decide +kernel
theorem dX10_endsLine_21 : decode cX10_endsLine 21 = .ok (.ifCond .ne 28, 3) := by decide +kernel
theorem dX10_endsLine_24 : decode cX10_endsLine 24 = .ok (.aload_n 0, 1) := by decide +kernel
theorem dX10_endsLine_25 : decode cX10_endsLine 25 = .ok (.getfield 23, 3) := by decide +kernel
theorem dX10_endsLine_28 : decode cX10_endsLine 28 = .ok (.bipush 17, 2) := by decide +kernel
theorem dX10_endsLine_30 : decode cX10_endsLine 30 = .ok (.iconst 4, 1) := by decide +kernel
theorem dX10_endsLine_31 : decode cX10_endsLine 31 = .ok (.iload_n 1, 1) := by decide +kernel
theorem dX10_endsLine_32 : decode cX10_endsLine 32 = .ok (.imul, 1) := by decide +kernel
theorem dX10_endsLine_33 : decode cX10_endsLine 33 = .ok (.iadd, 1) := by decide +kernel
theorem dX10_endsLine_34 : decode cX10_endsLine 34 = .ok (.iconst 3, 1) := by decide +kernel
theorem dX10_endsLine_35 : decode cX10_endsLine 35 = .ok (.iadd, 1) := by decide +kernel
theorem dX10_endsLine_36 : decode cX10_endsLine 36 = .ok (.iaload, 1) := by decide +kernel
theorem dX10_endsLine_37 : decode cX10_endsLine 37 = .ok (.ifCond .le 12, 3) := by decide +kernel
theorem dX10_endsLine_40 : decode cX10_endsLine 40 = .ok (.aload_n 0, 1) := by decide +kernel
theorem dX10_endsLine_41 : decode cX10_endsLine 41 = .ok (.iconst 3, 1) := by decide +kernel
theorem dX10_endsLine_42 : decode cX10_endsLine 42 = .ok (.aload_n 0, 1) := by decide +kernel
theorem dX10_endsLine_43 : decode cX10_endsLine 43 = .ok (.getfield 70, 3) := by decide +kernel
theorem dX10_endsLine_46 : decode cX10_endsLine 46 = .ok (.invokevirtual 116, 3) := by decide +kernel
theorem dX10_endsLine_49 : decode cX10_endsLine 49 = .ok (.aload_n 0, 1) := by decide +kernel
theorem dX10_endsLine_50 : decode cX10_endsLine 50 = .ok (.getfield 89, 3) := by decide +kernel
theorem dX10_endsLine_53 : decode cX10_endsLine 53 = .ok (.ifCond .eq 4, 3) := by decide +kernel
theorem dX10_endsLine_56 : decode cX10_endsLine 56 = .ok (.return_, 1) := by decide +kernel
theorem dX10_endsLine_57 : decode cX10_endsLine 57 = .ok (.aload_n 0, 1) := by decide +kernel
theorem dX10_endsLine_58 : decode cX10_endsLine 58 = .ok (.invokevirtual 110, 3) := by decide +kernel
theorem dX10_endsLine_61 : decode cX10_endsLine 61 = .ok (.aload_n 0, 1) := by decide +kernel
theorem dX10_endsLine_62 : decode cX10_endsLine 62 = .ok (.iconst 0, 1) := by decide +kernel
theorem dX10_endsLine_63 : decode cX10_endsLine 63 = .ok (.sipush 999, 3) := by decide +kernel
theorem dX10_endsLine_66 : decode cX10_endsLine 66 = .ok (.invokevirtual 171, 3) := by decide +kernel
theorem dX10_endsLine_69 : decode cX10_endsLine 69 = .ok (.istore_n 2, 1) := by decide +kernel
theorem dX10_endsLine_70 : decode cX10_endsLine 70 = .ok (.aload_n 0, 1) := by decide +kernel
theorem dX10_endsLine_71 : decode cX10_endsLine 71 = .ok (.getfield 89, 3) := by decide +kernel
theorem dX10_endsLine_74 : decode cX10_endsLine 74 = .ok (.ifCond .ne 19, 3) := by decide +kernel
theorem dX10_endsLine_77 : decode cX10_endsLine 77 = .ok (.aload_n 0, 1) := by decide +kernel
theorem dX10_endsLine_78 : decode cX10_endsLine 78 = .ok (.getfield 23, 3) := by decide +kernel
theorem dX10_endsLine_81 : decode cX10_endsLine 81 = .ok (.bipush 17, 2) := by decide +kernel
theorem dX10_endsLine_83 : decode cX10_endsLine 83 = .ok (.iconst 4, 1) := by decide +kernel
theorem dX10_endsLine_84 : decode cX10_endsLine 84 = .ok (.iload_n 1, 1) := by decide +kernel
theorem dX10_endsLine_85 : decode cX10_endsLine 85 = .ok (.imul, 1) := by decide +kernel
theorem dX10_endsLine_86 : decode cX10_endsLine 86 = .ok (.iadd, 1) := by decide +kernel
theorem dX10_endsLine_87 : decode cX10_endsLine 87 = .ok (.iconst 3, 1) := by decide +kernel
theorem dX10_endsLine_88 : decode cX10_endsLine 88 = .ok (.iadd, 1) := by decide +kernel
theorem dX10_endsLine_89 : decode cX10_endsLine 89 = .ok (.iload_n 2, 1) := by decide +kernel
theorem dX10_endsLine_90 : decode cX10_endsLine 90 = .ok (.iconst 1, 1) := by decide +kernel
theorem dX10_endsLine_91 : decode cX10_endsLine 91 = .ok (.iadd, 1) := by decide +kernel
theorem dX10_endsLine_92 : decode cX10_endsLine 92 = .ok (.iastore, 1) := by decide +kernel
theorem dX10_endsLine_93 : decode cX10_endsLine 93 = .ok (.return_, 1) := by decide +kernel
theorem dX10_questionLine_0 : decode cX10_questionLine 0 = .ok (.aload_n 0, 1) := by decide +kernel
theorem dX10_questionLine_1 : decode cX10_questionLine 1 = .ok (.getfield 89, 3) := by decide +kernel
theorem dX10_questionLine_4 : decode cX10_questionLine 4 = .ok (.ifCond .eq 4, 3) := by decide +kernel
theorem dX10_questionLine_7 : decode cX10_questionLine 7 = .ok (.return_, 1) := by decide +kernel
theorem dX10_questionLine_8 : decode cX10_questionLine 8 = .ok (.aload_n 0, 1) := by decide +kernel
theorem dX10_questionLine_9 : decode cX10_questionLine 9 = .ok (.getfield 23, 3) := by decide +kernel
theorem dX10_questionLine_12 : decode cX10_questionLine 12 = .ok (.iconst 5, 1) := by decide +kernel
theorem dX10_questionLine_13 : decode cX10_questionLine 13 = .ok (.iaload, 1) := by decide +kernel
theorem dX10_questionLine_14 : decode cX10_questionLine 14 = .ok (.istore_n 1, 1) := by decide +kernel
theorem dX10_questionLine_15 : decode cX10_questionLine 15 = .ok (.aload_n 0, 1) := by decide +kernel
theorem dX10_questionLine_16 : decode cX10_questionLine 16 = .ok (.bipush 12, 2) := by decide +kernel
theorem dX10_questionLine_18 : decode cX10_questionLine 18 = .ok (.iload_n 1, 1) := by decide +kernel
theorem dX10_questionLine_19 : decode cX10_questionLine 19 = .ok (.iadd, 1) := by decide +kernel
theorem dX10_questionLine_20 : decode cX10_questionLine 20 = .ok (.invokevirtual 265, 3) := by decide +kernel
theorem dX10_questionLine_23 : decode cX10_questionLine 23 = .ok (.aload_n 0, 1) := by decide +kernel
theorem dX10_questionLine_24 : decode cX10_questionLine 24 = .ok (.iconst 0, 1) := by decide +kernel
theorem dX10_questionLine_25 : decode cX10_questionLine 25 = .ok (.putfield 192, 3) := by decide +kernel
theorem dX10_questionLine_28 : decode cX10_questionLine 28 = .ok (.aload_n 0, 1) := by decide +kernel
theorem dX10_questionLine_29 : decode cX10_questionLine 29 = .ok (.iconst 0, 1) := by decide +kernel
theorem dX10_questionLine_30 : decode cX10_questionLine 30 = .ok (.putfield 183, 3) := by decide +kernel
theorem dX10_questionLine_33 : decode cX10_questionLine 33 = .ok (.aload_n 0, 1) := by decide +kernel
theorem dX10_questionLine_34 : decode cX10_questionLine 34 = .ok (.invokevirtual 186, 3) := by decide +kernel
theorem dX10_questionLine_37 : decode cX10_questionLine 37 = .ok (.lstore_n 2, 1) := by decide +kernel
theorem dX10_questionLine_38 : decode cX10_questionLine 38 = .ok (.aload_n 0, 1) := by decide +kernel
theorem dX10_questionLine_39 : decode cX10_questionLine 39 = .ok (.getfield 89, 3) := by decide +kernel
theorem dX10_questionLine_42 : decode cX10_questionLine 42 = .ok (.ifCond .eq 4, 3) := by decide +kernel
theorem dX10_questionLine_45 : decode cX10_questionLine 45 = .ok (.return_, 1) := by decide +kernel
theorem dX10_questionLine_46 : decode cX10_questionLine 46 = .ok (.aload_n 0, 1) := by decide +kernel
theorem dX10_questionLine_47 : decode cX10_questionLine 47 = .ok (.getfield 30, 3) := by decide +kernel
theorem dX10_questionLine_50 : decode cX10_questionLine 50 = .ok (.iload_n 1, 1) := by decide +kernel
theorem dX10_questionLine_51 : decode cX10_questionLine 51 = .ok (.lload_n 2, 1) := by decide +kernel
theorem dX10_questionLine_52 : decode cX10_questionLine 52 = .ok (.lastore, 1) := by decide +kernel
theorem dX10_questionLine_53 : decode cX10_questionLine 53 = .ok (.aload_n 0, 1) := by decide +kernel
theorem dX10_questionLine_54 : decode cX10_questionLine 54 = .ok (.getfield 23, 3) := by decide +kernel
theorem dX10_questionLine_57 : decode cX10_questionLine 57 = .ok (.iconst 5, 1) := by decide +kernel
theorem dX10_questionLine_58 : decode cX10_questionLine 58 = .ok (.dup2, 1) := by decide +kernel
theorem dX10_questionLine_59 : decode cX10_questionLine 59 = .ok (.iaload, 1) := by decide +kernel
theorem dX10_questionLine_60 : decode cX10_questionLine 60 = .ok (.iconst 1, 1) := by decide +kernel
theorem dX10_questionLine_61 : decode cX10_questionLine 61 = .ok (.iadd, 1) := by decide +kernel
theorem dX10_questionLine_62 : decode cX10_questionLine 62 = .ok (.iastore, 1) := by decide +kernel
theorem dX10_questionLine_63 : decode cX10_questionLine 63 = .ok (.return_, 1) := by decide +kernel
theorem dX10_yes_0 : decode cX10_yes 0 = .ok (.aload_n 0, 1) := by decide +kernel
theorem dX10_yes_1 : decode cX10_yes 1 = .ok (.ldc_w 283, 3) := by decide +kernel
theorem dX10_yes_4 : decode cX10_yes 4 = .ok (.invokevirtual 113, 3) := by decide +kernel
theorem dX10_yes_7 : decode cX10_yes 7 = .ok (.ifCond .eq 5, 3) := by decide +kernel
theorem dX10_yes_10 : decode cX10_yes 10 = .ok (.iconst 1, 1) := by decide +kernel
theorem dX10_yes_11 : decode cX10_yes 11 = .ok (.ireturn, 1) := by decide +kernel
theorem dX10_yes_12 : decode cX10_yes 12 = .ok (.aload_n 0, 1) := by decide +kernel
theorem dX10_yes_13 : decode cX10_yes 13 = .ok (.ldc_w 285, 3) := by decide +kernel
theorem dX10_yes_16 : decode cX10_yes 16 = .ok (.invokevirtual 167, 3) := by decide +kernel
theorem dX10_yes_19 : decode cX10_yes 19 = .ok (.iconst 0, 1) := by decide +kernel
theorem dX10_yes_20 : decode cX10_yes 20 = .ok (.ireturn, 1) := by decide +kernel
theorem dX10_toldLine_0 : decode cX10_toldLine 0 = .ok (.aload_n 0, 1) := by decide +kernel
theorem dX10_toldLine_1 : decode cX10_toldLine 1 = .ok (.getfield 89, 3) := by decide +kernel
theorem dX10_toldLine_4 : decode cX10_toldLine 4 = .ok (.ifCond .eq 4, 3) := by decide +kernel
theorem dX10_toldLine_7 : decode cX10_toldLine 7 = .ok (.return_, 1) := by decide +kernel
theorem dX10_toldLine_8 : decode cX10_toldLine 8 = .ok (.bipush 53, 2) := by decide +kernel
theorem dX10_toldLine_10 : decode cX10_toldLine 10 = .ok (.iconst 3, 1) := by decide +kernel
theorem dX10_toldLine_11 : decode cX10_toldLine 11 = .ok (.aload_n 0, 1) := by decide +kernel
theorem dX10_toldLine_12 : decode cX10_toldLine 12 = .ok (.getfield 23, 3) := by decide +kernel
theorem dX10_toldLine_15 : decode cX10_toldLine 15 = .ok (.bipush 6, 2) := by decide +kernel
theorem dX10_toldLine_17 : decode cX10_toldLine 17 = .ok (.iaload, 1) := by decide +kernel
theorem dX10_toldLine_18 : decode cX10_toldLine 18 = .ok (.imul, 1) := by decide +kernel
theorem dX10_toldLine_19 : decode cX10_toldLine 19 = .ok (.iadd, 1) := by decide +kernel
theorem dX10_toldLine_20 : decode cX10_toldLine 20 = .ok (.istore_n 1, 1) := by decide +kernel
theorem dX10_toldLine_21 : decode cX10_toldLine 21 = .ok (.aload_n 0, 1) := by decide +kernel
theorem dX10_toldLine_22 : decode cX10_toldLine 22 = .ok (.getfield 23, 3) := by decide +kernel
theorem dX10_toldLine_25 : decode cX10_toldLine 25 = .ok (.iload_n 1, 1) := by decide +kernel
theorem dX10_toldLine_26 : decode cX10_toldLine 26 = .ok (.aload_n 0, 1) := by decide +kernel
theorem dX10_toldLine_27 : decode cX10_toldLine 27 = .ok (.invokevirtual 280, 3) := by decide +kernel
theorem dX10_toldLine_30 : decode cX10_toldLine 30 = .ok (.iastore, 1) := by decide +kernel
theorem dX10_toldLine_31 : decode cX10_toldLine 31 = .ok (.aload_n 0, 1) := by decide +kernel
theorem dX10_toldLine_32 : decode cX10_toldLine 32 = .ok (.getfield 23, 3) := by decide +kernel
theorem dX10_toldLine_35 : decode cX10_toldLine 35 = .ok (.iload_n 1, 1) := by decide +kernel
theorem dX10_toldLine_36 : decode cX10_toldLine 36 = .ok (.iconst 1, 1) := by decide +kernel
theorem dX10_toldLine_37 : decode cX10_toldLine 37 = .ok (.iadd, 1) := by decide +kernel
theorem dX10_toldLine_38 : decode cX10_toldLine 38 = .ok (.aload_n 0, 1) := by decide +kernel
theorem dX10_toldLine_39 : decode cX10_toldLine 39 = .ok (.bipush 12, 2) := by decide +kernel
theorem dX10_toldLine_41 : decode cX10_toldLine 41 = .ok (.bipush 19, 2) := by decide +kernel
theorem dX10_toldLine_43 : decode cX10_toldLine 43 = .ok (.invokevirtual 160, 3) := by decide +kernel
theorem dX10_toldLine_46 : decode cX10_toldLine 46 = .ok (.iastore, 1) := by decide +kernel
theorem dX10_toldLine_47 : decode cX10_toldLine 47 = .ok (.aload_n 0, 1) := by decide +kernel
theorem dX10_toldLine_48 : decode cX10_toldLine 48 = .ok (.getfield 89, 3) := by decide +kernel
theorem dX10_toldLine_51 : decode cX10_toldLine 51 = .ok (.ifCond .ne 7, 3) := by decide +kernel
theorem dX10_toldLine_54 : decode cX10_toldLine 54 = .ok (.aload_n 0, 1) := by decide +kernel
theorem dX10_toldLine_55 : decode cX10_toldLine 55 = .ok (.invokevirtual 110, 3) := by decide +kernel
theorem dX10_toldLine_58 : decode cX10_toldLine 58 = .ok (.aload_n 0, 1) := by decide +kernel
theorem dX10_toldLine_59 : decode cX10_toldLine 59 = .ok (.getfield 23, 3) := by decide +kernel
theorem dX10_toldLine_62 : decode cX10_toldLine 62 = .ok (.iload_n 1, 1) := by decide +kernel
theorem dX10_toldLine_63 : decode cX10_toldLine 63 = .ok (.iconst 2, 1) := by decide +kernel
theorem dX10_toldLine_64 : decode cX10_toldLine 64 = .ok (.iadd, 1) := by decide +kernel
theorem dX10_toldLine_65 : decode cX10_toldLine 65 = .ok (.aload_n 0, 1) := by decide +kernel
theorem dX10_toldLine_66 : decode cX10_toldLine 66 = .ok (.invokevirtual 286, 3) := by decide +kernel
theorem dX10_toldLine_69 : decode cX10_toldLine 69 = .ok (.iastore, 1) := by decide +kernel
theorem dX10_toldLine_70 : decode cX10_toldLine 70 = .ok (.aload_n 0, 1) := by decide +kernel
theorem dX10_toldLine_71 : decode cX10_toldLine 71 = .ok (.getfield 89, 3) := by decide +kernel
theorem dX10_toldLine_74 : decode cX10_toldLine 74 = .ok (.ifCond .ne 14, 3) := by decide +kernel
theorem dX10_toldLine_77 : decode cX10_toldLine 77 = .ok (.aload_n 0, 1) := by decide +kernel
theorem dX10_toldLine_78 : decode cX10_toldLine 78 = .ok (.getfield 23, 3) := by decide +kernel
theorem dX10_toldLine_81 : decode cX10_toldLine 81 = .ok (.bipush 6, 2) := by decide +kernel
theorem dX10_toldLine_83 : decode cX10_toldLine 83 = .ok (.dup2, 1) := by decide +kernel
theorem dX10_toldLine_84 : decode cX10_toldLine 84 = .ok (.iaload, 1) := by decide +kernel
theorem dX10_toldLine_85 : decode cX10_toldLine 85 = .ok (.iconst 1, 1) := by decide +kernel
theorem dX10_toldLine_86 : decode cX10_toldLine 86 = .ok (.iadd, 1) := by decide +kernel
theorem dX10_toldLine_87 : decode cX10_toldLine 87 = .ok (.iastore, 1) := by decide +kernel
theorem dX10_toldLine_88 : decode cX10_toldLine 88 = .ok (.return_, 1) := by decide +kernel
theorem dX10_stoneLine_0 : decode cX10_stoneLine 0 = .ok (.aload_n 0, 1) := by decide +kernel
theorem dX10_stoneLine_1 : decode cX10_stoneLine 1 = .ok (.getfield 89, 3) := by decide +kernel
theorem dX10_stoneLine_4 : decode cX10_stoneLine 4 = .ok (.ifCond .eq 4, 3) := by decide +kernel
theorem dX10_stoneLine_7 : decode cX10_stoneLine 7 = .ok (.return_, 1) := by decide +kernel
theorem dX10_stoneLine_8 : decode cX10_stoneLine 8 = .ok (.aload_n 0, 1) := by decide +kernel
theorem dX10_stoneLine_9 : decode cX10_stoneLine 9 = .ok (.invokevirtual 286, 3) := by decide +kernel
theorem dX10_stoneLine_12 : decode cX10_stoneLine 12 = .ok (.istore_n 1, 1) := by decide +kernel
theorem dX10_stoneLine_13 : decode cX10_stoneLine 13 = .ok (.aload_n 0, 1) := by decide +kernel
theorem dX10_stoneLine_14 : decode cX10_stoneLine 14 = .ok (.getfield 89, 3) := by decide +kernel
theorem dX10_stoneLine_17 : decode cX10_stoneLine 17 = .ok (.ifCond .eq 4, 3) := by decide +kernel
theorem dX10_stoneLine_20 : decode cX10_stoneLine 20 = .ok (.return_, 1) := by decide +kernel
theorem dX10_stoneLine_21 : decode cX10_stoneLine 21 = .ok (.aload_n 0, 1) := by decide +kernel
theorem dX10_stoneLine_22 : decode cX10_stoneLine 22 = .ok (.getfield 23, 3) := by decide +kernel
theorem dX10_stoneLine_25 : decode cX10_stoneLine 25 = .ok (.bipush 89, 2) := by decide +kernel
theorem dX10_stoneLine_27 : decode cX10_stoneLine 27 = .ok (.aload_n 0, 1) := by decide +kernel
theorem dX10_stoneLine_28 : decode cX10_stoneLine 28 = .ok (.getfield 23, 3) := by decide +kernel
theorem dX10_stoneLine_31 : decode cX10_stoneLine 31 = .ok (.bipush 7, 2) := by decide +kernel
theorem dX10_stoneLine_33 : decode cX10_stoneLine 33 = .ok (.iaload, 1) := by decide +kernel
theorem dX10_stoneLine_34 : decode cX10_stoneLine 34 = .ok (.iadd, 1) := by decide +kernel
theorem dX10_stoneLine_35 : decode cX10_stoneLine 35 = .ok (.iload_n 1, 1) := by decide +kernel
theorem dX10_stoneLine_36 : decode cX10_stoneLine 36 = .ok (.iastore, 1) := by decide +kernel
theorem dX10_stoneLine_37 : decode cX10_stoneLine 37 = .ok (.aload_n 0, 1) := by decide +kernel
theorem dX10_stoneLine_38 : decode cX10_stoneLine 38 = .ok (.getfield 23, 3) := by decide +kernel
theorem dX10_stoneLine_41 : decode cX10_stoneLine 41 = .ok (.bipush 7, 2) := by decide +kernel
theorem dX10_stoneLine_43 : decode cX10_stoneLine 43 = .ok (.dup2, 1) := by decide +kernel
theorem dX10_stoneLine_44 : decode cX10_stoneLine 44 = .ok (.iaload, 1) := by decide +kernel
theorem dX10_stoneLine_45 : decode cX10_stoneLine 45 = .ok (.iconst 1, 1) := by decide +kernel
theorem dX10_stoneLine_46 : decode cX10_stoneLine 46 = .ok (.iadd, 1) := by decide +kernel
theorem dX10_stoneLine_47 : decode cX10_stoneLine 47 = .ok (.iastore, 1) := by decide +kernel
theorem dX10_stoneLine_48 : decode cX10_stoneLine 48 = .ok (.return_, 1) := by decide +kernel
theorem dX10_wedsLine_0 : decode cX10_wedsLine 0 = .ok (.aload_n 0, 1) := by decide +kernel
theorem dX10_wedsLine_1 : decode cX10_wedsLine 1 = .ok (.getfield 89, 3) := by decide +kernel
theorem dX10_wedsLine_4 : decode cX10_wedsLine 4 = .ok (.ifCond .eq 4, 3) := by decide +kernel
theorem dX10_wedsLine_7 : decode cX10_wedsLine 7 = .ok (.return_, 1) := by decide +kernel
theorem dX10_wedsLine_8 : decode cX10_wedsLine 8 = .ok (.aload_n 0, 1) := by decide +kernel
theorem dX10_wedsLine_9 : decode cX10_wedsLine 9 = .ok (.invokevirtual 280, 3) := by decide +kernel
theorem dX10_wedsLine_12 : decode cX10_wedsLine 12 = .ok (.istore_n 1, 1) := by decide +kernel
theorem dX10_wedsLine_13 : decode cX10_wedsLine 13 = .ok (.aload_n 0, 1) := by decide +kernel
theorem dX10_wedsLine_14 : decode cX10_wedsLine 14 = .ok (.bipush 6, 2) := by decide +kernel
theorem dX10_wedsLine_16 : decode cX10_wedsLine 16 = .ok (.bipush 11, 2) := by decide +kernel
theorem dX10_wedsLine_18 : decode cX10_wedsLine 18 = .ok (.invokevirtual 160, 3) := by decide +kernel
theorem dX10_wedsLine_21 : decode cX10_wedsLine 21 = .ok (.istore_n 2, 1) := by decide +kernel
theorem dX10_wedsLine_22 : decode cX10_wedsLine 22 = .ok (.aload_n 0, 1) := by decide +kernel
theorem dX10_wedsLine_23 : decode cX10_wedsLine 23 = .ok (.getfield 89, 3) := by decide +kernel
theorem dX10_wedsLine_26 : decode cX10_wedsLine 26 = .ok (.ifCond .ne 33, 3) := by decide +kernel
theorem dX10_wedsLine_29 : decode cX10_wedsLine 29 = .ok (.iload_n 1, 1) := by decide +kernel
theorem dX10_wedsLine_30 : decode cX10_wedsLine 30 = .ok (.iload_n 2, 1) := by decide +kernel
theorem dX10_wedsLine_31 : decode cX10_wedsLine 31 = .ok (.if_icmp .eq 19, 3) := by decide +kernel
theorem dX10_wedsLine_34 : decode cX10_wedsLine 34 = .ok (.aload_n 0, 1) := by decide +kernel
theorem dX10_wedsLine_35 : decode cX10_wedsLine 35 = .ok (.getfield 23, 3) := by decide +kernel
theorem dX10_wedsLine_38 : decode cX10_wedsLine 38 = .ok (.bipush 93, 2) := by decide +kernel
theorem dX10_wedsLine_40 : decode cX10_wedsLine 40 = .ok (.iload_n 1, 1) := by decide +kernel
theorem dX10_wedsLine_41 : decode cX10_wedsLine 41 = .ok (.iadd, 1) := by decide +kernel
theorem dX10_wedsLine_42 : decode cX10_wedsLine 42 = .ok (.iaload, 1) := by decide +kernel
theorem dX10_wedsLine_43 : decode cX10_wedsLine 43 = .ok (.iload_n 2, 1) := by decide +kernel
theorem dX10_wedsLine_44 : decode cX10_wedsLine 44 = .ok (.invokestatic 270, 3) := by decide +kernel
theorem dX10_wedsLine_47 : decode cX10_wedsLine 47 = .ok (.ifCond .eq 12, 3) := by decide +kernel
theorem dX10_wedsLine_50 : decode cX10_wedsLine 50 = .ok (.aload_n 0, 1) := by decide +kernel
theorem dX10_wedsLine_51 : decode cX10_wedsLine 51 = .ok (.iconst 3, 1) := by decide +kernel
theorem dX10_wedsLine_52 : decode cX10_wedsLine 52 = .ok (.aload_n 0, 1) := by decide +kernel
theorem dX10_wedsLine_53 : decode cX10_wedsLine 53 = .ok (.getfield 70, 3) := by decide +kernel
theorem dX10_wedsLine_56 : decode cX10_wedsLine 56 = .ok (.invokevirtual 116, 3) := by decide +kernel
theorem dX10_wedsLine_59 : decode cX10_wedsLine 59 = .ok (.aload_n 0, 1) := by decide +kernel
theorem dX10_wedsLine_60 : decode cX10_wedsLine 60 = .ok (.getfield 89, 3) := by decide +kernel
theorem dX10_wedsLine_63 : decode cX10_wedsLine 63 = .ok (.ifCond .eq 4, 3) := by decide +kernel
theorem dX10_wedsLine_66 : decode cX10_wedsLine 66 = .ok (.return_, 1) := by decide +kernel
theorem dX10_wedsLine_67 : decode cX10_wedsLine 67 = .ok (.aload_n 0, 1) := by decide +kernel
theorem dX10_wedsLine_68 : decode cX10_wedsLine 68 = .ok (.invokevirtual 110, 3) := by decide +kernel
theorem dX10_wedsLine_71 : decode cX10_wedsLine 71 = .ok (.aload_n 0, 1) := by decide +kernel
theorem dX10_wedsLine_72 : decode cX10_wedsLine 72 = .ok (.getfield 23, 3) := by decide +kernel
theorem dX10_wedsLine_75 : decode cX10_wedsLine 75 = .ok (.bipush 93, 2) := by decide +kernel
theorem dX10_wedsLine_77 : decode cX10_wedsLine 77 = .ok (.iload_n 1, 1) := by decide +kernel
theorem dX10_wedsLine_78 : decode cX10_wedsLine 78 = .ok (.iadd, 1) := by decide +kernel
theorem dX10_wedsLine_79 : decode cX10_wedsLine 79 = .ok (.dup2, 1) := by decide +kernel
theorem dX10_wedsLine_80 : decode cX10_wedsLine 80 = .ok (.iaload, 1) := by decide +kernel
theorem dX10_wedsLine_81 : decode cX10_wedsLine 81 = .ok (.iconst 1, 1) := by decide +kernel
theorem dX10_wedsLine_82 : decode cX10_wedsLine 82 = .ok (.iload_n 2, 1) := by decide +kernel
theorem dX10_wedsLine_83 : decode cX10_wedsLine 83 = .ok (.ishl, 1) := by decide +kernel
theorem dX10_wedsLine_84 : decode cX10_wedsLine 84 = .ok (.ior, 1) := by decide +kernel
theorem dX10_wedsLine_85 : decode cX10_wedsLine 85 = .ok (.iastore, 1) := by decide +kernel
theorem dX10_wedsLine_86 : decode cX10_wedsLine 86 = .ok (.aload_n 0, 1) := by decide +kernel
theorem dX10_wedsLine_87 : decode cX10_wedsLine 87 = .ok (.getfield 23, 3) := by decide +kernel
theorem dX10_wedsLine_90 : decode cX10_wedsLine 90 = .ok (.bipush 93, 2) := by decide +kernel
theorem dX10_wedsLine_92 : decode cX10_wedsLine 92 = .ok (.iload_n 2, 1) := by decide +kernel
theorem dX10_wedsLine_93 : decode cX10_wedsLine 93 = .ok (.iadd, 1) := by decide +kernel
theorem dX10_wedsLine_94 : decode cX10_wedsLine 94 = .ok (.dup2, 1) := by decide +kernel
theorem dX10_wedsLine_95 : decode cX10_wedsLine 95 = .ok (.iaload, 1) := by decide +kernel
theorem dX10_wedsLine_96 : decode cX10_wedsLine 96 = .ok (.iconst 1, 1) := by decide +kernel
theorem dX10_wedsLine_97 : decode cX10_wedsLine 97 = .ok (.iload_n 1, 1) := by decide +kernel
theorem dX10_wedsLine_98 : decode cX10_wedsLine 98 = .ok (.ishl, 1) := by decide +kernel
theorem dX10_wedsLine_99 : decode cX10_wedsLine 99 = .ok (.ior, 1) := by decide +kernel
theorem dX10_wedsLine_100 : decode cX10_wedsLine 100 = .ok (.iastore, 1) := by decide +kernel
theorem dX10_wedsLine_101 : decode cX10_wedsLine 101 = .ok (.aload_n 0, 1) := by decide +kernel
theorem dX10_wedsLine_102 : decode cX10_wedsLine 102 = .ok (.getfield 23, 3) := by decide +kernel
theorem dX10_wedsLine_105 : decode cX10_wedsLine 105 = .ok (.bipush 8, 2) := by decide +kernel
theorem dX10_wedsLine_107 : decode cX10_wedsLine 107 = .ok (.dup2, 1) := by decide +kernel
theorem dX10_wedsLine_108 : decode cX10_wedsLine 108 = .ok (.iaload, 1) := by decide +kernel
theorem dX10_wedsLine_109 : decode cX10_wedsLine 109 = .ok (.iconst 1, 1) := by decide +kernel
theorem dX10_wedsLine_110 : decode cX10_wedsLine 110 = .ok (.iadd, 1) := by decide +kernel
theorem dX10_wedsLine_111 : decode cX10_wedsLine 111 = .ok (.iastore, 1) := by decide +kernel
theorem dX10_wedsLine_112 : decode cX10_wedsLine 112 = .ok (.return_, 1) := by decide +kernel
theorem dX10_fault_0 : decode cX10_fault 0 = .ok (.aload_n 0, 1) := by decide +kernel
theorem dX10_fault_1 : decode cX10_fault 1 = .ok (.iconst 0, 1) := by decide +kernel
theorem dX10_fault_2 : decode cX10_fault 2 = .ok (.putfield 51, 3) := by decide +kernel
theorem dX10_fault_5 : decode cX10_fault 5 = .ok (.aload_n 0, 1) := by decide +kernel
theorem dX10_fault_6 : decode cX10_fault 6 = .ok (.getfield 93, 3) := by decide +kernel
theorem dX10_fault_9 : decode cX10_fault 9 = .ok (.ireturn, 1) := by decide +kernel
theorem dX10_where_0 : decode cX10_where 0 = .ok (.aload_n 0, 1) := by decide +kernel
theorem dX10_where_1 : decode cX10_where 1 = .ok (.iconst 0, 1) := by decide +kernel
theorem dX10_where_2 : decode cX10_where 2 = .ok (.putfield 51, 3) := by decide +kernel
theorem dX10_where_5 : decode cX10_where 5 = .ok (.aload_n 0, 1) := by decide +kernel
theorem dX10_where_6 : decode cX10_where 6 = .ok (.getfield 54, 3) := by decide +kernel
theorem dX10_where_9 : decode cX10_where 9 = .ok (.iconst 4, 1) := by decide +kernel
theorem dX10_where_10 : decode cX10_where 10 = .ok (.if_icmp .ne 10, 3) := by decide +kernel
theorem dX10_where_13 : decode cX10_where 13 = .ok (.aload_n 0, 1) := by decide +kernel
theorem dX10_where_14 : decode cX10_where 14 = .ok (.getfield 13, 3) := by decide +kernel
theorem dX10_where_17 : decode cX10_where 17 = .ok (.goto 4, 3) := by decide +kernel
theorem dX10_where_20 : decode cX10_where 20 = .ok (.iconst (-1), 1) := by decide +kernel
theorem dX10_where_21 : decode cX10_where 21 = .ok (.ireturn, 1) := by decide +kernel
theorem dX10_isWorld_0 : decode cX10_isWorld 0 = .ok (.aload_n 0, 1) := by decide +kernel
theorem dX10_isWorld_1 : decode cX10_isWorld 1 = .ok (.getfield 212, 3) := by decide +kernel
theorem dX10_isWorld_4 : decode cX10_isWorld 4 = .ok (.ifCond .eq 25, 3) := by decide +kernel
theorem dX10_isWorld_7 : decode cX10_isWorld 7 = .ok (.iload_n 1, 1) := by decide +kernel
theorem dX10_isWorld_8 : decode cX10_isWorld 8 = .ok (.iconst 0, 1) := by decide +kernel
theorem dX10_isWorld_9 : decode cX10_isWorld 9 = .ok (.iconst 1, 1) := by decide +kernel
theorem dX10_isWorld_10 : decode cX10_isWorld 10 = .ok (.aload_n 0, 1) := by decide +kernel
theorem dX10_isWorld_11 : decode cX10_isWorld 11 = .ok (.getfield 20, 3) := by decide +kernel
theorem dX10_isWorld_14 : decode cX10_isWorld 14 = .ok (.iconst 1, 1) := by decide +kernel
theorem dX10_isWorld_15 : decode cX10_isWorld 15 = .ok (.iaload, 1) := by decide +kernel
theorem dX10_isWorld_16 : decode cX10_isWorld 16 = .ok (.ishl, 1) := by decide +kernel
theorem dX10_isWorld_17 : decode cX10_isWorld 17 = .ok (.iconst 1, 1) := by decide +kernel
theorem dX10_isWorld_18 : decode cX10_isWorld 18 = .ok (.isub, 1) := by decide +kernel
theorem dX10_isWorld_19 : decode cX10_isWorld 19 = .ok (.invokestatic 156, 3) := by decide +kernel
theorem dX10_isWorld_22 : decode cX10_isWorld 22 = .ok (.ifCond .eq 7, 3) := by decide +kernel
theorem dX10_isWorld_25 : decode cX10_isWorld 25 = .ok (.iconst 1, 1) := by decide +kernel
theorem dX10_isWorld_26 : decode cX10_isWorld 26 = .ok (.goto 4, 3) := by decide +kernel
theorem dX10_isWorld_29 : decode cX10_isWorld 29 = .ok (.iconst 0, 1) := by decide +kernel
theorem dX10_isWorld_30 : decode cX10_isWorld 30 = .ok (.ireturn, 1) := by decide +kernel
theorem dX10_isQuestion_0 : decode cX10_isQuestion 0 = .ok (.aload_n 0, 1) := by decide +kernel
theorem dX10_isQuestion_1 : decode cX10_isQuestion 1 = .ok (.getfield 212, 3) := by decide +kernel
theorem dX10_isQuestion_4 : decode cX10_isQuestion 4 = .ok (.ifCond .eq 23, 3) := by decide +kernel
theorem dX10_isQuestion_7 : decode cX10_isQuestion 7 = .ok (.iload_n 1, 1) := by decide +kernel
theorem dX10_isQuestion_8 : decode cX10_isQuestion 8 = .ok (.iconst 0, 1) := by decide +kernel
theorem dX10_isQuestion_9 : decode cX10_isQuestion 9 = .ok (.aload_n 0, 1) := by decide +kernel
theorem dX10_isQuestion_10 : decode cX10_isQuestion 10 = .ok (.getfield 20, 3) := by decide +kernel
theorem dX10_isQuestion_13 : decode cX10_isQuestion 13 = .ok (.iconst 5, 1) := by decide +kernel
theorem dX10_isQuestion_14 : decode cX10_isQuestion 14 = .ok (.iaload, 1) := by decide +kernel
theorem dX10_isQuestion_15 : decode cX10_isQuestion 15 = .ok (.iconst 1, 1) := by decide +kernel
theorem dX10_isQuestion_16 : decode cX10_isQuestion 16 = .ok (.isub, 1) := by decide +kernel
theorem dX10_isQuestion_17 : decode cX10_isQuestion 17 = .ok (.invokestatic 156, 3) := by decide +kernel
theorem dX10_isQuestion_20 : decode cX10_isQuestion 20 = .ok (.ifCond .eq 7, 3) := by decide +kernel
theorem dX10_isQuestion_23 : decode cX10_isQuestion 23 = .ok (.iconst 1, 1) := by decide +kernel
theorem dX10_isQuestion_24 : decode cX10_isQuestion 24 = .ok (.goto 4, 3) := by decide +kernel
theorem dX10_isQuestion_27 : decode cX10_isQuestion 27 = .ok (.iconst 0, 1) := by decide +kernel
theorem dX10_isQuestion_28 : decode cX10_isQuestion 28 = .ok (.ireturn, 1) := by decide +kernel
theorem dX10_isHouse_0 : decode cX10_isHouse 0 = .ok (.aload_n 0, 1) := by decide +kernel
theorem dX10_isHouse_1 : decode cX10_isHouse 1 = .ok (.getfield 212, 3) := by decide +kernel
theorem dX10_isHouse_4 : decode cX10_isHouse 4 = .ok (.ifCond .eq 23, 3) := by decide +kernel
theorem dX10_isHouse_7 : decode cX10_isHouse 7 = .ok (.iload_n 1, 1) := by decide +kernel
theorem dX10_isHouse_8 : decode cX10_isHouse 8 = .ok (.iconst 0, 1) := by decide +kernel
theorem dX10_isHouse_9 : decode cX10_isHouse 9 = .ok (.aload_n 0, 1) := by decide +kernel
theorem dX10_isHouse_10 : decode cX10_isHouse 10 = .ok (.getfield 20, 3) := by decide +kernel
theorem dX10_isHouse_13 : decode cX10_isHouse 13 = .ok (.iconst 3, 1) := by decide +kernel
theorem dX10_isHouse_14 : decode cX10_isHouse 14 = .ok (.iaload, 1) := by decide +kernel
theorem dX10_isHouse_15 : decode cX10_isHouse 15 = .ok (.iconst 1, 1) := by decide +kernel
theorem dX10_isHouse_16 : decode cX10_isHouse 16 = .ok (.isub, 1) := by decide +kernel
theorem dX10_isHouse_17 : decode cX10_isHouse 17 = .ok (.invokestatic 156, 3) := by decide +kernel
theorem dX10_isHouse_20 : decode cX10_isHouse 20 = .ok (.ifCond .eq 7, 3) := by decide +kernel
theorem dX10_isHouse_23 : decode cX10_isHouse 23 = .ok (.iconst 1, 1) := by decide +kernel
theorem dX10_isHouse_24 : decode cX10_isHouse 24 = .ok (.goto 4, 3) := by decide +kernel
theorem dX10_isHouse_27 : decode cX10_isHouse 27 = .ok (.iconst 0, 1) := by decide +kernel
theorem dX10_isHouse_28 : decode cX10_isHouse 28 = .ok (.ireturn, 1) := by decide +kernel
theorem dX10_isAnswer_0 : decode cX10_isAnswer 0 = .ok (.aload_n 0, 1) := by decide +kernel
theorem dX10_isAnswer_1 : decode cX10_isAnswer 1 = .ok (.getfield 212, 3) := by decide +kernel
theorem dX10_isAnswer_4 : decode cX10_isAnswer 4 = .ok (.ifCond .eq 23, 3) := by decide +kernel
theorem dX10_isAnswer_7 : decode cX10_isAnswer 7 = .ok (.iload_n 1, 1) := by decide +kernel
theorem dX10_isAnswer_8 : decode cX10_isAnswer 8 = .ok (.iconst 0, 1) := by decide +kernel
theorem dX10_isAnswer_9 : decode cX10_isAnswer 9 = .ok (.aload_n 0, 1) := by decide +kernel
theorem dX10_isAnswer_10 : decode cX10_isAnswer 10 = .ok (.getfield 33, 3) := by decide +kernel
theorem dX10_isAnswer_13 : decode cX10_isAnswer 13 = .ok (.iconst 1, 1) := by decide +kernel
theorem dX10_isAnswer_14 : decode cX10_isAnswer 14 = .ok (.iaload, 1) := by decide +kernel
theorem dX10_isAnswer_15 : decode cX10_isAnswer 15 = .ok (.iconst 1, 1) := by decide +kernel
theorem dX10_isAnswer_16 : decode cX10_isAnswer 16 = .ok (.isub, 1) := by decide +kernel
theorem dX10_isAnswer_17 : decode cX10_isAnswer 17 = .ok (.invokestatic 156, 3) := by decide +kernel
theorem dX10_isAnswer_20 : decode cX10_isAnswer 20 = .ok (.ifCond .eq 7, 3) := by decide +kernel
theorem dX10_isAnswer_23 : decode cX10_isAnswer 23 = .ok (.iconst 1, 1) := by decide +kernel
theorem dX10_isAnswer_24 : decode cX10_isAnswer 24 = .ok (.goto 4, 3) := by decide +kernel
theorem dX10_isAnswer_27 : decode cX10_isAnswer 27 = .ok (.iconst 0, 1) := by decide +kernel
theorem dX10_isAnswer_28 : decode cX10_isAnswer 28 = .ok (.ireturn, 1) := by decide +kernel
theorem dX10_canBe_0 : decode cX10_canBe 0 = .ok (.aload_n 0, 1) := by decide +kernel
theorem dX10_canBe_1 : decode cX10_canBe 1 = .ok (.invokevirtual 199, 3) := by decide +kernel
theorem dX10_canBe_4 : decode cX10_canBe 4 = .ok (.aload_n 0, 1) := by decide +kernel
theorem dX10_canBe_5 : decode cX10_canBe 5 = .ok (.iload_n 1, 1) := by decide +kernel
theorem dX10_canBe_6 : decode cX10_canBe 6 = .ok (.invokevirtual 288, 3) := by decide +kernel
theorem dX10_canBe_9 : decode cX10_canBe 9 = .ok (.ifCond .eq 18, 3) := by decide +kernel
theorem dX10_canBe_12 : decode cX10_canBe 12 = .ok (.aload_n 0, 1) := by decide +kernel
theorem dX10_canBe_13 : decode cX10_canBe 13 = .ok (.getfield 26, 3) := by decide +kernel
theorem dX10_canBe_16 : decode cX10_canBe 16 = .ok (.bipush 8, 2) := by decide +kernel
theorem dX10_canBe_18 : decode cX10_canBe 18 = .ok (.laload, 1) := by decide +kernel
theorem dX10_canBe_19 : decode cX10_canBe 19 = .ok (.iload_n 1, 1) := by decide +kernel
theorem dX10_canBe_20 : decode cX10_canBe 20 = .ok (.lshr, 1) := by decide +kernel
theorem dX10_canBe_21 : decode cX10_canBe 21 = .ok (.lconst 1, 1) := by decide +kernel
theorem dX10_canBe_22 : decode cX10_canBe 22 = .ok (.land, 1) := by decide +kernel
theorem dX10_canBe_23 : decode cX10_canBe 23 = .ok (.l2i, 1) := by decide +kernel
theorem dX10_canBe_24 : decode cX10_canBe 24 = .ok (.goto 8, 3) := by decide +kernel
theorem dX10_canBe_27 : decode cX10_canBe 27 = .ok (.aload_n 0, 1) := by decide +kernel
theorem dX10_canBe_28 : decode cX10_canBe 28 = .ok (.iconst 1, 1) := by decide +kernel
theorem dX10_canBe_29 : decode cX10_canBe 29 = .ok (.invokevirtual 202, 3) := by decide +kernel
theorem dX10_canBe_32 : decode cX10_canBe 32 = .ok (.ireturn, 1) := by decide +kernel
theorem dX10_worlds_0 : decode cX10_worlds 0 = .ok (.aload_n 0, 1) := by decide +kernel
theorem dX10_worlds_1 : decode cX10_worlds 1 = .ok (.invokevirtual 199, 3) := by decide +kernel
theorem dX10_worlds_4 : decode cX10_worlds 4 = .ok (.aload_n 0, 1) := by decide +kernel
theorem dX10_worlds_5 : decode cX10_worlds 5 = .ok (.getfield 212, 3) := by decide +kernel
theorem dX10_worlds_8 : decode cX10_worlds 8 = .ok (.ifCond .eq 16, 3) := by decide +kernel
theorem dX10_worlds_11 : decode cX10_worlds 11 = .ok (.aload_n 0, 1) := by decide +kernel
theorem dX10_worlds_12 : decode cX10_worlds 12 = .ok (.getfield 26, 3) := by decide +kernel
theorem dX10_worlds_15 : decode cX10_worlds 15 = .ok (.bipush 8, 2) := by decide +kernel
theorem dX10_worlds_17 : decode cX10_worlds 17 = .ok (.laload, 1) := by decide +kernel
theorem dX10_worlds_18 : decode cX10_worlds 18 = .ok (.invokestatic 291, 3) := by decide +kernel
theorem dX10_worlds_21 : decode cX10_worlds 21 = .ok (.goto 8, 3) := by decide +kernel
theorem dX10_worlds_24 : decode cX10_worlds 24 = .ok (.aload_n 0, 1) := by decide +kernel
theorem dX10_worlds_25 : decode cX10_worlds 25 = .ok (.iconst 1, 1) := by decide +kernel
theorem dX10_worlds_26 : decode cX10_worlds 26 = .ok (.invokevirtual 202, 3) := by decide +kernel
theorem dX10_worlds_29 : decode cX10_worlds 29 = .ok (.ireturn, 1) := by decide +kernel
theorem dX10_oddsOf_0 : decode cX10_oddsOf 0 = .ok (.iconst 1, 1) := by decide +kernel
theorem dX10_oddsOf_1 : decode cX10_oddsOf 1 = .ok (.istore_n 2, 1) := by decide +kernel
theorem dX10_oddsOf_2 : decode cX10_oddsOf 2 = .ok (.iconst 0, 1) := by decide +kernel
theorem dX10_oddsOf_3 : decode cX10_oddsOf 3 = .ok (.istore_n 3, 1) := by decide +kernel
theorem dX10_oddsOf_4 : decode cX10_oddsOf 4 = .ok (.iload_n 3, 1) := by decide +kernel
theorem dX10_oddsOf_5 : decode cX10_oddsOf 5 = .ok (.aload_n 0, 1) := by decide +kernel
theorem dX10_oddsOf_6 : decode cX10_oddsOf 6 = .ok (.getfield 20, 3) := by decide +kernel
theorem dX10_oddsOf_9 : decode cX10_oddsOf 9 = .ok (.iconst 1, 1) := by decide +kernel
theorem dX10_oddsOf_10 : decode cX10_oddsOf 10 = .ok (.iaload, 1) := by decide +kernel
theorem dX10_oddsOf_11 : decode cX10_oddsOf 11 = .ok (.if_icmp .ge 44, 3) := by decide +kernel
theorem dX10_oddsOf_14 : decode cX10_oddsOf 14 = .ok (.iload_n 2, 1) := by decide +kernel
theorem dX10_oddsOf_15 : decode cX10_oddsOf 15 = .ok (.iload_n 1, 1) := by decide +kernel
theorem dX10_oddsOf_16 : decode cX10_oddsOf 16 = .ok (.iload_n 3, 1) := by decide +kernel
theorem dX10_oddsOf_17 : decode cX10_oddsOf 17 = .ok (.invokestatic 270, 3) := by decide +kernel
theorem dX10_oddsOf_20 : decode cX10_oddsOf 20 = .ok (.ifCond .eq 15, 3) := by decide +kernel
theorem dX10_oddsOf_23 : decode cX10_oddsOf 23 = .ok (.aload_n 0, 1) := by decide +kernel
theorem dX10_oddsOf_24 : decode cX10_oddsOf 24 = .ok (.getfield 20, 3) := by decide +kernel
theorem dX10_oddsOf_27 : decode cX10_oddsOf 27 = .ok (.bipush 11, 2) := by decide +kernel
theorem dX10_oddsOf_29 : decode cX10_oddsOf 29 = .ok (.iload_n 3, 1) := by decide +kernel
theorem dX10_oddsOf_30 : decode cX10_oddsOf 30 = .ok (.iadd, 1) := by decide +kernel
theorem dX10_oddsOf_31 : decode cX10_oddsOf 31 = .ok (.iaload, 1) := by decide +kernel
theorem dX10_oddsOf_32 : decode cX10_oddsOf 32 = .ok (.goto 15, 3) := by decide +kernel
theorem dX10_oddsOf_35 : decode cX10_oddsOf 35 = .ok (.bipush 10, 2) := by decide +kernel
theorem dX10_oddsOf_37 : decode cX10_oddsOf 37 = .ok (.aload_n 0, 1) := by decide +kernel
theorem dX10_oddsOf_38 : decode cX10_oddsOf 38 = .ok (.getfield 20, 3) := by decide +kernel
theorem dX10_oddsOf_41 : decode cX10_oddsOf 41 = .ok (.bipush 11, 2) := by decide +kernel
theorem dX10_oddsOf_43 : decode cX10_oddsOf 43 = .ok (.iload_n 3, 1) := by decide +kernel
theorem dX10_oddsOf_44 : decode cX10_oddsOf 44 = .ok (.iadd, 1) := by decide +kernel
theorem dX10_oddsOf_45 : decode cX10_oddsOf 45 = .ok (.iaload, 1) := by decide +kernel
theorem dX10_oddsOf_46 : decode cX10_oddsOf 46 = .ok (.isub, 1) := by decide +kernel
theorem dX10_oddsOf_47 : decode cX10_oddsOf 47 = .ok (.imul, 1) := by decide +kernel
theorem dX10_oddsOf_48 : decode cX10_oddsOf 48 = .ok (.istore_n 2, 1) := by decide +kernel
theorem dX10_oddsOf_49 : decode cX10_oddsOf 49 = .ok (.iinc 3 1, 3) := by decide +kernel
theorem dX10_oddsOf_52 : decode cX10_oddsOf 52 = .ok (.goto (-48), 3) := by decide +kernel
theorem dX10_oddsOf_55 : decode cX10_oddsOf 55 = .ok (.iload_n 2, 1) := by decide +kernel
theorem dX10_oddsOf_56 : decode cX10_oddsOf 56 = .ok (.ireturn, 1) := by decide +kernel
theorem dX10_weight_0 : decode cX10_weight 0 = .ok (.lconst 0, 1) := by decide +kernel
theorem dX10_weight_1 : decode cX10_weight 1 = .ok (.lstore_n 3, 1) := by decide +kernel
theorem dX10_weight_2 : decode cX10_weight 2 = .ok (.iconst 0, 1) := by decide +kernel
theorem dX10_weight_3 : decode cX10_weight 3 = .ok (.istore 5, 2) := by decide +kernel
theorem dX10_weight_5 : decode cX10_weight 5 = .ok (.iload 5, 2) := by decide +kernel
theorem dX10_weight_7 : decode cX10_weight 7 = .ok (.bipush 64, 2) := by decide +kernel
theorem dX10_weight_9 : decode cX10_weight 9 = .ok (.if_icmp .ge 34, 3) := by decide +kernel
theorem dX10_weight_12 : decode cX10_weight 12 = .ok (.lload_n 3, 1) := by decide +kernel
theorem dX10_weight_13 : decode cX10_weight 13 = .ok (.lload_n 1, 1) := by decide +kernel
theorem dX10_weight_14 : decode cX10_weight 14 = .ok (.iload 5, 2) := by decide +kernel
theorem dX10_weight_16 : decode cX10_weight 16 = .ok (.lshr, 1) := by decide +kernel
theorem dX10_weight_17 : decode cX10_weight 17 = .ok (.lconst 1, 1) := by decide +kernel
theorem dX10_weight_18 : decode cX10_weight 18 = .ok (.land, 1) := by decide +kernel
theorem dX10_weight_19 : decode cX10_weight 19 = .ok (.lconst 1, 1) := by decide +kernel
theorem dX10_weight_20 : decode cX10_weight 20 = .ok (.lcmp, 1) := by decide +kernel
theorem dX10_weight_21 : decode cX10_weight 21 = .ok (.ifCond .ne 13, 3) := by decide +kernel
theorem dX10_weight_24 : decode cX10_weight 24 = .ok (.aload_n 0, 1) := by decide +kernel
theorem dX10_weight_25 : decode cX10_weight 25 = .ok (.iload 5, 2) := by decide +kernel
theorem dX10_weight_27 : decode cX10_weight 27 = .ok (.invokevirtual 295, 3) := by decide +kernel
theorem dX10_weight_30 : decode cX10_weight 30 = .ok (.i2l, 1) := by decide +kernel
theorem dX10_weight_31 : decode cX10_weight 31 = .ok (.goto 4, 3) := by decide +kernel
theorem dX10_weight_34 : decode cX10_weight 34 = .ok (.lconst 0, 1) := by decide +kernel
theorem dX10_weight_35 : decode cX10_weight 35 = .ok (.ladd, 1) := by decide +kernel
theorem dX10_weight_36 : decode cX10_weight 36 = .ok (.lstore_n 3, 1) := by decide +kernel
theorem dX10_weight_37 : decode cX10_weight 37 = .ok (.iinc 5 1, 3) := by decide +kernel
theorem dX10_weight_40 : decode cX10_weight 40 = .ok (.goto (-35), 3) := by decide +kernel
theorem dX10_weight_43 : decode cX10_weight 43 = .ok (.lload_n 3, 1) := by decide +kernel
theorem dX10_weight_44 : decode cX10_weight 44 = .ok (.lreturn, 1) := by decide +kernel
theorem dX10_odds_0 : decode cX10_odds 0 = .ok (.aload_n 0, 1) := by decide +kernel
theorem dX10_odds_1 : decode cX10_odds 1 = .ok (.invokevirtual 199, 3) := by decide +kernel
theorem dX10_odds_4 : decode cX10_odds 4 = .ok (.aload_n 0, 1) := by decide +kernel
theorem dX10_odds_5 : decode cX10_odds 5 = .ok (.iload_n 1, 1) := by decide +kernel
theorem dX10_odds_6 : decode cX10_odds 6 = .ok (.invokevirtual 288, 3) := by decide +kernel
theorem dX10_odds_9 : decode cX10_odds 9 = .ok (.ifCond .eq 11, 3) := by decide +kernel
theorem dX10_odds_12 : decode cX10_odds 12 = .ok (.aload_n 0, 1) := by decide +kernel
theorem dX10_odds_13 : decode cX10_odds 13 = .ok (.iload_n 1, 1) := by decide +kernel
theorem dX10_odds_14 : decode cX10_odds 14 = .ok (.invokevirtual 295, 3) := by decide +kernel
theorem dX10_odds_17 : decode cX10_odds 17 = .ok (.goto 8, 3) := by decide +kernel
theorem dX10_odds_20 : decode cX10_odds 20 = .ok (.aload_n 0, 1) := by decide +kernel
theorem dX10_odds_21 : decode cX10_odds 21 = .ok (.iconst 1, 1) := by decide +kernel
theorem dX10_odds_22 : decode cX10_odds 22 = .ok (.invokevirtual 202, 3) := by decide +kernel
theorem dX10_odds_25 : decode cX10_odds 25 = .ok (.ireturn, 1) := by decide +kernel
theorem dX10_isSo_0 : decode cX10_isSo 0 = .ok (.aload_n 0, 1) := by decide +kernel
theorem dX10_isSo_1 : decode cX10_isSo 1 = .ok (.invokevirtual 199, 3) := by decide +kernel
theorem dX10_isSo_4 : decode cX10_isSo 4 = .ok (.aload_n 0, 1) := by decide +kernel
theorem dX10_isSo_5 : decode cX10_isSo 5 = .ok (.iload_n 1, 1) := by decide +kernel
theorem dX10_isSo_6 : decode cX10_isSo 6 = .ok (.invokevirtual 298, 3) := by decide +kernel
theorem dX10_isSo_9 : decode cX10_isSo 9 = .ok (.ifCond .eq 25, 3) := by decide +kernel
theorem dX10_isSo_12 : decode cX10_isSo 12 = .ok (.aload_n 0, 1) := by decide +kernel
theorem dX10_isSo_13 : decode cX10_isSo 13 = .ok (.iload_n 2, 1) := by decide +kernel
theorem dX10_isSo_14 : decode cX10_isSo 14 = .ok (.invokevirtual 288, 3) := by decide +kernel
theorem dX10_isSo_17 : decode cX10_isSo 17 = .ok (.ifCond .eq 17, 3) := by decide +kernel
theorem dX10_isSo_20 : decode cX10_isSo 20 = .ok (.aload_n 0, 1) := by decide +kernel
theorem dX10_isSo_21 : decode cX10_isSo 21 = .ok (.getfield 26, 3) := by decide +kernel
theorem dX10_isSo_24 : decode cX10_isSo 24 = .ok (.iload_n 1, 1) := by decide +kernel
theorem dX10_isSo_25 : decode cX10_isSo 25 = .ok (.laload, 1) := by decide +kernel
theorem dX10_isSo_26 : decode cX10_isSo 26 = .ok (.iload_n 2, 1) := by decide +kernel
theorem dX10_isSo_27 : decode cX10_isSo 27 = .ok (.lshr, 1) := by decide +kernel
theorem dX10_isSo_28 : decode cX10_isSo 28 = .ok (.lconst 1, 1) := by decide +kernel
theorem dX10_isSo_29 : decode cX10_isSo 29 = .ok (.land, 1) := by decide +kernel
theorem dX10_isSo_30 : decode cX10_isSo 30 = .ok (.l2i, 1) := by decide +kernel
theorem dX10_isSo_31 : decode cX10_isSo 31 = .ok (.goto 8, 3) := by decide +kernel
theorem dX10_isSo_34 : decode cX10_isSo 34 = .ok (.aload_n 0, 1) := by decide +kernel
theorem dX10_isSo_35 : decode cX10_isSo 35 = .ok (.iconst 1, 1) := by decide +kernel
theorem dX10_isSo_36 : decode cX10_isSo 36 = .ok (.invokevirtual 202, 3) := by decide +kernel
theorem dX10_isSo_39 : decode cX10_isSo 39 = .ok (.ireturn, 1) := by decide +kernel
theorem dX10_chance_0 : decode cX10_chance 0 = .ok (.aload_n 0, 1) := by decide +kernel
theorem dX10_chance_1 : decode cX10_chance 1 = .ok (.invokevirtual 199, 3) := by decide +kernel
theorem dX10_chance_4 : decode cX10_chance 4 = .ok (.aload_n 0, 1) := by decide +kernel
theorem dX10_chance_5 : decode cX10_chance 5 = .ok (.iload_n 1, 1) := by decide +kernel
theorem dX10_chance_6 : decode cX10_chance 6 = .ok (.invokevirtual 298, 3) := by decide +kernel
theorem dX10_chance_9 : decode cX10_chance 9 = .ok (.ifCond .eq 39, 3) := by decide +kernel
theorem dX10_chance_12 : decode cX10_chance 12 = .ok (.aload_n 0, 1) := by decide +kernel
theorem dX10_chance_13 : decode cX10_chance 13 = .ok (.aload_n 0, 1) := by decide +kernel
theorem dX10_chance_14 : decode cX10_chance 14 = .ok (.getfield 26, 3) := by decide +kernel
theorem dX10_chance_17 : decode cX10_chance 17 = .ok (.bipush 8, 2) := by decide +kernel
theorem dX10_chance_19 : decode cX10_chance 19 = .ok (.laload, 1) := by decide +kernel
theorem dX10_chance_20 : decode cX10_chance 20 = .ok (.aload_n 0, 1) := by decide +kernel
theorem dX10_chance_21 : decode cX10_chance 21 = .ok (.getfield 26, 3) := by decide +kernel
theorem dX10_chance_24 : decode cX10_chance 24 = .ok (.iload_n 1, 1) := by decide +kernel
theorem dX10_chance_25 : decode cX10_chance 25 = .ok (.laload, 1) := by decide +kernel
theorem dX10_chance_26 : decode cX10_chance 26 = .ok (.land, 1) := by decide +kernel
theorem dX10_chance_27 : decode cX10_chance 27 = .ok (.invokevirtual 301, 3) := by decide +kernel
theorem dX10_chance_30 : decode cX10_chance 30 = .ok (.aload_n 0, 1) := by decide +kernel
theorem dX10_chance_31 : decode cX10_chance 31 = .ok (.aload_n 0, 1) := by decide +kernel
theorem dX10_chance_32 : decode cX10_chance 32 = .ok (.getfield 26, 3) := by decide +kernel
theorem dX10_chance_35 : decode cX10_chance 35 = .ok (.bipush 8, 2) := by decide +kernel
theorem dX10_chance_37 : decode cX10_chance 37 = .ok (.laload, 1) := by decide +kernel
theorem dX10_chance_38 : decode cX10_chance 38 = .ok (.invokevirtual 301, 3) := by decide +kernel
theorem dX10_chance_41 : decode cX10_chance 41 = .ok (.iload_n 2, 1) := by decide +kernel
theorem dX10_chance_42 : decode cX10_chance 42 = .ok (.invokestatic 305, 3) := by decide +kernel
theorem dX10_chance_45 : decode cX10_chance 45 = .ok (.goto 9, 3) := by decide +kernel
theorem dX10_chance_48 : decode cX10_chance 48 = .ok (.aload_n 0, 1) := by decide +kernel
theorem dX10_chance_49 : decode cX10_chance 49 = .ok (.iconst 1, 1) := by decide +kernel
theorem dX10_chance_50 : decode cX10_chance 50 = .ok (.invokevirtual 202, 3) := by decide +kernel
theorem dX10_chance_53 : decode cX10_chance 53 = .ok (.i2l, 1) := by decide +kernel
theorem dX10_chance_54 : decode cX10_chance 54 = .ok (.lreturn, 1) := by decide +kernel
theorem dX10_alike_0 : decode cX10_alike 0 = .ok (.aload_n 0, 1) := by decide +kernel
theorem dX10_alike_1 : decode cX10_alike 1 = .ok (.invokevirtual 199, 3) := by decide +kernel
theorem dX10_alike_4 : decode cX10_alike 4 = .ok (.aload_n 0, 1) := by decide +kernel
theorem dX10_alike_5 : decode cX10_alike 5 = .ok (.iload_n 1, 1) := by decide +kernel
theorem dX10_alike_6 : decode cX10_alike 6 = .ok (.invokevirtual 298, 3) := by decide +kernel
theorem dX10_alike_9 : decode cX10_alike 9 = .ok (.ifCond .ne 9, 3) := by decide +kernel
theorem dX10_alike_12 : decode cX10_alike 12 = .ok (.aload_n 0, 1) := by decide +kernel
theorem dX10_alike_13 : decode cX10_alike 13 = .ok (.iconst 1, 1) := by decide +kernel
theorem dX10_alike_14 : decode cX10_alike 14 = .ok (.invokevirtual 202, 3) := by decide +kernel
theorem dX10_alike_17 : decode cX10_alike 17 = .ok (.ireturn, 1) := by decide +kernel
theorem dX10_alike_18 : decode cX10_alike 18 = .ok (.iconst 0, 1) := by decide +kernel
theorem dX10_alike_19 : decode cX10_alike 19 = .ok (.istore_n 2, 1) := by decide +kernel
theorem dX10_alike_20 : decode cX10_alike 20 = .ok (.iconst 0, 1) := by decide +kernel
theorem dX10_alike_21 : decode cX10_alike 21 = .ok (.istore_n 3, 1) := by decide +kernel
theorem dX10_alike_22 : decode cX10_alike 22 = .ok (.iload_n 3, 1) := by decide +kernel
theorem dX10_alike_23 : decode cX10_alike 23 = .ok (.aload_n 0, 1) := by decide +kernel
theorem dX10_alike_24 : decode cX10_alike 24 = .ok (.getfield 20, 3) := by decide +kernel
theorem dX10_alike_27 : decode cX10_alike 27 = .ok (.iconst 5, 1) := by decide +kernel
theorem dX10_alike_28 : decode cX10_alike 28 = .ok (.iaload, 1) := by decide +kernel
theorem dX10_alike_29 : decode cX10_alike 29 = .ok (.if_icmp .ge 45, 3) := by decide +kernel
theorem dX10_alike_32 : decode cX10_alike 32 = .ok (.iload_n 2, 1) := by decide +kernel
theorem dX10_alike_33 : decode cX10_alike 33 = .ok (.aload_n 0, 1) := by decide +kernel
theorem dX10_alike_34 : decode cX10_alike 34 = .ok (.getfield 26, 3) := by decide +kernel
theorem dX10_alike_37 : decode cX10_alike 37 = .ok (.iload_n 3, 1) := by decide +kernel
theorem dX10_alike_38 : decode cX10_alike 38 = .ok (.laload, 1) := by decide +kernel
theorem dX10_alike_39 : decode cX10_alike 39 = .ok (.aload_n 0, 1) := by decide +kernel
theorem dX10_alike_40 : decode cX10_alike 40 = .ok (.getfield 26, 3) := by decide +kernel
theorem dX10_alike_43 : decode cX10_alike 43 = .ok (.iload_n 1, 1) := by decide +kernel
theorem dX10_alike_44 : decode cX10_alike 44 = .ok (.laload, 1) := by decide +kernel
theorem dX10_alike_45 : decode cX10_alike 45 = .ok (.lxor, 1) := by decide +kernel
theorem dX10_alike_46 : decode cX10_alike 46 = .ok (.aload_n 0, 1) := by decide +kernel
theorem dX10_alike_47 : decode cX10_alike 47 = .ok (.getfield 26, 3) := by decide +kernel
theorem dX10_alike_50 : decode cX10_alike 50 = .ok (.bipush 8, 2) := by decide +kernel
theorem dX10_alike_52 : decode cX10_alike 52 = .ok (.laload, 1) := by decide +kernel
theorem dX10_alike_53 : decode cX10_alike 53 = .ok (.land, 1) := by decide +kernel
theorem dX10_alike_54 : decode cX10_alike 54 = .ok (.lconst 0, 1) := by decide +kernel
theorem dX10_alike_55 : decode cX10_alike 55 = .ok (.lcmp, 1) := by decide +kernel
theorem dX10_alike_56 : decode cX10_alike 56 = .ok (.ifCond .ne 9, 3) := by decide +kernel
theorem dX10_alike_59 : decode cX10_alike 59 = .ok (.iconst 1, 1) := by decide +kernel
theorem dX10_alike_60 : decode cX10_alike 60 = .ok (.iload_n 3, 1) := by decide +kernel
theorem dX10_alike_61 : decode cX10_alike 61 = .ok (.ishl, 1) := by decide +kernel
theorem dX10_alike_62 : decode cX10_alike 62 = .ok (.goto 4, 3) := by decide +kernel
theorem dX10_alike_65 : decode cX10_alike 65 = .ok (.iconst 0, 1) := by decide +kernel
theorem dX10_alike_66 : decode cX10_alike 66 = .ok (.ior, 1) := by decide +kernel
theorem dX10_alike_67 : decode cX10_alike 67 = .ok (.istore_n 2, 1) := by decide +kernel
theorem dX10_alike_68 : decode cX10_alike 68 = .ok (.iinc 3 1, 3) := by decide +kernel
theorem dX10_alike_71 : decode cX10_alike 71 = .ok (.goto (-49), 3) := by decide +kernel
theorem dX10_alike_74 : decode cX10_alike 74 = .ok (.iload_n 2, 1) := by decide +kernel
theorem dX10_alike_75 : decode cX10_alike 75 = .ok (.ireturn, 1) := by decide +kernel
theorem dX10_implies_0 : decode cX10_implies 0 = .ok (.aload_n 0, 1) := by decide +kernel
theorem dX10_implies_1 : decode cX10_implies 1 = .ok (.invokevirtual 199, 3) := by decide +kernel
theorem dX10_implies_4 : decode cX10_implies 4 = .ok (.aload_n 0, 1) := by decide +kernel
theorem dX10_implies_5 : decode cX10_implies 5 = .ok (.iload_n 1, 1) := by decide +kernel
theorem dX10_implies_6 : decode cX10_implies 6 = .ok (.invokevirtual 298, 3) := by decide +kernel
theorem dX10_implies_9 : decode cX10_implies 9 = .ok (.ifCond .eq 11, 3) := by decide +kernel
theorem dX10_implies_12 : decode cX10_implies 12 = .ok (.aload_n 0, 1) := by decide +kernel
theorem dX10_implies_13 : decode cX10_implies 13 = .ok (.iload_n 2, 1) := by decide +kernel
theorem dX10_implies_14 : decode cX10_implies 14 = .ok (.invokevirtual 298, 3) := by decide +kernel
theorem dX10_implies_17 : decode cX10_implies 17 = .ok (.ifCond .ne 9, 3) := by decide +kernel
theorem dX10_implies_20 : decode cX10_implies 20 = .ok (.aload_n 0, 1) := by decide +kernel
theorem dX10_implies_21 : decode cX10_implies 21 = .ok (.iconst 1, 1) := by decide +kernel
theorem dX10_implies_22 : decode cX10_implies 22 = .ok (.invokevirtual 202, 3) := by decide +kernel
theorem dX10_implies_25 : decode cX10_implies 25 = .ok (.ireturn, 1) := by decide +kernel
theorem dX10_implies_26 : decode cX10_implies 26 = .ok (.aload_n 0, 1) := by decide +kernel
theorem dX10_implies_27 : decode cX10_implies 27 = .ok (.getfield 26, 3) := by decide +kernel
theorem dX10_implies_30 : decode cX10_implies 30 = .ok (.bipush 8, 2) := by decide +kernel
theorem dX10_implies_32 : decode cX10_implies 32 = .ok (.laload, 1) := by decide +kernel
theorem dX10_implies_33 : decode cX10_implies 33 = .ok (.aload_n 0, 1) := by decide +kernel
theorem dX10_implies_34 : decode cX10_implies 34 = .ok (.getfield 26, 3) := by decide +kernel
theorem dX10_implies_37 : decode cX10_implies 37 = .ok (.iload_n 1, 1) := by decide +kernel
theorem dX10_implies_38 : decode cX10_implies 38 = .ok (.laload, 1) := by decide +kernel
theorem dX10_implies_39 : decode cX10_implies 39 = .ok (.land, 1) := by decide +kernel
theorem dX10_implies_40 : decode cX10_implies 40 = .ok (.aload_n 0, 1) := by decide +kernel
theorem dX10_implies_41 : decode cX10_implies 41 = .ok (.getfield 26, 3) := by decide +kernel
theorem dX10_implies_44 : decode cX10_implies 44 = .ok (.iload_n 2, 1) := by decide +kernel
theorem dX10_implies_45 : decode cX10_implies 45 = .ok (.laload, 1) := by decide +kernel
theorem dX10_implies_46 : decode cX10_implies 46 = .ok (.ldc2_w 181, 3) := by decide +kernel
theorem dX10_implies_49 : decode cX10_implies 49 = .ok (.lxor, 1) := by decide +kernel
theorem dX10_implies_50 : decode cX10_implies 50 = .ok (.land, 1) := by decide +kernel
theorem dX10_implies_51 : decode cX10_implies 51 = .ok (.lconst 0, 1) := by decide +kernel
theorem dX10_implies_52 : decode cX10_implies 52 = .ok (.lcmp, 1) := by decide +kernel
theorem dX10_implies_53 : decode cX10_implies 53 = .ok (.ifCond .ne 7, 3) := by decide +kernel
theorem dX10_implies_56 : decode cX10_implies 56 = .ok (.iconst 1, 1) := by decide +kernel
theorem dX10_implies_57 : decode cX10_implies 57 = .ok (.goto 4, 3) := by decide +kernel
theorem dX10_implies_60 : decode cX10_implies 60 = .ok (.iconst 0, 1) := by decide +kernel
theorem dX10_implies_61 : decode cX10_implies 61 = .ok (.ireturn, 1) := by decide +kernel
theorem dX10_answerSet_0 : decode cX10_answerSet 0 = .ok (.aload_n 0, 1) := by decide +kernel
theorem dX10_answerSet_1 : decode cX10_answerSet 1 = .ok (.getfield 33, 3) := by decide +kernel
theorem dX10_answerSet_4 : decode cX10_answerSet 4 = .ok (.iconst 2, 1) := by decide +kernel
theorem dX10_answerSet_5 : decode cX10_answerSet 5 = .ok (.iconst 3, 1) := by decide +kernel
theorem dX10_answerSet_6 : decode cX10_answerSet 6 = .ok (.iload_n 1, 1) := by decide +kernel
theorem dX10_answerSet_7 : decode cX10_answerSet 7 = .ok (.imul, 1) := by decide +kernel
theorem dX10_answerSet_8 : decode cX10_answerSet 8 = .ok (.iadd, 1) := by decide +kernel
theorem dX10_answerSet_9 : decode cX10_answerSet 9 = .ok (.iconst 2, 1) := by decide +kernel
theorem dX10_answerSet_10 : decode cX10_answerSet 10 = .ok (.iadd, 1) := by decide +kernel
theorem dX10_answerSet_11 : decode cX10_answerSet 11 = .ok (.iaload, 1) := by decide +kernel
theorem dX10_answerSet_12 : decode cX10_answerSet 12 = .ok (.iconst 1, 1) := by decide +kernel
theorem dX10_answerSet_13 : decode cX10_answerSet 13 = .ok (.if_icmp .ne 7, 3) := by decide +kernel
theorem dX10_answerSet_16 : decode cX10_answerSet 16 = .ok (.iconst 1, 1) := by decide +kernel
theorem dX10_answerSet_17 : decode cX10_answerSet 17 = .ok (.goto 4, 3) := by decide +kernel
theorem dX10_answerSet_20 : decode cX10_answerSet 20 = .ok (.iconst 0, 1) := by decide +kernel
theorem dX10_answerSet_21 : decode cX10_answerSet 21 = .ok (.iload_n 2, 1) := by decide +kernel
theorem dX10_answerSet_22 : decode cX10_answerSet 22 = .ok (.if_icmp .eq 7, 3) := by decide +kernel
theorem dX10_answerSet_25 : decode cX10_answerSet 25 = .ok (.iconst 1, 1) := by decide +kernel
theorem dX10_answerSet_26 : decode cX10_answerSet 26 = .ok (.goto 4, 3) := by decide +kernel
theorem dX10_answerSet_29 : decode cX10_answerSet 29 = .ok (.iconst 0, 1) := by decide +kernel
theorem dX10_answerSet_30 : decode cX10_answerSet 30 = .ok (.istore_n 3, 1) := by decide +kernel
theorem dX10_answerSet_31 : decode cX10_answerSet 31 = .ok (.aload_n 0, 1) := by decide +kernel
theorem dX10_answerSet_32 : decode cX10_answerSet 32 = .ok (.getfield 26, 3) := by decide +kernel
theorem dX10_answerSet_35 : decode cX10_answerSet 35 = .ok (.aload_n 0, 1) := by decide +kernel
theorem dX10_answerSet_36 : decode cX10_answerSet 36 = .ok (.getfield 33, 3) := by decide +kernel
theorem dX10_answerSet_39 : decode cX10_answerSet 39 = .ok (.iconst 2, 1) := by decide +kernel
theorem dX10_answerSet_40 : decode cX10_answerSet 40 = .ok (.iconst 3, 1) := by decide +kernel
theorem dX10_answerSet_41 : decode cX10_answerSet 41 = .ok (.iload_n 1, 1) := by decide +kernel
theorem dX10_answerSet_42 : decode cX10_answerSet 42 = .ok (.imul, 1) := by decide +kernel
theorem dX10_answerSet_43 : decode cX10_answerSet 43 = .ok (.iadd, 1) := by decide +kernel
theorem dX10_answerSet_44 : decode cX10_answerSet 44 = .ok (.iconst 1, 1) := by decide +kernel
theorem dX10_answerSet_45 : decode cX10_answerSet 45 = .ok (.iadd, 1) := by decide +kernel
theorem dX10_answerSet_46 : decode cX10_answerSet 46 = .ok (.iaload, 1) := by decide +kernel
theorem dX10_answerSet_47 : decode cX10_answerSet 47 = .ok (.laload, 1) := by decide +kernel
theorem dX10_answerSet_48 : decode cX10_answerSet 48 = .ok (.lstore 4, 2) := by decide +kernel
theorem dX10_answerSet_50 : decode cX10_answerSet 50 = .ok (.iload_n 3, 1) := by decide +kernel
theorem dX10_answerSet_51 : decode cX10_answerSet 51 = .ok (.ifCond .eq 8, 3) := by decide +kernel
theorem dX10_answerSet_54 : decode cX10_answerSet 54 = .ok (.lload 4, 2) := by decide +kernel
theorem dX10_answerSet_56 : decode cX10_answerSet 56 = .ok (.goto 9, 3) := by decide +kernel
theorem dX10_answerSet_59 : decode cX10_answerSet 59 = .ok (.lload 4, 2) := by decide +kernel
theorem dX10_answerSet_61 : decode cX10_answerSet 61 = .ok (.ldc2_w 181, 3) := by decide +kernel
theorem dX10_answerSet_64 : decode cX10_answerSet 64 = .ok (.lxor, 1) := by decide +kernel
theorem dX10_answerSet_65 : decode cX10_answerSet 65 = .ok (.lreturn, 1) := by decide +kernel
theorem dX10_leftBy_0 : decode cX10_leftBy 0 = .ok (.aload_n 0, 1) := by decide +kernel
theorem dX10_leftBy_1 : decode cX10_leftBy 1 = .ok (.getfield 26, 3) := by decide +kernel
theorem dX10_leftBy_4 : decode cX10_leftBy 4 = .ok (.bipush 8, 2) := by decide +kernel
theorem dX10_leftBy_6 : decode cX10_leftBy 6 = .ok (.laload, 1) := by decide +kernel
theorem dX10_leftBy_7 : decode cX10_leftBy 7 = .ok (.lstore 4, 2) := by decide +kernel
theorem dX10_leftBy_9 : decode cX10_leftBy 9 = .ok (.iconst 0, 1) := by decide +kernel
theorem dX10_leftBy_10 : decode cX10_leftBy 10 = .ok (.istore 6, 2) := by decide +kernel
theorem dX10_leftBy_12 : decode cX10_leftBy 12 = .ok (.iload 6, 2) := by decide +kernel
theorem dX10_leftBy_14 : decode cX10_leftBy 14 = .ok (.iload_n 3, 1) := by decide +kernel
theorem dX10_leftBy_15 : decode cX10_leftBy 15 = .ok (.if_icmp .ge 53, 3) := by decide +kernel
theorem dX10_leftBy_18 : decode cX10_leftBy 18 = .ok (.iload_n 1, 1) := by decide +kernel
theorem dX10_leftBy_19 : decode cX10_leftBy 19 = .ok (.aload_n 0, 1) := by decide +kernel
theorem dX10_leftBy_20 : decode cX10_leftBy 20 = .ok (.getfield 33, 3) := by decide +kernel
theorem dX10_leftBy_23 : decode cX10_leftBy 23 = .ok (.iconst 2, 1) := by decide +kernel
theorem dX10_leftBy_24 : decode cX10_leftBy 24 = .ok (.iconst 3, 1) := by decide +kernel
theorem dX10_leftBy_25 : decode cX10_leftBy 25 = .ok (.iload 6, 2) := by decide +kernel
theorem dX10_leftBy_27 : decode cX10_leftBy 27 = .ok (.imul, 1) := by decide +kernel
theorem dX10_leftBy_28 : decode cX10_leftBy 28 = .ok (.iadd, 1) := by decide +kernel
theorem dX10_leftBy_29 : decode cX10_leftBy 29 = .ok (.iaload, 1) := by decide +kernel
theorem dX10_leftBy_30 : decode cX10_leftBy 30 = .ok (.invokestatic 270, 3) := by decide +kernel
theorem dX10_leftBy_33 : decode cX10_leftBy 33 = .ok (.ifCond .eq 29, 3) := by decide +kernel
theorem dX10_leftBy_36 : decode cX10_leftBy 36 = .ok (.lload 4, 2) := by decide +kernel
theorem dX10_leftBy_38 : decode cX10_leftBy 38 = .ok (.aload_n 0, 1) := by decide +kernel
theorem dX10_leftBy_39 : decode cX10_leftBy 39 = .ok (.iload 6, 2) := by decide +kernel
theorem dX10_leftBy_41 : decode cX10_leftBy 41 = .ok (.iload_n 2, 1) := by decide +kernel
theorem dX10_leftBy_42 : decode cX10_leftBy 42 = .ok (.aload_n 0, 1) := by decide +kernel
theorem dX10_leftBy_43 : decode cX10_leftBy 43 = .ok (.getfield 33, 3) := by decide +kernel
theorem dX10_leftBy_46 : decode cX10_leftBy 46 = .ok (.iconst 2, 1) := by decide +kernel
theorem dX10_leftBy_47 : decode cX10_leftBy 47 = .ok (.iconst 3, 1) := by decide +kernel
theorem dX10_leftBy_48 : decode cX10_leftBy 48 = .ok (.iload 6, 2) := by decide +kernel
theorem dX10_leftBy_50 : decode cX10_leftBy 50 = .ok (.imul, 1) := by decide +kernel
theorem dX10_leftBy_51 : decode cX10_leftBy 51 = .ok (.iadd, 1) := by decide +kernel
theorem dX10_leftBy_52 : decode cX10_leftBy 52 = .ok (.iaload, 1) := by decide +kernel
theorem dX10_leftBy_53 : decode cX10_leftBy 53 = .ok (.invokestatic 270, 3) := by decide +kernel
theorem dX10_leftBy_56 : decode cX10_leftBy 56 = .ok (.invokevirtual 309, 3) := by decide +kernel
theorem dX10_leftBy_59 : decode cX10_leftBy 59 = .ok (.land, 1) := by decide +kernel
theorem dX10_leftBy_60 : decode cX10_leftBy 60 = .ok (.lstore 4, 2) := by decide +kernel
theorem dX10_leftBy_62 : decode cX10_leftBy 62 = .ok (.iinc 6 1, 3) := by decide +kernel
theorem dX10_leftBy_65 : decode cX10_leftBy 65 = .ok (.goto (-53), 3) := by decide +kernel
theorem dX10_leftBy_68 : decode cX10_leftBy 68 = .ok (.lload 4, 2) := by decide +kernel
theorem dX10_leftBy_70 : decode cX10_leftBy 70 = .ok (.lreturn, 1) := by decide +kernel
theorem dX10_canLie_0 : decode cX10_canLie 0 = .ok (.aload_n 0, 1) := by decide +kernel
theorem dX10_canLie_1 : decode cX10_canLie 1 = .ok (.bipush 63, 2) := by decide +kernel
theorem dX10_canLie_3 : decode cX10_canLie 3 = .ok (.iload_n 1, 1) := by decide +kernel
theorem dX10_canLie_4 : decode cX10_canLie 4 = .ok (.aload_n 0, 1) := by decide +kernel
theorem dX10_canLie_5 : decode cX10_canLie 5 = .ok (.getfield 33, 3) := by decide +kernel
theorem dX10_canLie_8 : decode cX10_canLie 8 = .ok (.iconst 1, 1) := by decide +kernel
theorem dX10_canLie_9 : decode cX10_canLie 9 = .ok (.iaload, 1) := by decide +kernel
theorem dX10_canLie_10 : decode cX10_canLie 10 = .ok (.invokevirtual 313, 3) := by decide +kernel
theorem dX10_canLie_13 : decode cX10_canLie 13 = .ok (.lconst 0, 1) := by decide +kernel
theorem dX10_canLie_14 : decode cX10_canLie 14 = .ok (.lcmp, 1) := by decide +kernel
theorem dX10_canLie_15 : decode cX10_canLie 15 = .ok (.ifCond .eq 7, 3) := by decide +kernel
theorem dX10_canLie_18 : decode cX10_canLie 18 = .ok (.iconst 1, 1) := by decide +kernel
theorem dX10_canLie_19 : decode cX10_canLie 19 = .ok (.goto 4, 3) := by decide +kernel
theorem dX10_canLie_22 : decode cX10_canLie 22 = .ok (.iconst 0, 1) := by decide +kernel
theorem dX10_canLie_23 : decode cX10_canLie 23 = .ok (.ireturn, 1) := by decide +kernel
theorem dX10_liarsOf_0 : decode cX10_liarsOf 0 = .ok (.bipush (-2), 2) := by decide +kernel
theorem dX10_liarsOf_2 : decode cX10_liarsOf 2 = .ok (.istore_n 1, 1) := by decide +kernel
theorem dX10_liarsOf_3 : decode cX10_liarsOf 3 = .ok (.iconst 0, 1) := by decide +kernel
theorem dX10_liarsOf_4 : decode cX10_liarsOf 4 = .ok (.istore_n 2, 1) := by decide +kernel
theorem dX10_liarsOf_5 : decode cX10_liarsOf 5 = .ok (.iload_n 2, 1) := by decide +kernel
theorem dX10_liarsOf_6 : decode cX10_liarsOf 6 = .ok (.iconst 1, 1) := by decide +kernel
theorem dX10_liarsOf_7 : decode cX10_liarsOf 7 = .ok (.aload_n 0, 1) := by decide +kernel
theorem dX10_liarsOf_8 : decode cX10_liarsOf 8 = .ok (.getfield 20, 3) := by decide +kernel
theorem dX10_liarsOf_11 : decode cX10_liarsOf 11 = .ok (.iconst 3, 1) := by decide +kernel
theorem dX10_liarsOf_12 : decode cX10_liarsOf 12 = .ok (.iaload, 1) := by decide +kernel
theorem dX10_liarsOf_13 : decode cX10_liarsOf 13 = .ok (.ishl, 1) := by decide +kernel
theorem dX10_liarsOf_14 : decode cX10_liarsOf 14 = .ok (.if_icmp .ge 38, 3) := by decide +kernel
theorem dX10_liarsOf_17 : decode cX10_liarsOf 17 = .ok (.iload_n 1, 1) := by decide +kernel
theorem dX10_liarsOf_18 : decode cX10_liarsOf 18 = .ok (.bipush (-2), 2) := by decide +kernel
theorem dX10_liarsOf_20 : decode cX10_liarsOf 20 = .ok (.if_icmp .eq 16, 3) := by decide +kernel
theorem dX10_liarsOf_23 : decode cX10_liarsOf 23 = .ok (.iload_n 2, 1) := by decide +kernel
theorem dX10_liarsOf_24 : decode cX10_liarsOf 24 = .ok (.i2l, 1) := by decide +kernel
theorem dX10_liarsOf_25 : decode cX10_liarsOf 25 = .ok (.invokestatic 291, 3) := by decide +kernel
theorem dX10_liarsOf_28 : decode cX10_liarsOf 28 = .ok (.iload_n 1, 1) := by decide +kernel
theorem dX10_liarsOf_29 : decode cX10_liarsOf 29 = .ok (.i2l, 1) := by decide +kernel
theorem dX10_liarsOf_30 : decode cX10_liarsOf 30 = .ok (.invokestatic 291, 3) := by decide +kernel
theorem dX10_liarsOf_33 : decode cX10_liarsOf 33 = .ok (.if_icmp .ge 13, 3) := by decide +kernel
theorem dX10_liarsOf_36 : decode cX10_liarsOf 36 = .ok (.aload_n 0, 1) := by decide +kernel
theorem dX10_liarsOf_37 : decode cX10_liarsOf 37 = .ok (.iload_n 2, 1) := by decide +kernel
theorem dX10_liarsOf_38 : decode cX10_liarsOf 38 = .ok (.invokevirtual 317, 3) := by decide +kernel
theorem dX10_liarsOf_41 : decode cX10_liarsOf 41 = .ok (.ifCond .eq 5, 3) := by decide +kernel
theorem dX10_liarsOf_44 : decode cX10_liarsOf 44 = .ok (.iload_n 2, 1) := by decide +kernel
theorem dX10_liarsOf_45 : decode cX10_liarsOf 45 = .ok (.istore_n 1, 1) := by decide +kernel
theorem dX10_liarsOf_46 : decode cX10_liarsOf 46 = .ok (.iinc 2 1, 3) := by decide +kernel
theorem dX10_liarsOf_49 : decode cX10_liarsOf 49 = .ok (.goto (-44), 3) := by decide +kernel
theorem dX10_liarsOf_52 : decode cX10_liarsOf 52 = .ok (.iload_n 1, 1) := by decide +kernel
theorem dX10_liarsOf_53 : decode cX10_liarsOf 53 = .ok (.ireturn, 1) := by decide +kernel
theorem dX10_turnedOf_0 : decode cX10_turnedOf 0 = .ok (.aload_n 0, 1) := by decide +kernel
theorem dX10_turnedOf_1 : decode cX10_turnedOf 1 = .ok (.invokevirtual 320, 3) := by decide +kernel
theorem dX10_turnedOf_4 : decode cX10_turnedOf 4 = .ok (.istore_n 1, 1) := by decide +kernel
theorem dX10_turnedOf_5 : decode cX10_turnedOf 5 = .ok (.iload_n 1, 1) := by decide +kernel
theorem dX10_turnedOf_6 : decode cX10_turnedOf 6 = .ok (.bipush (-2), 2) := by decide +kernel
theorem dX10_turnedOf_8 : decode cX10_turnedOf 8 = .ok (.if_icmp .ne 7, 3) := by decide +kernel
theorem dX10_turnedOf_11 : decode cX10_turnedOf 11 = .ok (.iconst 0, 1) := by decide +kernel
theorem dX10_turnedOf_12 : decode cX10_turnedOf 12 = .ok (.goto 4, 3) := by decide +kernel
theorem dX10_turnedOf_15 : decode cX10_turnedOf 15 = .ok (.iload_n 1, 1) := by decide +kernel
theorem dX10_turnedOf_16 : decode cX10_turnedOf 16 = .ok (.ireturn, 1) := by decide +kernel
theorem dX10_liars_0 : decode cX10_liars 0 = .ok (.aload_n 0, 1) := by decide +kernel
theorem dX10_liars_1 : decode cX10_liars 1 = .ok (.invokevirtual 199, 3) := by decide +kernel
theorem dX10_liars_4 : decode cX10_liars 4 = .ok (.aload_n 0, 1) := by decide +kernel
theorem dX10_liars_5 : decode cX10_liars 5 = .ok (.getfield 212, 3) := by decide +kernel
theorem dX10_liars_8 : decode cX10_liars 8 = .ok (.ifCond .eq 10, 3) := by decide +kernel
theorem dX10_liars_11 : decode cX10_liars 11 = .ok (.aload_n 0, 1) := by decide +kernel
theorem dX10_liars_12 : decode cX10_liars 12 = .ok (.invokevirtual 320, 3) := by decide +kernel
theorem dX10_liars_15 : decode cX10_liars 15 = .ok (.goto 8, 3) := by decide +kernel
theorem dX10_liars_18 : decode cX10_liars 18 = .ok (.aload_n 0, 1) := by decide +kernel
theorem dX10_liars_19 : decode cX10_liars 19 = .ok (.iconst 1, 1) := by decide +kernel
theorem dX10_liars_20 : decode cX10_liars 20 = .ok (.invokevirtual 202, 3) := by decide +kernel
theorem dX10_liars_23 : decode cX10_liars 23 = .ok (.ireturn, 1) := by decide +kernel
theorem dX10_sets_0 : decode cX10_sets 0 = .ok (.aload_n 0, 1) := by decide +kernel
theorem dX10_sets_1 : decode cX10_sets 1 = .ok (.invokevirtual 199, 3) := by decide +kernel
theorem dX10_sets_4 : decode cX10_sets 4 = .ok (.aload_n 0, 1) := by decide +kernel
theorem dX10_sets_5 : decode cX10_sets 5 = .ok (.getfield 212, 3) := by decide +kernel
theorem dX10_sets_8 : decode cX10_sets 8 = .ok (.ifCond .ne 9, 3) := by decide +kernel
theorem dX10_sets_11 : decode cX10_sets 11 = .ok (.aload_n 0, 1) := by decide +kernel
theorem dX10_sets_12 : decode cX10_sets 12 = .ok (.iconst 1, 1) := by decide +kernel
theorem dX10_sets_13 : decode cX10_sets 13 = .ok (.invokevirtual 202, 3) := by decide +kernel
theorem dX10_sets_16 : decode cX10_sets 16 = .ok (.ireturn, 1) := by decide +kernel
theorem dX10_sets_17 : decode cX10_sets 17 = .ok (.iconst 0, 1) := by decide +kernel
theorem dX10_sets_18 : decode cX10_sets 18 = .ok (.istore_n 1, 1) := by decide +kernel
theorem dX10_sets_19 : decode cX10_sets 19 = .ok (.iconst 0, 1) := by decide +kernel
theorem dX10_sets_20 : decode cX10_sets 20 = .ok (.istore_n 2, 1) := by decide +kernel
theorem dX10_sets_21 : decode cX10_sets 21 = .ok (.iload_n 2, 1) := by decide +kernel
theorem dX10_sets_22 : decode cX10_sets 22 = .ok (.iconst 1, 1) := by decide +kernel
theorem dX10_sets_23 : decode cX10_sets 23 = .ok (.aload_n 0, 1) := by decide +kernel
theorem dX10_sets_24 : decode cX10_sets 24 = .ok (.getfield 20, 3) := by decide +kernel
theorem dX10_sets_27 : decode cX10_sets 27 = .ok (.iconst 3, 1) := by decide +kernel
theorem dX10_sets_28 : decode cX10_sets 28 = .ok (.iaload, 1) := by decide +kernel
theorem dX10_sets_29 : decode cX10_sets 29 = .ok (.ishl, 1) := by decide +kernel
theorem dX10_sets_30 : decode cX10_sets 30 = .ok (.if_icmp .ge 25, 3) := by decide +kernel
theorem dX10_sets_33 : decode cX10_sets 33 = .ok (.iload_n 1, 1) := by decide +kernel
theorem dX10_sets_34 : decode cX10_sets 34 = .ok (.aload_n 0, 1) := by decide +kernel
theorem dX10_sets_35 : decode cX10_sets 35 = .ok (.iload_n 2, 1) := by decide +kernel
theorem dX10_sets_36 : decode cX10_sets 36 = .ok (.invokevirtual 317, 3) := by decide +kernel
theorem dX10_sets_39 : decode cX10_sets 39 = .ok (.ifCond .eq 7, 3) := by decide +kernel
theorem dX10_sets_42 : decode cX10_sets 42 = .ok (.iconst 1, 1) := by decide +kernel
theorem dX10_sets_43 : decode cX10_sets 43 = .ok (.goto 4, 3) := by decide +kernel
theorem dX10_sets_46 : decode cX10_sets 46 = .ok (.iconst 0, 1) := by decide +kernel
theorem dX10_sets_47 : decode cX10_sets 47 = .ok (.iadd, 1) := by decide +kernel
theorem dX10_sets_48 : decode cX10_sets 48 = .ok (.istore_n 1, 1) := by decide +kernel
theorem dX10_sets_49 : decode cX10_sets 49 = .ok (.iinc 2 1, 3) := by decide +kernel
theorem dX10_sets_52 : decode cX10_sets 52 = .ok (.goto (-31), 3) := by decide +kernel
theorem dX10_sets_55 : decode cX10_sets 55 = .ok (.iload_n 1, 1) := by decide +kernel
theorem dX10_sets_56 : decode cX10_sets 56 = .ok (.ireturn, 1) := by decide +kernel
theorem dX10_lies_0 : decode cX10_lies 0 = .ok (.aload_n 0, 1) := by decide +kernel
theorem dX10_lies_1 : decode cX10_lies 1 = .ok (.invokevirtual 199, 3) := by decide +kernel
theorem dX10_lies_4 : decode cX10_lies 4 = .ok (.aload_n 0, 1) := by decide +kernel
theorem dX10_lies_5 : decode cX10_lies 5 = .ok (.iload_n 1, 1) := by decide +kernel
theorem dX10_lies_6 : decode cX10_lies 6 = .ok (.invokevirtual 323, 3) := by decide +kernel
theorem dX10_lies_9 : decode cX10_lies 9 = .ok (.ifCond .ne 9, 3) := by decide +kernel
theorem dX10_lies_12 : decode cX10_lies 12 = .ok (.aload_n 0, 1) := by decide +kernel
theorem dX10_lies_13 : decode cX10_lies 13 = .ok (.iconst 1, 1) := by decide +kernel
theorem dX10_lies_14 : decode cX10_lies 14 = .ok (.invokevirtual 202, 3) := by decide +kernel
theorem dX10_lies_17 : decode cX10_lies 17 = .ok (.ireturn, 1) := by decide +kernel
theorem dX10_lies_18 : decode cX10_lies 18 = .ok (.aload_n 0, 1) := by decide +kernel
theorem dX10_lies_19 : decode cX10_lies 19 = .ok (.invokevirtual 320, 3) := by decide +kernel
theorem dX10_lies_22 : decode cX10_lies 22 = .ok (.istore_n 2, 1) := by decide +kernel
theorem dX10_lies_23 : decode cX10_lies 23 = .ok (.iload_n 2, 1) := by decide +kernel
theorem dX10_lies_24 : decode cX10_lies 24 = .ok (.bipush (-2), 2) := by decide +kernel
theorem dX10_lies_26 : decode cX10_lies 26 = .ok (.if_icmp .ne 6, 3) := by decide +kernel
theorem dX10_lies_29 : decode cX10_lies 29 = .ok (.bipush (-2), 2) := by decide +kernel
theorem dX10_lies_31 : decode cX10_lies 31 = .ok (.ireturn, 1) := by decide +kernel
theorem dX10_lies_32 : decode cX10_lies 32 = .ok (.iconst 0, 1) := by decide +kernel
theorem dX10_lies_33 : decode cX10_lies 33 = .ok (.istore_n 3, 1) := by decide +kernel
theorem dX10_lies_34 : decode cX10_lies 34 = .ok (.iconst 0, 1) := by decide +kernel
theorem dX10_lies_35 : decode cX10_lies 35 = .ok (.istore 4, 2) := by decide +kernel
theorem dX10_lies_37 : decode cX10_lies 37 = .ok (.iconst 0, 1) := by decide +kernel
theorem dX10_lies_38 : decode cX10_lies 38 = .ok (.istore 5, 2) := by decide +kernel
theorem dX10_lies_40 : decode cX10_lies 40 = .ok (.iload 5, 2) := by decide +kernel
theorem dX10_lies_42 : decode cX10_lies 42 = .ok (.iconst 1, 1) := by decide +kernel
theorem dX10_lies_43 : decode cX10_lies 43 = .ok (.aload_n 0, 1) := by decide +kernel
theorem dX10_lies_44 : decode cX10_lies 44 = .ok (.getfield 20, 3) := by decide +kernel
theorem dX10_lies_47 : decode cX10_lies 47 = .ok (.iconst 3, 1) := by decide +kernel
theorem dX10_lies_48 : decode cX10_lies 48 = .ok (.iaload, 1) := by decide +kernel
theorem dX10_lies_49 : decode cX10_lies 49 = .ok (.ishl, 1) := by decide +kernel
theorem dX10_lies_50 : decode cX10_lies 50 = .ok (.if_icmp .ge 57, 3) := by decide +kernel
theorem dX10_lies_53 : decode cX10_lies 53 = .ok (.iload 5, 2) := by decide +kernel
theorem dX10_lies_55 : decode cX10_lies 55 = .ok (.i2l, 1) := by decide +kernel
theorem dX10_lies_56 : decode cX10_lies 56 = .ok (.invokestatic 291, 3) := by decide +kernel
theorem dX10_lies_59 : decode cX10_lies 59 = .ok (.iload_n 2, 1) := by decide +kernel
theorem dX10_lies_60 : decode cX10_lies 60 = .ok (.i2l, 1) := by decide +kernel
theorem dX10_lies_61 : decode cX10_lies 61 = .ok (.invokestatic 291, 3) := by decide +kernel
theorem dX10_lies_64 : decode cX10_lies 64 = .ok (.if_icmp .ne 37, 3) := by decide +kernel
theorem dX10_lies_67 : decode cX10_lies 67 = .ok (.aload_n 0, 1) := by decide +kernel
theorem dX10_lies_68 : decode cX10_lies 68 = .ok (.iload 5, 2) := by decide +kernel
theorem dX10_lies_70 : decode cX10_lies 70 = .ok (.invokevirtual 317, 3) := by decide +kernel
theorem dX10_lies_73 : decode cX10_lies 73 = .ok (.ifCond .ne 6, 3) := by decide +kernel
theorem dX10_lies_76 : decode cX10_lies 76 = .ok (.goto 25, 3) := by decide +kernel
theorem dX10_lies_79 : decode cX10_lies 79 = .ok (.iinc 3 1, 3) := by decide +kernel
theorem dX10_lies_82 : decode cX10_lies 82 = .ok (.iload 4, 2) := by decide +kernel
theorem dX10_lies_84 : decode cX10_lies 84 = .ok (.iload 5, 2) := by decide +kernel
theorem dX10_lies_86 : decode cX10_lies 86 = .ok (.iload_n 1, 1) := by decide +kernel
theorem dX10_lies_87 : decode cX10_lies 87 = .ok (.invokestatic 270, 3) := by decide +kernel
theorem dX10_lies_90 : decode cX10_lies 90 = .ok (.ifCond .eq 7, 3) := by decide +kernel
theorem dX10_lies_93 : decode cX10_lies 93 = .ok (.iconst 1, 1) := by decide +kernel
theorem dX10_lies_94 : decode cX10_lies 94 = .ok (.goto 4, 3) := by decide +kernel
theorem dX10_lies_97 : decode cX10_lies 97 = .ok (.iconst 0, 1) := by decide +kernel
theorem dX10_lies_98 : decode cX10_lies 98 = .ok (.iadd, 1) := by decide +kernel
theorem dX10_lies_99 : decode cX10_lies 99 = .ok (.istore 4, 2) := by decide +kernel
theorem dX10_lies_101 : decode cX10_lies 101 = .ok (.iinc 5 1, 3) := by decide +kernel
theorem dX10_lies_104 : decode cX10_lies 104 = .ok (.goto (-64), 3) := by decide +kernel
theorem dX10_lies_107 : decode cX10_lies 107 = .ok (.iload 4, 2) := by decide +kernel
theorem dX10_lies_109 : decode cX10_lies 109 = .ok (.ifCond .ne 7, 3) := by decide +kernel
theorem dX10_lies_112 : decode cX10_lies 112 = .ok (.iconst 0, 1) := by decide +kernel
theorem dX10_lies_113 : decode cX10_lies 113 = .ok (.goto 14, 3) := by decide +kernel
theorem dX10_lies_116 : decode cX10_lies 116 = .ok (.iload 4, 2) := by decide +kernel
theorem dX10_lies_118 : decode cX10_lies 118 = .ok (.iload_n 3, 1) := by decide +kernel
theorem dX10_lies_119 : decode cX10_lies 119 = .ok (.if_icmp .ge 7, 3) := by decide +kernel
theorem dX10_lies_122 : decode cX10_lies 122 = .ok (.iconst 1, 1) := by decide +kernel
theorem dX10_lies_123 : decode cX10_lies 123 = .ok (.goto 4, 3) := by decide +kernel
theorem dX10_lies_126 : decode cX10_lies 126 = .ok (.iconst 2, 1) := by decide +kernel
theorem dX10_lies_127 : decode cX10_lies 127 = .ok (.ireturn, 1) := by decide +kernel
theorem dX10_kinOf_0 : decode cX10_kinOf 0 = .ok (.iconst 1, 1) := by decide +kernel
theorem dX10_kinOf_1 : decode cX10_kinOf 1 = .ok (.iload_n 1, 1) := by decide +kernel
theorem dX10_kinOf_2 : decode cX10_kinOf 2 = .ok (.ishl, 1) := by decide +kernel
theorem dX10_kinOf_3 : decode cX10_kinOf 3 = .ok (.istore_n 2, 1) := by decide +kernel
theorem dX10_kinOf_4 : decode cX10_kinOf 4 = .ok (.iconst 0, 1) := by decide +kernel
theorem dX10_kinOf_5 : decode cX10_kinOf 5 = .ok (.istore_n 3, 1) := by decide +kernel
theorem dX10_kinOf_6 : decode cX10_kinOf 6 = .ok (.iload_n 3, 1) := by decide +kernel
theorem dX10_kinOf_7 : decode cX10_kinOf 7 = .ok (.iload_n 2, 1) := by decide +kernel
theorem dX10_kinOf_8 : decode cX10_kinOf 8 = .ok (.if_icmp .eq 50, 3) := by decide +kernel
theorem dX10_kinOf_11 : decode cX10_kinOf 11 = .ok (.iload_n 2, 1) := by decide +kernel
theorem dX10_kinOf_12 : decode cX10_kinOf 12 = .ok (.istore_n 3, 1) := by decide +kernel
theorem dX10_kinOf_13 : decode cX10_kinOf 13 = .ok (.iconst 0, 1) := by decide +kernel
theorem dX10_kinOf_14 : decode cX10_kinOf 14 = .ok (.istore 4, 2) := by decide +kernel
theorem dX10_kinOf_16 : decode cX10_kinOf 16 = .ok (.iload 4, 2) := by decide +kernel
theorem dX10_kinOf_18 : decode cX10_kinOf 18 = .ok (.aload_n 0, 1) := by decide +kernel
theorem dX10_kinOf_19 : decode cX10_kinOf 19 = .ok (.getfield 20, 3) := by decide +kernel
theorem dX10_kinOf_22 : decode cX10_kinOf 22 = .ok (.iconst 3, 1) := by decide +kernel
theorem dX10_kinOf_23 : decode cX10_kinOf 23 = .ok (.iaload, 1) := by decide +kernel
theorem dX10_kinOf_24 : decode cX10_kinOf 24 = .ok (.if_icmp .ge 31, 3) := by decide +kernel
theorem dX10_kinOf_27 : decode cX10_kinOf 27 = .ok (.iload_n 3, 1) := by decide +kernel
theorem dX10_kinOf_28 : decode cX10_kinOf 28 = .ok (.iload 4, 2) := by decide +kernel
theorem dX10_kinOf_30 : decode cX10_kinOf 30 = .ok (.invokestatic 270, 3) := by decide +kernel
theorem dX10_kinOf_33 : decode cX10_kinOf 33 = .ok (.ifCond .eq 16, 3) := by decide +kernel
theorem dX10_kinOf_36 : decode cX10_kinOf 36 = .ok (.iload_n 2, 1) := by decide +kernel
theorem dX10_kinOf_37 : decode cX10_kinOf 37 = .ok (.aload_n 0, 1) := by decide +kernel
theorem dX10_kinOf_38 : decode cX10_kinOf 38 = .ok (.getfield 33, 3) := by decide +kernel
theorem dX10_kinOf_41 : decode cX10_kinOf 41 = .ok (.bipush 62, 2) := by decide +kernel
theorem dX10_kinOf_43 : decode cX10_kinOf 43 = .ok (.iload 4, 2) := by decide +kernel
theorem dX10_kinOf_45 : decode cX10_kinOf 45 = .ok (.iadd, 1) := by decide +kernel
theorem dX10_kinOf_46 : decode cX10_kinOf 46 = .ok (.iaload, 1) := by decide +kernel
theorem dX10_kinOf_47 : decode cX10_kinOf 47 = .ok (.ior, 1) := by decide +kernel
theorem dX10_kinOf_48 : decode cX10_kinOf 48 = .ok (.istore_n 2, 1) := by decide +kernel
theorem dX10_kinOf_49 : decode cX10_kinOf 49 = .ok (.iinc 4 1, 3) := by decide +kernel
theorem dX10_kinOf_52 : decode cX10_kinOf 52 = .ok (.goto (-36), 3) := by decide +kernel
theorem dX10_kinOf_55 : decode cX10_kinOf 55 = .ok (.goto (-49), 3) := by decide +kernel
theorem dX10_kinOf_58 : decode cX10_kinOf 58 = .ok (.iload_n 2, 1) := by decide +kernel
theorem dX10_kinOf_59 : decode cX10_kinOf 59 = .ok (.ireturn, 1) := by decide +kernel
theorem dX10_knownSet_0 : decode cX10_knownSet 0 = .ok (.aload_n 0, 1) := by decide +kernel
theorem dX10_knownSet_1 : decode cX10_knownSet 1 = .ok (.iload_n 1, 1) := by decide +kernel
theorem dX10_knownSet_2 : decode cX10_knownSet 2 = .ok (.aload_n 0, 1) := by decide +kernel
theorem dX10_knownSet_3 : decode cX10_knownSet 3 = .ok (.invokevirtual 326, 3) := by decide +kernel
theorem dX10_knownSet_6 : decode cX10_knownSet 6 = .ok (.aload_n 0, 1) := by decide +kernel
theorem dX10_knownSet_7 : decode cX10_knownSet 7 = .ok (.getfield 33, 3) := by decide +kernel
theorem dX10_knownSet_10 : decode cX10_knownSet 10 = .ok (.iconst 1, 1) := by decide +kernel
theorem dX10_knownSet_11 : decode cX10_knownSet 11 = .ok (.iaload, 1) := by decide +kernel
theorem dX10_knownSet_12 : decode cX10_knownSet 12 = .ok (.invokevirtual 313, 3) := by decide +kernel
theorem dX10_knownSet_15 : decode cX10_knownSet 15 = .ok (.lreturn, 1) := by decide +kernel
theorem dX10_answerBy_0 : decode cX10_answerBy 0 = .ok (.lload_n 0, 1) := by decide +kernel
theorem dX10_answerBy_1 : decode cX10_answerBy 1 = .ok (.lconst 0, 1) := by decide +kernel
theorem dX10_answerBy_2 : decode cX10_answerBy 2 = .ok (.lcmp, 1) := by decide +kernel
theorem dX10_answerBy_3 : decode cX10_answerBy 3 = .ok (.ifCond .ne 6, 3) := by decide +kernel
theorem dX10_answerBy_6 : decode cX10_answerBy 6 = .ok (.bipush (-2), 2) := by decide +kernel
theorem dX10_answerBy_8 : decode cX10_answerBy 8 = .ok (.ireturn, 1) := by decide +kernel
theorem dX10_answerBy_9 : decode cX10_answerBy 9 = .ok (.lload_n 0, 1) := by decide +kernel
theorem dX10_answerBy_10 : decode cX10_answerBy 10 = .ok (.lload_n 2, 1) := by decide +kernel
theorem dX10_answerBy_11 : decode cX10_answerBy 11 = .ok (.ldc2_w 181, 3) := by decide +kernel
theorem dX10_answerBy_14 : decode cX10_answerBy 14 = .ok (.lxor, 1) := by decide +kernel
theorem dX10_answerBy_15 : decode cX10_answerBy 15 = .ok (.land, 1) := by decide +kernel
theorem dX10_answerBy_16 : decode cX10_answerBy 16 = .ok (.lconst 0, 1) := by decide +kernel
theorem dX10_answerBy_17 : decode cX10_answerBy 17 = .ok (.lcmp, 1) := by decide +kernel
theorem dX10_answerBy_18 : decode cX10_answerBy 18 = .ok (.ifCond .ne 7, 3) := by decide +kernel
theorem dX10_answerBy_21 : decode cX10_answerBy 21 = .ok (.iconst 1, 1) := by decide +kernel
theorem dX10_answerBy_22 : decode cX10_answerBy 22 = .ok (.goto 17, 3) := by decide +kernel
theorem dX10_answerBy_25 : decode cX10_answerBy 25 = .ok (.lload_n 0, 1) := by decide +kernel
theorem dX10_answerBy_26 : decode cX10_answerBy 26 = .ok (.lload_n 2, 1) := by decide +kernel
theorem dX10_answerBy_27 : decode cX10_answerBy 27 = .ok (.land, 1) := by decide +kernel
theorem dX10_answerBy_28 : decode cX10_answerBy 28 = .ok (.lconst 0, 1) := by decide +kernel
theorem dX10_answerBy_29 : decode cX10_answerBy 29 = .ok (.lcmp, 1) := by decide +kernel
theorem dX10_answerBy_30 : decode cX10_answerBy 30 = .ok (.ifCond .ne 7, 3) := by decide +kernel
theorem dX10_answerBy_33 : decode cX10_answerBy 33 = .ok (.iconst 0, 1) := by decide +kernel
theorem dX10_answerBy_34 : decode cX10_answerBy 34 = .ok (.goto 5, 3) := by decide +kernel
theorem dX10_answerBy_37 : decode cX10_answerBy 37 = .ok (.bipush (-2), 2) := by decide +kernel
theorem dX10_answerBy_39 : decode cX10_answerBy 39 = .ok (.ireturn, 1) := by decide +kernel
theorem dX10_knownOf_0 : decode cX10_knownOf 0 = .ok (.iconst 0, 1) := by decide +kernel
theorem dX10_knownOf_1 : decode cX10_knownOf 1 = .ok (.istore_n 3, 1) := by decide +kernel
theorem dX10_knownOf_2 : decode cX10_knownOf 2 = .ok (.iconst 0, 1) := by decide +kernel
theorem dX10_knownOf_3 : decode cX10_knownOf 3 = .ok (.istore 4, 2) := by decide +kernel
theorem dX10_knownOf_5 : decode cX10_knownOf 5 = .ok (.iload 4, 2) := by decide +kernel
theorem dX10_knownOf_7 : decode cX10_knownOf 7 = .ok (.aload_n 0, 1) := by decide +kernel
theorem dX10_knownOf_8 : decode cX10_knownOf 8 = .ok (.getfield 20, 3) := by decide +kernel
theorem dX10_knownOf_11 : decode cX10_knownOf 11 = .ok (.iconst 5, 1) := by decide +kernel
theorem dX10_knownOf_12 : decode cX10_knownOf 12 = .ok (.iaload, 1) := by decide +kernel
theorem dX10_knownOf_13 : decode cX10_knownOf 13 = .ok (.if_icmp .ge 36, 3) := by decide +kernel
theorem dX10_knownOf_16 : decode cX10_knownOf 16 = .ok (.iload_n 3, 1) := by decide +kernel
theorem dX10_knownOf_17 : decode cX10_knownOf 17 = .ok (.lload_n 1, 1) := by decide +kernel
theorem dX10_knownOf_18 : decode cX10_knownOf 18 = .ok (.aload_n 0, 1) := by decide +kernel
theorem dX10_knownOf_19 : decode cX10_knownOf 19 = .ok (.getfield 26, 3) := by decide +kernel
theorem dX10_knownOf_22 : decode cX10_knownOf 22 = .ok (.iload 4, 2) := by decide +kernel
theorem dX10_knownOf_24 : decode cX10_knownOf 24 = .ok (.laload, 1) := by decide +kernel
theorem dX10_knownOf_25 : decode cX10_knownOf 25 = .ok (.invokestatic 329, 3) := by decide +kernel
theorem dX10_knownOf_28 : decode cX10_knownOf 28 = .ok (.bipush (-2), 2) := by decide +kernel
theorem dX10_knownOf_30 : decode cX10_knownOf 30 = .ok (.if_icmp .eq 10, 3) := by decide +kernel
theorem dX10_knownOf_33 : decode cX10_knownOf 33 = .ok (.iconst 1, 1) := by decide +kernel
theorem dX10_knownOf_34 : decode cX10_knownOf 34 = .ok (.iload 4, 2) := by decide +kernel
theorem dX10_knownOf_36 : decode cX10_knownOf 36 = .ok (.ishl, 1) := by decide +kernel
theorem dX10_knownOf_37 : decode cX10_knownOf 37 = .ok (.goto 4, 3) := by decide +kernel
theorem dX10_knownOf_40 : decode cX10_knownOf 40 = .ok (.iconst 0, 1) := by decide +kernel
theorem dX10_knownOf_41 : decode cX10_knownOf 41 = .ok (.ior, 1) := by decide +kernel
theorem dX10_knownOf_42 : decode cX10_knownOf 42 = .ok (.istore_n 3, 1) := by decide +kernel
theorem dX10_knownOf_43 : decode cX10_knownOf 43 = .ok (.iinc 4 1, 3) := by decide +kernel
theorem dX10_knownOf_46 : decode cX10_knownOf 46 = .ok (.goto (-41), 3) := by decide +kernel
theorem dX10_knownOf_49 : decode cX10_knownOf 49 = .ok (.iload_n 3, 1) := by decide +kernel
theorem dX10_knownOf_50 : decode cX10_knownOf 50 = .ok (.ireturn, 1) := by decide +kernel
theorem dX10_kin_0 : decode cX10_kin 0 = .ok (.aload_n 0, 1) := by decide +kernel
theorem dX10_kin_1 : decode cX10_kin 1 = .ok (.invokevirtual 199, 3) := by decide +kernel
theorem dX10_kin_4 : decode cX10_kin 4 = .ok (.aload_n 0, 1) := by decide +kernel
theorem dX10_kin_5 : decode cX10_kin 5 = .ok (.iload_n 1, 1) := by decide +kernel
theorem dX10_kin_6 : decode cX10_kin 6 = .ok (.invokevirtual 323, 3) := by decide +kernel
theorem dX10_kin_9 : decode cX10_kin 9 = .ok (.ifCond .eq 11, 3) := by decide +kernel
theorem dX10_kin_12 : decode cX10_kin 12 = .ok (.aload_n 0, 1) := by decide +kernel
theorem dX10_kin_13 : decode cX10_kin 13 = .ok (.iload_n 1, 1) := by decide +kernel
theorem dX10_kin_14 : decode cX10_kin 14 = .ok (.invokevirtual 333, 3) := by decide +kernel
theorem dX10_kin_17 : decode cX10_kin 17 = .ok (.goto 8, 3) := by decide +kernel
theorem dX10_kin_20 : decode cX10_kin 20 = .ok (.aload_n 0, 1) := by decide +kernel
theorem dX10_kin_21 : decode cX10_kin 21 = .ok (.iconst 1, 1) := by decide +kernel
theorem dX10_kin_22 : decode cX10_kin 22 = .ok (.invokevirtual 202, 3) := by decide +kernel
theorem dX10_kin_25 : decode cX10_kin 25 = .ok (.ireturn, 1) := by decide +kernel
theorem dX10_left_0 : decode cX10_left 0 = .ok (.aload_n 0, 1) := by decide +kernel
theorem dX10_left_1 : decode cX10_left 1 = .ok (.invokevirtual 199, 3) := by decide +kernel
theorem dX10_left_4 : decode cX10_left 4 = .ok (.aload_n 0, 1) := by decide +kernel
theorem dX10_left_5 : decode cX10_left 5 = .ok (.iload_n 1, 1) := by decide +kernel
theorem dX10_left_6 : decode cX10_left 6 = .ok (.invokevirtual 323, 3) := by decide +kernel
theorem dX10_left_9 : decode cX10_left 9 = .ok (.ifCond .eq 18, 3) := by decide +kernel
theorem dX10_left_12 : decode cX10_left 12 = .ok (.aload_n 0, 1) := by decide +kernel
theorem dX10_left_13 : decode cX10_left 13 = .ok (.aload_n 0, 1) := by decide +kernel
theorem dX10_left_14 : decode cX10_left 14 = .ok (.iload_n 1, 1) := by decide +kernel
theorem dX10_left_15 : decode cX10_left 15 = .ok (.invokevirtual 333, 3) := by decide +kernel
theorem dX10_left_18 : decode cX10_left 18 = .ok (.invokevirtual 336, 3) := by decide +kernel
theorem dX10_left_21 : decode cX10_left 21 = .ok (.invokestatic 291, 3) := by decide +kernel
theorem dX10_left_24 : decode cX10_left 24 = .ok (.goto 8, 3) := by decide +kernel
theorem dX10_left_27 : decode cX10_left 27 = .ok (.aload_n 0, 1) := by decide +kernel
theorem dX10_left_28 : decode cX10_left 28 = .ok (.iconst 1, 1) := by decide +kernel
theorem dX10_left_29 : decode cX10_left 29 = .ok (.invokevirtual 202, 3) := by decide +kernel
theorem dX10_left_32 : decode cX10_left 32 = .ok (.ireturn, 1) := by decide +kernel
theorem dX10_known_0 : decode cX10_known 0 = .ok (.aload_n 0, 1) := by decide +kernel
theorem dX10_known_1 : decode cX10_known 1 = .ok (.invokevirtual 199, 3) := by decide +kernel
theorem dX10_known_4 : decode cX10_known 4 = .ok (.aload_n 0, 1) := by decide +kernel
theorem dX10_known_5 : decode cX10_known 5 = .ok (.iload_n 1, 1) := by decide +kernel
theorem dX10_known_6 : decode cX10_known 6 = .ok (.invokevirtual 323, 3) := by decide +kernel
theorem dX10_known_9 : decode cX10_known 9 = .ok (.ifCond .eq 32, 3) := by decide +kernel
theorem dX10_known_12 : decode cX10_known 12 = .ok (.aload_n 0, 1) := by decide +kernel
theorem dX10_known_13 : decode cX10_known 13 = .ok (.iload_n 2, 1) := by decide +kernel
theorem dX10_known_14 : decode cX10_known 14 = .ok (.invokevirtual 298, 3) := by decide +kernel
theorem dX10_known_17 : decode cX10_known 17 = .ok (.ifCond .eq 24, 3) := by decide +kernel
theorem dX10_known_20 : decode cX10_known 20 = .ok (.aload_n 0, 1) := by decide +kernel
theorem dX10_known_21 : decode cX10_known 21 = .ok (.aload_n 0, 1) := by decide +kernel
theorem dX10_known_22 : decode cX10_known 22 = .ok (.iload_n 1, 1) := by decide +kernel
theorem dX10_known_23 : decode cX10_known 23 = .ok (.invokevirtual 333, 3) := by decide +kernel
theorem dX10_known_26 : decode cX10_known 26 = .ok (.invokevirtual 336, 3) := by decide +kernel
theorem dX10_known_29 : decode cX10_known 29 = .ok (.aload_n 0, 1) := by decide +kernel
theorem dX10_known_30 : decode cX10_known 30 = .ok (.getfield 26, 3) := by decide +kernel
theorem dX10_known_33 : decode cX10_known 33 = .ok (.iload_n 2, 1) := by decide +kernel
theorem dX10_known_34 : decode cX10_known 34 = .ok (.laload, 1) := by decide +kernel
theorem dX10_known_35 : decode cX10_known 35 = .ok (.invokestatic 329, 3) := by decide +kernel
theorem dX10_known_38 : decode cX10_known 38 = .ok (.goto 8, 3) := by decide +kernel
theorem dX10_known_41 : decode cX10_known 41 = .ok (.aload_n 0, 1) := by decide +kernel
theorem dX10_known_42 : decode cX10_known 42 = .ok (.iconst 1, 1) := by decide +kernel
theorem dX10_known_43 : decode cX10_known 43 = .ok (.invokevirtual 202, 3) := by decide +kernel
theorem dX10_known_46 : decode cX10_known 46 = .ok (.ireturn, 1) := by decide +kernel
theorem dX10_fact_0 : decode cX10_fact 0 = .ok (.aload_n 0, 1) := by decide +kernel
theorem dX10_fact_1 : decode cX10_fact 1 = .ok (.invokevirtual 199, 3) := by decide +kernel
theorem dX10_fact_4 : decode cX10_fact 4 = .ok (.aload_n 0, 1) := by decide +kernel
theorem dX10_fact_5 : decode cX10_fact 5 = .ok (.iload_n 1, 1) := by decide +kernel
theorem dX10_fact_6 : decode cX10_fact 6 = .ok (.invokevirtual 323, 3) := by decide +kernel
theorem dX10_fact_9 : decode cX10_fact 9 = .ok (.ifCond .eq 38, 3) := by decide +kernel
theorem dX10_fact_12 : decode cX10_fact 12 = .ok (.iload_n 2, 1) := by decide +kernel
theorem dX10_fact_13 : decode cX10_fact 13 = .ok (.iconst 0, 1) := by decide +kernel
theorem dX10_fact_14 : decode cX10_fact 14 = .ok (.aload_n 0, 1) := by decide +kernel
theorem dX10_fact_15 : decode cX10_fact 15 = .ok (.getfield 20, 3) := by decide +kernel
theorem dX10_fact_18 : decode cX10_fact 18 = .ok (.iconst 1, 1) := by decide +kernel
theorem dX10_fact_19 : decode cX10_fact 19 = .ok (.iaload, 1) := by decide +kernel
theorem dX10_fact_20 : decode cX10_fact 20 = .ok (.iconst 1, 1) := by decide +kernel
theorem dX10_fact_21 : decode cX10_fact 21 = .ok (.isub, 1) := by decide +kernel
theorem dX10_fact_22 : decode cX10_fact 22 = .ok (.invokestatic 156, 3) := by decide +kernel
theorem dX10_fact_25 : decode cX10_fact 25 = .ok (.ifCond .eq 22, 3) := by decide +kernel
theorem dX10_fact_28 : decode cX10_fact 28 = .ok (.aload_n 0, 1) := by decide +kernel
theorem dX10_fact_29 : decode cX10_fact 29 = .ok (.aload_n 0, 1) := by decide +kernel
theorem dX10_fact_30 : decode cX10_fact 30 = .ok (.iload_n 1, 1) := by decide +kernel
theorem dX10_fact_31 : decode cX10_fact 31 = .ok (.invokevirtual 333, 3) := by decide +kernel
theorem dX10_fact_34 : decode cX10_fact 34 = .ok (.invokevirtual 336, 3) := by decide +kernel
theorem dX10_fact_37 : decode cX10_fact 37 = .ok (.iload_n 2, 1) := by decide +kernel
theorem dX10_fact_38 : decode cX10_fact 38 = .ok (.invokestatic 195, 3) := by decide +kernel
theorem dX10_fact_41 : decode cX10_fact 41 = .ok (.invokestatic 329, 3) := by decide +kernel
theorem dX10_fact_44 : decode cX10_fact 44 = .ok (.goto 8, 3) := by decide +kernel
theorem dX10_fact_47 : decode cX10_fact 47 = .ok (.aload_n 0, 1) := by decide +kernel
theorem dX10_fact_48 : decode cX10_fact 48 = .ok (.iconst 1, 1) := by decide +kernel
theorem dX10_fact_49 : decode cX10_fact 49 = .ok (.invokevirtual 202, 3) := by decide +kernel
theorem dX10_fact_52 : decode cX10_fact 52 = .ok (.ireturn, 1) := by decide +kernel
theorem dX10_knownByAll_0 : decode cX10_knownByAll 0 = .ok (.aload_n 0, 1) := by decide +kernel
theorem dX10_knownByAll_1 : decode cX10_knownByAll 1 = .ok (.invokevirtual 199, 3) := by decide +kernel
theorem dX10_knownByAll_4 : decode cX10_knownByAll 4 = .ok (.aload_n 0, 1) := by decide +kernel
theorem dX10_knownByAll_5 : decode cX10_knownByAll 5 = .ok (.iload_n 1, 1) := by decide +kernel
theorem dX10_knownByAll_6 : decode cX10_knownByAll 6 = .ok (.invokevirtual 298, 3) := by decide +kernel
theorem dX10_knownByAll_9 : decode cX10_knownByAll 9 = .ok (.ifCond .eq 21, 3) := by decide +kernel
theorem dX10_knownByAll_12 : decode cX10_knownByAll 12 = .ok (.aload_n 0, 1) := by decide +kernel
theorem dX10_knownByAll_13 : decode cX10_knownByAll 13 = .ok (.bipush 63, 2) := by decide +kernel
theorem dX10_knownByAll_15 : decode cX10_knownByAll 15 = .ok (.invokevirtual 336, 3) := by decide +kernel
theorem dX10_knownByAll_18 : decode cX10_knownByAll 18 = .ok (.aload_n 0, 1) := by decide +kernel
theorem dX10_knownByAll_19 : decode cX10_knownByAll 19 = .ok (.getfield 26, 3) := by decide +kernel
theorem dX10_knownByAll_22 : decode cX10_knownByAll 22 = .ok (.iload_n 1, 1) := by decide +kernel
theorem dX10_knownByAll_23 : decode cX10_knownByAll 23 = .ok (.laload, 1) := by decide +kernel
theorem dX10_knownByAll_24 : decode cX10_knownByAll 24 = .ok (.invokestatic 329, 3) := by decide +kernel
theorem dX10_knownByAll_27 : decode cX10_knownByAll 27 = .ok (.goto 8, 3) := by decide +kernel
theorem dX10_knownByAll_30 : decode cX10_knownByAll 30 = .ok (.aload_n 0, 1) := by decide +kernel
theorem dX10_knownByAll_31 : decode cX10_knownByAll 31 = .ok (.iconst 1, 1) := by decide +kernel
theorem dX10_knownByAll_32 : decode cX10_knownByAll 32 = .ok (.invokevirtual 202, 3) := by decide +kernel
theorem dX10_knownByAll_35 : decode cX10_knownByAll 35 = .ok (.ireturn, 1) := by decide +kernel
theorem dX10_onlyTogether_0 : decode cX10_onlyTogether 0 = .ok (.aload_n 0, 1) := by decide +kernel
theorem dX10_onlyTogether_1 : decode cX10_onlyTogether 1 = .ok (.invokevirtual 199, 3) := by decide +kernel
theorem dX10_onlyTogether_4 : decode cX10_onlyTogether 4 = .ok (.aload_n 0, 1) := by decide +kernel
theorem dX10_onlyTogether_5 : decode cX10_onlyTogether 5 = .ok (.getfield 212, 3) := by decide +kernel
theorem dX10_onlyTogether_8 : decode cX10_onlyTogether 8 = .ok (.ifCond .ne 9, 3) := by decide +kernel
theorem dX10_onlyTogether_11 : decode cX10_onlyTogether 11 = .ok (.aload_n 0, 1) := by decide +kernel
theorem dX10_onlyTogether_12 : decode cX10_onlyTogether 12 = .ok (.iconst 1, 1) := by decide +kernel
theorem dX10_onlyTogether_13 : decode cX10_onlyTogether 13 = .ok (.invokevirtual 202, 3) := by decide +kernel
theorem dX10_onlyTogether_16 : decode cX10_onlyTogether 16 = .ok (.ireturn, 1) := by decide +kernel
theorem dX10_onlyTogether_17 : decode cX10_onlyTogether 17 = .ok (.aload_n 0, 1) := by decide +kernel
theorem dX10_onlyTogether_18 : decode cX10_onlyTogether 18 = .ok (.aload_n 0, 1) := by decide +kernel
theorem dX10_onlyTogether_19 : decode cX10_onlyTogether 19 = .ok (.bipush 63, 2) := by decide +kernel
theorem dX10_onlyTogether_21 : decode cX10_onlyTogether 21 = .ok (.invokevirtual 336, 3) := by decide +kernel
theorem dX10_onlyTogether_24 : decode cX10_onlyTogether 24 = .ok (.invokevirtual 339, 3) := by decide +kernel
theorem dX10_onlyTogether_27 : decode cX10_onlyTogether 27 = .ok (.istore_n 1, 1) := by decide +kernel
theorem dX10_onlyTogether_28 : decode cX10_onlyTogether 28 = .ok (.iconst 0, 1) := by decide +kernel
theorem dX10_onlyTogether_29 : decode cX10_onlyTogether 29 = .ok (.istore_n 2, 1) := by decide +kernel
theorem dX10_onlyTogether_30 : decode cX10_onlyTogether 30 = .ok (.iload_n 2, 1) := by decide +kernel
theorem dX10_onlyTogether_31 : decode cX10_onlyTogether 31 = .ok (.aload_n 0, 1) := by decide +kernel
theorem dX10_onlyTogether_32 : decode cX10_onlyTogether 32 = .ok (.getfield 20, 3) := by decide +kernel
theorem dX10_onlyTogether_35 : decode cX10_onlyTogether 35 = .ok (.iconst 3, 1) := by decide +kernel
theorem dX10_onlyTogether_36 : decode cX10_onlyTogether 36 = .ok (.iaload, 1) := by decide +kernel
theorem dX10_onlyTogether_37 : decode cX10_onlyTogether 37 = .ok (.if_icmp .ge 27, 3) := by decide +kernel
theorem dX10_onlyTogether_40 : decode cX10_onlyTogether 40 = .ok (.iload_n 1, 1) := by decide +kernel
theorem dX10_onlyTogether_41 : decode cX10_onlyTogether 41 = .ok (.aload_n 0, 1) := by decide +kernel
theorem dX10_onlyTogether_42 : decode cX10_onlyTogether 42 = .ok (.aload_n 0, 1) := by decide +kernel
theorem dX10_onlyTogether_43 : decode cX10_onlyTogether 43 = .ok (.aload_n 0, 1) := by decide +kernel
theorem dX10_onlyTogether_44 : decode cX10_onlyTogether 44 = .ok (.iload_n 2, 1) := by decide +kernel
theorem dX10_onlyTogether_45 : decode cX10_onlyTogether 45 = .ok (.invokevirtual 333, 3) := by decide +kernel
theorem dX10_onlyTogether_48 : decode cX10_onlyTogether 48 = .ok (.invokevirtual 336, 3) := by decide +kernel
theorem dX10_onlyTogether_51 : decode cX10_onlyTogether 51 = .ok (.invokevirtual 339, 3) := by decide +kernel
theorem dX10_onlyTogether_54 : decode cX10_onlyTogether 54 = .ok (.iconst (-1), 1) := by decide +kernel
theorem dX10_onlyTogether_55 : decode cX10_onlyTogether 55 = .ok (.ixor, 1) := by decide +kernel
theorem dX10_onlyTogether_56 : decode cX10_onlyTogether 56 = .ok (.iand, 1) := by decide +kernel
theorem dX10_onlyTogether_57 : decode cX10_onlyTogether 57 = .ok (.istore_n 1, 1) := by decide +kernel
theorem dX10_onlyTogether_58 : decode cX10_onlyTogether 58 = .ok (.iinc 2 1, 3) := by decide +kernel
theorem dX10_onlyTogether_61 : decode cX10_onlyTogether 61 = .ok (.goto (-31), 3) := by decide +kernel
theorem dX10_onlyTogether_64 : decode cX10_onlyTogether 64 = .ok (.iload_n 1, 1) := by decide +kernel
theorem dX10_onlyTogether_65 : decode cX10_onlyTogether 65 = .ok (.ireturn, 1) := by decide +kernel
theorem dX10_bestWedding_0 : decode cX10_bestWedding 0 = .ok (.aload_n 0, 1) := by decide +kernel
theorem dX10_bestWedding_1 : decode cX10_bestWedding 1 = .ok (.invokevirtual 199, 3) := by decide +kernel
theorem dX10_bestWedding_4 : decode cX10_bestWedding 4 = .ok (.aload_n 0, 1) := by decide +kernel
theorem dX10_bestWedding_5 : decode cX10_bestWedding 5 = .ok (.getfield 212, 3) := by decide +kernel
theorem dX10_bestWedding_8 : decode cX10_bestWedding 8 = .ok (.ifCond .ne 9, 3) := by decide +kernel
theorem dX10_bestWedding_11 : decode cX10_bestWedding 11 = .ok (.aload_n 0, 1) := by decide +kernel
theorem dX10_bestWedding_12 : decode cX10_bestWedding 12 = .ok (.iconst 1, 1) := by decide +kernel
theorem dX10_bestWedding_13 : decode cX10_bestWedding 13 = .ok (.invokevirtual 202, 3) := by decide +kernel
theorem dX10_bestWedding_16 : decode cX10_bestWedding 16 = .ok (.ireturn, 1) := by decide +kernel
theorem dX10_bestWedding_17 : decode cX10_bestWedding 17 = .ok (.bipush (-2), 2) := by decide +kernel
theorem dX10_bestWedding_19 : decode cX10_bestWedding 19 = .ok (.istore_n 1, 1) := by decide +kernel
theorem dX10_bestWedding_20 : decode cX10_bestWedding 20 = .ok (.iconst (-1), 1) := by decide +kernel
theorem dX10_bestWedding_21 : decode cX10_bestWedding 21 = .ok (.istore_n 2, 1) := by decide +kernel
theorem dX10_bestWedding_22 : decode cX10_bestWedding 22 = .ok (.iconst 0, 1) := by decide +kernel
theorem dX10_bestWedding_23 : decode cX10_bestWedding 23 = .ok (.istore_n 3, 1) := by decide +kernel
theorem dX10_bestWedding_24 : decode cX10_bestWedding 24 = .ok (.iload_n 3, 1) := by decide +kernel
theorem dX10_bestWedding_25 : decode cX10_bestWedding 25 = .ok (.aload_n 0, 1) := by decide +kernel
theorem dX10_bestWedding_26 : decode cX10_bestWedding 26 = .ok (.getfield 20, 3) := by decide +kernel
theorem dX10_bestWedding_29 : decode cX10_bestWedding 29 = .ok (.iconst 3, 1) := by decide +kernel
theorem dX10_bestWedding_30 : decode cX10_bestWedding 30 = .ok (.iaload, 1) := by decide +kernel
theorem dX10_bestWedding_31 : decode cX10_bestWedding 31 = .ok (.if_icmp .ge 126, 3) := by decide +kernel
theorem dX10_bestWedding_34 : decode cX10_bestWedding 34 = .ok (.iload_n 3, 1) := by decide +kernel
theorem dX10_bestWedding_35 : decode cX10_bestWedding 35 = .ok (.iconst 1, 1) := by decide +kernel
theorem dX10_bestWedding_36 : decode cX10_bestWedding 36 = .ok (.iadd, 1) := by decide +kernel
theorem dX10_bestWedding_37 : decode cX10_bestWedding 37 = .ok (.istore 4, 2) := by decide +kernel
theorem dX10_bestWedding_39 : decode cX10_bestWedding 39 = .ok (.iload 4, 2) := by decide +kernel
theorem dX10_bestWedding_41 : decode cX10_bestWedding 41 = .ok (.aload_n 0, 1) := by decide +kernel
theorem dX10_bestWedding_42 : decode cX10_bestWedding 42 = .ok (.getfield 20, 3) := by decide +kernel
theorem dX10_bestWedding_45 : decode cX10_bestWedding 45 = .ok (.iconst 3, 1) := by decide +kernel
theorem dX10_bestWedding_46 : decode cX10_bestWedding 46 = .ok (.iaload, 1) := by decide +kernel
theorem dX10_bestWedding_47 : decode cX10_bestWedding 47 = .ok (.if_icmp .ge 104, 3) := by decide +kernel
theorem dX10_bestWedding_50 : decode cX10_bestWedding 50 = .ok (.aload_n 0, 1) := by decide +kernel
theorem dX10_bestWedding_51 : decode cX10_bestWedding 51 = .ok (.iload_n 3, 1) := by decide +kernel
theorem dX10_bestWedding_52 : decode cX10_bestWedding 52 = .ok (.invokevirtual 333, 3) := by decide +kernel
theorem dX10_bestWedding_55 : decode cX10_bestWedding 55 = .ok (.iload 4, 2) := by decide +kernel
theorem dX10_bestWedding_57 : decode cX10_bestWedding 57 = .ok (.invokestatic 270, 3) := by decide +kernel
theorem dX10_bestWedding_60 : decode cX10_bestWedding 60 = .ok (.ifCond .eq 6, 3) := by decide +kernel
theorem dX10_bestWedding_63 : decode cX10_bestWedding 63 = .ok (.goto 82, 3) := by decide +kernel
theorem dX10_bestWedding_66 : decode cX10_bestWedding 66 = .ok (.aload_n 0, 1) := by decide +kernel
theorem dX10_bestWedding_67 : decode cX10_bestWedding 67 = .ok (.aload_n 0, 1) := by decide +kernel
theorem dX10_bestWedding_68 : decode cX10_bestWedding 68 = .ok (.aload_n 0, 1) := by decide +kernel
theorem dX10_bestWedding_69 : decode cX10_bestWedding 69 = .ok (.iload_n 3, 1) := by decide +kernel
theorem dX10_bestWedding_70 : decode cX10_bestWedding 70 = .ok (.invokevirtual 333, 3) := by decide +kernel
theorem dX10_bestWedding_73 : decode cX10_bestWedding 73 = .ok (.aload_n 0, 1) := by decide +kernel
theorem dX10_bestWedding_74 : decode cX10_bestWedding 74 = .ok (.iload 4, 2) := by decide +kernel
theorem dX10_bestWedding_76 : decode cX10_bestWedding 76 = .ok (.invokevirtual 333, 3) := by decide +kernel
theorem dX10_bestWedding_79 : decode cX10_bestWedding 79 = .ok (.ior, 1) := by decide +kernel
theorem dX10_bestWedding_80 : decode cX10_bestWedding 80 = .ok (.invokevirtual 336, 3) := by decide +kernel
theorem dX10_bestWedding_83 : decode cX10_bestWedding 83 = .ok (.invokevirtual 339, 3) := by decide +kernel
theorem dX10_bestWedding_86 : decode cX10_bestWedding 86 = .ok (.aload_n 0, 1) := by decide +kernel
theorem dX10_bestWedding_87 : decode cX10_bestWedding 87 = .ok (.aload_n 0, 1) := by decide +kernel
theorem dX10_bestWedding_88 : decode cX10_bestWedding 88 = .ok (.aload_n 0, 1) := by decide +kernel
theorem dX10_bestWedding_89 : decode cX10_bestWedding 89 = .ok (.iload_n 3, 1) := by decide +kernel
theorem dX10_bestWedding_90 : decode cX10_bestWedding 90 = .ok (.invokevirtual 333, 3) := by decide +kernel
theorem dX10_bestWedding_93 : decode cX10_bestWedding 93 = .ok (.invokevirtual 336, 3) := by decide +kernel
theorem dX10_bestWedding_96 : decode cX10_bestWedding 96 = .ok (.invokevirtual 339, 3) := by decide +kernel
theorem dX10_bestWedding_99 : decode cX10_bestWedding 99 = .ok (.iconst (-1), 1) := by decide +kernel
theorem dX10_bestWedding_100 : decode cX10_bestWedding 100 = .ok (.ixor, 1) := by decide +kernel
theorem dX10_bestWedding_101 : decode cX10_bestWedding 101 = .ok (.iand, 1) := by decide +kernel
theorem dX10_bestWedding_102 : decode cX10_bestWedding 102 = .ok (.aload_n 0, 1) := by decide +kernel
theorem dX10_bestWedding_103 : decode cX10_bestWedding 103 = .ok (.aload_n 0, 1) := by decide +kernel
theorem dX10_bestWedding_104 : decode cX10_bestWedding 104 = .ok (.aload_n 0, 1) := by decide +kernel
theorem dX10_bestWedding_105 : decode cX10_bestWedding 105 = .ok (.iload 4, 2) := by decide +kernel
theorem dX10_bestWedding_107 : decode cX10_bestWedding 107 = .ok (.invokevirtual 333, 3) := by decide +kernel
theorem dX10_bestWedding_110 : decode cX10_bestWedding 110 = .ok (.invokevirtual 336, 3) := by decide +kernel
theorem dX10_bestWedding_113 : decode cX10_bestWedding 113 = .ok (.invokevirtual 339, 3) := by decide +kernel
theorem dX10_bestWedding_116 : decode cX10_bestWedding 116 = .ok (.iconst (-1), 1) := by decide +kernel
theorem dX10_bestWedding_117 : decode cX10_bestWedding 117 = .ok (.ixor, 1) := by decide +kernel
theorem dX10_bestWedding_118 : decode cX10_bestWedding 118 = .ok (.iand, 1) := by decide +kernel
theorem dX10_bestWedding_119 : decode cX10_bestWedding 119 = .ok (.i2l, 1) := by decide +kernel
theorem dX10_bestWedding_120 : decode cX10_bestWedding 120 = .ok (.invokestatic 291, 3) := by decide +kernel
theorem dX10_bestWedding_123 : decode cX10_bestWedding 123 = .ok (.istore 5, 2) := by decide +kernel
theorem dX10_bestWedding_125 : decode cX10_bestWedding 125 = .ok (.iload 5, 2) := by decide +kernel
theorem dX10_bestWedding_127 : decode cX10_bestWedding 127 = .ok (.iload_n 2, 1) := by decide +kernel
theorem dX10_bestWedding_128 : decode cX10_bestWedding 128 = .ok (.if_icmp .gt 6, 3) := by decide +kernel
theorem dX10_bestWedding_131 : decode cX10_bestWedding 131 = .ok (.goto 14, 3) := by decide +kernel
theorem dX10_bestWedding_134 : decode cX10_bestWedding 134 = .ok (.bipush 10, 2) := by decide +kernel
theorem dX10_bestWedding_136 : decode cX10_bestWedding 136 = .ok (.iload_n 3, 1) := by decide +kernel
theorem dX10_bestWedding_137 : decode cX10_bestWedding 137 = .ok (.imul, 1) := by decide +kernel
theorem dX10_bestWedding_138 : decode cX10_bestWedding 138 = .ok (.iload 4, 2) := by decide +kernel
theorem dX10_bestWedding_140 : decode cX10_bestWedding 140 = .ok (.iadd, 1) := by decide +kernel
theorem dX10_bestWedding_141 : decode cX10_bestWedding 141 = .ok (.istore_n 1, 1) := by decide +kernel
theorem dX10_bestWedding_142 : decode cX10_bestWedding 142 = .ok (.iload 5, 2) := by decide +kernel
theorem dX10_bestWedding_144 : decode cX10_bestWedding 144 = .ok (.istore_n 2, 1) := by decide +kernel
theorem dX10_bestWedding_145 : decode cX10_bestWedding 145 = .ok (.iinc 4 1, 3) := by decide +kernel
theorem dX10_bestWedding_148 : decode cX10_bestWedding 148 = .ok (.goto (-109), 3) := by decide +kernel
theorem dX10_bestWedding_151 : decode cX10_bestWedding 151 = .ok (.iinc 3 1, 3) := by decide +kernel
theorem dX10_bestWedding_154 : decode cX10_bestWedding 154 = .ok (.goto (-130), 3) := by decide +kernel
theorem dX10_bestWedding_157 : decode cX10_bestWedding 157 = .ok (.iload_n 1, 1) := by decide +kernel
theorem dX10_bestWedding_158 : decode cX10_bestWedding 158 = .ok (.ireturn, 1) := by decide +kernel
theorem dX10_likeliest_0 : decode cX10_likeliest 0 = .ok (.aload_n 0, 1) := by decide +kernel
theorem dX10_likeliest_1 : decode cX10_likeliest 1 = .ok (.invokevirtual 199, 3) := by decide +kernel
theorem dX10_likeliest_4 : decode cX10_likeliest 4 = .ok (.aload_n 0, 1) := by decide +kernel
theorem dX10_likeliest_5 : decode cX10_likeliest 5 = .ok (.iload_n 1, 1) := by decide +kernel
theorem dX10_likeliest_6 : decode cX10_likeliest 6 = .ok (.invokevirtual 323, 3) := by decide +kernel
theorem dX10_likeliest_9 : decode cX10_likeliest 9 = .ok (.ifCond .ne 9, 3) := by decide +kernel
theorem dX10_likeliest_12 : decode cX10_likeliest 12 = .ok (.aload_n 0, 1) := by decide +kernel
theorem dX10_likeliest_13 : decode cX10_likeliest 13 = .ok (.iconst 1, 1) := by decide +kernel
theorem dX10_likeliest_14 : decode cX10_likeliest 14 = .ok (.invokevirtual 202, 3) := by decide +kernel
theorem dX10_likeliest_17 : decode cX10_likeliest 17 = .ok (.ireturn, 1) := by decide +kernel
theorem dX10_likeliest_18 : decode cX10_likeliest 18 = .ok (.aload_n 0, 1) := by decide +kernel
theorem dX10_likeliest_19 : decode cX10_likeliest 19 = .ok (.aload_n 0, 1) := by decide +kernel
theorem dX10_likeliest_20 : decode cX10_likeliest 20 = .ok (.iload_n 1, 1) := by decide +kernel
theorem dX10_likeliest_21 : decode cX10_likeliest 21 = .ok (.invokevirtual 333, 3) := by decide +kernel
theorem dX10_likeliest_24 : decode cX10_likeliest 24 = .ok (.invokevirtual 336, 3) := by decide +kernel
theorem dX10_likeliest_27 : decode cX10_likeliest 27 = .ok (.lstore_n 2, 1) := by decide +kernel
theorem dX10_likeliest_28 : decode cX10_likeliest 28 = .ok (.bipush (-2), 2) := by decide +kernel
theorem dX10_likeliest_30 : decode cX10_likeliest 30 = .ok (.istore 4, 2) := by decide +kernel
theorem dX10_likeliest_32 : decode cX10_likeliest 32 = .ok (.iconst 0, 1) := by decide +kernel
theorem dX10_likeliest_33 : decode cX10_likeliest 33 = .ok (.istore 5, 2) := by decide +kernel
theorem dX10_likeliest_35 : decode cX10_likeliest 35 = .ok (.iload 5, 2) := by decide +kernel
theorem dX10_likeliest_37 : decode cX10_likeliest 37 = .ok (.iconst 1, 1) := by decide +kernel
theorem dX10_likeliest_38 : decode cX10_likeliest 38 = .ok (.aload_n 0, 1) := by decide +kernel
theorem dX10_likeliest_39 : decode cX10_likeliest 39 = .ok (.getfield 20, 3) := by decide +kernel
theorem dX10_likeliest_42 : decode cX10_likeliest 42 = .ok (.iconst 1, 1) := by decide +kernel
theorem dX10_likeliest_43 : decode cX10_likeliest 43 = .ok (.iaload, 1) := by decide +kernel
theorem dX10_likeliest_44 : decode cX10_likeliest 44 = .ok (.ishl, 1) := by decide +kernel
theorem dX10_likeliest_45 : decode cX10_likeliest 45 = .ok (.if_icmp .ge 44, 3) := by decide +kernel
theorem dX10_likeliest_48 : decode cX10_likeliest 48 = .ok (.lload_n 2, 1) := by decide +kernel
theorem dX10_likeliest_49 : decode cX10_likeliest 49 = .ok (.iload 5, 2) := by decide +kernel
theorem dX10_likeliest_51 : decode cX10_likeliest 51 = .ok (.lshr, 1) := by decide +kernel
theorem dX10_likeliest_52 : decode cX10_likeliest 52 = .ok (.lconst 1, 1) := by decide +kernel
theorem dX10_likeliest_53 : decode cX10_likeliest 53 = .ok (.land, 1) := by decide +kernel
theorem dX10_likeliest_54 : decode cX10_likeliest 54 = .ok (.lconst 1, 1) := by decide +kernel
theorem dX10_likeliest_55 : decode cX10_likeliest 55 = .ok (.lcmp, 1) := by decide +kernel
theorem dX10_likeliest_56 : decode cX10_likeliest 56 = .ok (.ifCond .ne 27, 3) := by decide +kernel
theorem dX10_likeliest_59 : decode cX10_likeliest 59 = .ok (.iload 4, 2) := by decide +kernel
theorem dX10_likeliest_61 : decode cX10_likeliest 61 = .ok (.ifCond .lt 18, 3) := by decide +kernel
theorem dX10_likeliest_64 : decode cX10_likeliest 64 = .ok (.aload_n 0, 1) := by decide +kernel
theorem dX10_likeliest_65 : decode cX10_likeliest 65 = .ok (.iload 5, 2) := by decide +kernel
theorem dX10_likeliest_67 : decode cX10_likeliest 67 = .ok (.invokevirtual 295, 3) := by decide +kernel
theorem dX10_likeliest_70 : decode cX10_likeliest 70 = .ok (.aload_n 0, 1) := by decide +kernel
theorem dX10_likeliest_71 : decode cX10_likeliest 71 = .ok (.iload 4, 2) := by decide +kernel
theorem dX10_likeliest_73 : decode cX10_likeliest 73 = .ok (.invokevirtual 295, 3) := by decide +kernel
theorem dX10_likeliest_76 : decode cX10_likeliest 76 = .ok (.if_icmp .le 7, 3) := by decide +kernel
theorem dX10_likeliest_79 : decode cX10_likeliest 79 = .ok (.iload 5, 2) := by decide +kernel
theorem dX10_likeliest_81 : decode cX10_likeliest 81 = .ok (.istore 4, 2) := by decide +kernel
theorem dX10_likeliest_83 : decode cX10_likeliest 83 = .ok (.iinc 5 1, 3) := by decide +kernel
theorem dX10_likeliest_86 : decode cX10_likeliest 86 = .ok (.goto (-51), 3) := by decide +kernel
theorem dX10_likeliest_89 : decode cX10_likeliest 89 = .ok (.iload 4, 2) := by decide +kernel
theorem dX10_likeliest_91 : decode cX10_likeliest 91 = .ok (.ireturn, 1) := by decide +kernel
theorem dX10_chanceOf_0 : decode cX10_chanceOf 0 = .ok (.aload_n 0, 1) := by decide +kernel
theorem dX10_chanceOf_1 : decode cX10_chanceOf 1 = .ok (.invokevirtual 199, 3) := by decide +kernel
theorem dX10_chanceOf_4 : decode cX10_chanceOf 4 = .ok (.aload_n 0, 1) := by decide +kernel
theorem dX10_chanceOf_5 : decode cX10_chanceOf 5 = .ok (.iload_n 1, 1) := by decide +kernel
theorem dX10_chanceOf_6 : decode cX10_chanceOf 6 = .ok (.invokevirtual 323, 3) := by decide +kernel
theorem dX10_chanceOf_9 : decode cX10_chanceOf 9 = .ok (.ifCond .eq 11, 3) := by decide +kernel
theorem dX10_chanceOf_12 : decode cX10_chanceOf 12 = .ok (.aload_n 0, 1) := by decide +kernel
theorem dX10_chanceOf_13 : decode cX10_chanceOf 13 = .ok (.iload_n 2, 1) := by decide +kernel
theorem dX10_chanceOf_14 : decode cX10_chanceOf 14 = .ok (.invokevirtual 298, 3) := by decide +kernel
theorem dX10_chanceOf_17 : decode cX10_chanceOf 17 = .ok (.ifCond .ne 10, 3) := by decide +kernel
theorem dX10_chanceOf_20 : decode cX10_chanceOf 20 = .ok (.aload_n 0, 1) := by decide +kernel
theorem dX10_chanceOf_21 : decode cX10_chanceOf 21 = .ok (.iconst 1, 1) := by decide +kernel
theorem dX10_chanceOf_22 : decode cX10_chanceOf 22 = .ok (.invokevirtual 202, 3) := by decide +kernel
theorem dX10_chanceOf_25 : decode cX10_chanceOf 25 = .ok (.i2l, 1) := by decide +kernel
theorem dX10_chanceOf_26 : decode cX10_chanceOf 26 = .ok (.lreturn, 1) := by decide +kernel
theorem dX10_chanceOf_27 : decode cX10_chanceOf 27 = .ok (.aload_n 0, 1) := by decide +kernel
theorem dX10_chanceOf_28 : decode cX10_chanceOf 28 = .ok (.aload_n 0, 1) := by decide +kernel
theorem dX10_chanceOf_29 : decode cX10_chanceOf 29 = .ok (.iload_n 1, 1) := by decide +kernel
theorem dX10_chanceOf_30 : decode cX10_chanceOf 30 = .ok (.invokevirtual 333, 3) := by decide +kernel
theorem dX10_chanceOf_33 : decode cX10_chanceOf 33 = .ok (.invokevirtual 336, 3) := by decide +kernel
theorem dX10_chanceOf_36 : decode cX10_chanceOf 36 = .ok (.lstore 4, 2) := by decide +kernel
theorem dX10_chanceOf_38 : decode cX10_chanceOf 38 = .ok (.lload 4, 2) := by decide +kernel
theorem dX10_chanceOf_40 : decode cX10_chanceOf 40 = .ok (.lconst 0, 1) := by decide +kernel
theorem dX10_chanceOf_41 : decode cX10_chanceOf 41 = .ok (.lcmp, 1) := by decide +kernel
theorem dX10_chanceOf_42 : decode cX10_chanceOf 42 = .ok (.ifCond .ne 13, 3) := by decide +kernel
theorem dX10_chanceOf_45 : decode cX10_chanceOf 45 = .ok (.aload_n 0, 1) := by decide +kernel
theorem dX10_chanceOf_46 : decode cX10_chanceOf 46 = .ok (.bipush 6, 2) := by decide +kernel
theorem dX10_chanceOf_48 : decode cX10_chanceOf 48 = .ok (.invokevirtual 202, 3) := by decide +kernel
theorem dX10_chanceOf_51 : decode cX10_chanceOf 51 = .ok (.i2l, 1) := by decide +kernel
theorem dX10_chanceOf_52 : decode cX10_chanceOf 52 = .ok (.goto 26, 3) := by decide +kernel
theorem dX10_chanceOf_55 : decode cX10_chanceOf 55 = .ok (.aload_n 0, 1) := by decide +kernel
theorem dX10_chanceOf_56 : decode cX10_chanceOf 56 = .ok (.lload 4, 2) := by decide +kernel
theorem dX10_chanceOf_58 : decode cX10_chanceOf 58 = .ok (.aload_n 0, 1) := by decide +kernel
theorem dX10_chanceOf_59 : decode cX10_chanceOf 59 = .ok (.getfield 26, 3) := by decide +kernel
theorem dX10_chanceOf_62 : decode cX10_chanceOf 62 = .ok (.iload_n 2, 1) := by decide +kernel
theorem dX10_chanceOf_63 : decode cX10_chanceOf 63 = .ok (.laload, 1) := by decide +kernel
theorem dX10_chanceOf_64 : decode cX10_chanceOf 64 = .ok (.land, 1) := by decide +kernel
theorem dX10_chanceOf_65 : decode cX10_chanceOf 65 = .ok (.invokevirtual 301, 3) := by decide +kernel
theorem dX10_chanceOf_68 : decode cX10_chanceOf 68 = .ok (.aload_n 0, 1) := by decide +kernel
theorem dX10_chanceOf_69 : decode cX10_chanceOf 69 = .ok (.lload 4, 2) := by decide +kernel
theorem dX10_chanceOf_71 : decode cX10_chanceOf 71 = .ok (.invokevirtual 301, 3) := by decide +kernel
theorem dX10_chanceOf_74 : decode cX10_chanceOf 74 = .ok (.iload_n 3, 1) := by decide +kernel
theorem dX10_chanceOf_75 : decode cX10_chanceOf 75 = .ok (.invokestatic 305, 3) := by decide +kernel
theorem dX10_chanceOf_78 : decode cX10_chanceOf 78 = .ok (.lreturn, 1) := by decide +kernel
theorem dX10_wouldKnow_0 : decode cX10_wouldKnow 0 = .ok (.aload_n 0, 1) := by decide +kernel
theorem dX10_wouldKnow_1 : decode cX10_wouldKnow 1 = .ok (.invokevirtual 199, 3) := by decide +kernel
theorem dX10_wouldKnow_4 : decode cX10_wouldKnow 4 = .ok (.aload_n 0, 1) := by decide +kernel
theorem dX10_wouldKnow_5 : decode cX10_wouldKnow 5 = .ok (.iload_n 1, 1) := by decide +kernel
theorem dX10_wouldKnow_6 : decode cX10_wouldKnow 6 = .ok (.invokevirtual 323, 3) := by decide +kernel
theorem dX10_wouldKnow_9 : decode cX10_wouldKnow 9 = .ok (.ifCond .eq 11, 3) := by decide +kernel
theorem dX10_wouldKnow_12 : decode cX10_wouldKnow 12 = .ok (.aload_n 0, 1) := by decide +kernel
theorem dX10_wouldKnow_13 : decode cX10_wouldKnow 13 = .ok (.iload_n 2, 1) := by decide +kernel
theorem dX10_wouldKnow_14 : decode cX10_wouldKnow 14 = .ok (.invokevirtual 298, 3) := by decide +kernel
theorem dX10_wouldKnow_17 : decode cX10_wouldKnow 17 = .ok (.ifCond .ne 9, 3) := by decide +kernel
theorem dX10_wouldKnow_20 : decode cX10_wouldKnow 20 = .ok (.aload_n 0, 1) := by decide +kernel
theorem dX10_wouldKnow_21 : decode cX10_wouldKnow 21 = .ok (.iconst 1, 1) := by decide +kernel
theorem dX10_wouldKnow_22 : decode cX10_wouldKnow 22 = .ok (.invokevirtual 202, 3) := by decide +kernel
theorem dX10_wouldKnow_25 : decode cX10_wouldKnow 25 = .ok (.ireturn, 1) := by decide +kernel
theorem dX10_wouldKnow_26 : decode cX10_wouldKnow 26 = .ok (.aload_n 0, 1) := by decide +kernel
theorem dX10_wouldKnow_27 : decode cX10_wouldKnow 27 = .ok (.aload_n 0, 1) := by decide +kernel
theorem dX10_wouldKnow_28 : decode cX10_wouldKnow 28 = .ok (.iload_n 1, 1) := by decide +kernel
theorem dX10_wouldKnow_29 : decode cX10_wouldKnow 29 = .ok (.invokevirtual 333, 3) := by decide +kernel
theorem dX10_wouldKnow_32 : decode cX10_wouldKnow 32 = .ok (.invokevirtual 336, 3) := by decide +kernel
theorem dX10_wouldKnow_35 : decode cX10_wouldKnow 35 = .ok (.iload_n 3, 1) := by decide +kernel
theorem dX10_wouldKnow_36 : decode cX10_wouldKnow 36 = .ok (.ifCond .eq 12, 3) := by decide +kernel
theorem dX10_wouldKnow_39 : decode cX10_wouldKnow 39 = .ok (.aload_n 0, 1) := by decide +kernel
theorem dX10_wouldKnow_40 : decode cX10_wouldKnow 40 = .ok (.getfield 26, 3) := by decide +kernel
theorem dX10_wouldKnow_43 : decode cX10_wouldKnow 43 = .ok (.iload_n 2, 1) := by decide +kernel
theorem dX10_wouldKnow_44 : decode cX10_wouldKnow 44 = .ok (.laload, 1) := by decide +kernel
theorem dX10_wouldKnow_45 : decode cX10_wouldKnow 45 = .ok (.goto 13, 3) := by decide +kernel
theorem dX10_wouldKnow_48 : decode cX10_wouldKnow 48 = .ok (.aload_n 0, 1) := by decide +kernel
theorem dX10_wouldKnow_49 : decode cX10_wouldKnow 49 = .ok (.getfield 26, 3) := by decide +kernel
theorem dX10_wouldKnow_52 : decode cX10_wouldKnow 52 = .ok (.iload_n 2, 1) := by decide +kernel
theorem dX10_wouldKnow_53 : decode cX10_wouldKnow 53 = .ok (.laload, 1) := by decide +kernel
theorem dX10_wouldKnow_54 : decode cX10_wouldKnow 54 = .ok (.ldc2_w 181, 3) := by decide +kernel
theorem dX10_wouldKnow_57 : decode cX10_wouldKnow 57 = .ok (.lxor, 1) := by decide +kernel
theorem dX10_wouldKnow_58 : decode cX10_wouldKnow 58 = .ok (.land, 1) := by decide +kernel
theorem dX10_wouldKnow_59 : decode cX10_wouldKnow 59 = .ok (.lstore 4, 2) := by decide +kernel
theorem dX10_wouldKnow_61 : decode cX10_wouldKnow 61 = .ok (.lload 4, 2) := by decide +kernel
theorem dX10_wouldKnow_63 : decode cX10_wouldKnow 63 = .ok (.lconst 0, 1) := by decide +kernel
theorem dX10_wouldKnow_64 : decode cX10_wouldKnow 64 = .ok (.lcmp, 1) := by decide +kernel
theorem dX10_wouldKnow_65 : decode cX10_wouldKnow 65 = .ok (.ifCond .ne 8, 3) := by decide +kernel
theorem dX10_wouldKnow_68 : decode cX10_wouldKnow 68 = .ok (.bipush (-2), 2) := by decide +kernel
theorem dX10_wouldKnow_70 : decode cX10_wouldKnow 70 = .ok (.goto 9, 3) := by decide +kernel
theorem dX10_wouldKnow_73 : decode cX10_wouldKnow 73 = .ok (.aload_n 0, 1) := by decide +kernel
theorem dX10_wouldKnow_74 : decode cX10_wouldKnow 74 = .ok (.lload 4, 2) := by decide +kernel
theorem dX10_wouldKnow_76 : decode cX10_wouldKnow 76 = .ok (.invokevirtual 339, 3) := by decide +kernel
theorem dX10_wouldKnow_79 : decode cX10_wouldKnow 79 = .ok (.ireturn, 1) := by decide +kernel
theorem dX10_needless_0 : decode cX10_needless 0 = .ok (.aload_n 0, 1) := by decide +kernel
theorem dX10_needless_1 : decode cX10_needless 1 = .ok (.invokevirtual 199, 3) := by decide +kernel
theorem dX10_needless_4 : decode cX10_needless 4 = .ok (.aload_n 0, 1) := by decide +kernel
theorem dX10_needless_5 : decode cX10_needless 5 = .ok (.iload_n 1, 1) := by decide +kernel
theorem dX10_needless_6 : decode cX10_needless 6 = .ok (.invokevirtual 323, 3) := by decide +kernel
theorem dX10_needless_9 : decode cX10_needless 9 = .ok (.ifCond .ne 9, 3) := by decide +kernel
theorem dX10_needless_12 : decode cX10_needless 12 = .ok (.aload_n 0, 1) := by decide +kernel
theorem dX10_needless_13 : decode cX10_needless 13 = .ok (.iconst 1, 1) := by decide +kernel
theorem dX10_needless_14 : decode cX10_needless 14 = .ok (.invokevirtual 202, 3) := by decide +kernel
theorem dX10_needless_17 : decode cX10_needless 17 = .ok (.ireturn, 1) := by decide +kernel
theorem dX10_needless_18 : decode cX10_needless 18 = .ok (.aload_n 0, 1) := by decide +kernel
theorem dX10_needless_19 : decode cX10_needless 19 = .ok (.iload_n 1, 1) := by decide +kernel
theorem dX10_needless_20 : decode cX10_needless 20 = .ok (.invokevirtual 333, 3) := by decide +kernel
theorem dX10_needless_23 : decode cX10_needless 23 = .ok (.istore_n 2, 1) := by decide +kernel
theorem dX10_needless_24 : decode cX10_needless 24 = .ok (.aload_n 0, 1) := by decide +kernel
theorem dX10_needless_25 : decode cX10_needless 25 = .ok (.invokevirtual 326, 3) := by decide +kernel
theorem dX10_needless_28 : decode cX10_needless 28 = .ok (.istore_n 3, 1) := by decide +kernel
theorem dX10_needless_29 : decode cX10_needless 29 = .ok (.aload_n 0, 1) := by decide +kernel
theorem dX10_needless_30 : decode cX10_needless 30 = .ok (.iload_n 2, 1) := by decide +kernel
theorem dX10_needless_31 : decode cX10_needless 31 = .ok (.iload_n 3, 1) := by decide +kernel
theorem dX10_needless_32 : decode cX10_needless 32 = .ok (.aload_n 0, 1) := by decide +kernel
theorem dX10_needless_33 : decode cX10_needless 33 = .ok (.getfield 33, 3) := by decide +kernel
theorem dX10_needless_36 : decode cX10_needless 36 = .ok (.iconst 1, 1) := by decide +kernel
theorem dX10_needless_37 : decode cX10_needless 37 = .ok (.iaload, 1) := by decide +kernel
theorem dX10_needless_38 : decode cX10_needless 38 = .ok (.invokevirtual 313, 3) := by decide +kernel
theorem dX10_needless_41 : decode cX10_needless 41 = .ok (.invokestatic 291, 3) := by decide +kernel
theorem dX10_needless_44 : decode cX10_needless 44 = .ok (.istore 4, 2) := by decide +kernel
theorem dX10_needless_46 : decode cX10_needless 46 = .ok (.iconst 0, 1) := by decide +kernel
theorem dX10_needless_47 : decode cX10_needless 47 = .ok (.istore 5, 2) := by decide +kernel
theorem dX10_needless_49 : decode cX10_needless 49 = .ok (.iconst 0, 1) := by decide +kernel
theorem dX10_needless_50 : decode cX10_needless 50 = .ok (.istore 6, 2) := by decide +kernel
theorem dX10_needless_52 : decode cX10_needless 52 = .ok (.iload 6, 2) := by decide +kernel
theorem dX10_needless_54 : decode cX10_needless 54 = .ok (.aload_n 0, 1) := by decide +kernel
theorem dX10_needless_55 : decode cX10_needless 55 = .ok (.getfield 33, 3) := by decide +kernel
theorem dX10_needless_58 : decode cX10_needless 58 = .ok (.iconst 1, 1) := by decide +kernel
theorem dX10_needless_59 : decode cX10_needless 59 = .ok (.iaload, 1) := by decide +kernel
theorem dX10_needless_60 : decode cX10_needless 60 = .ok (.if_icmp .ge 133, 3) := by decide +kernel
theorem dX10_needless_63 : decode cX10_needless 63 = .ok (.iload_n 2, 1) := by decide +kernel
theorem dX10_needless_64 : decode cX10_needless 64 = .ok (.aload_n 0, 1) := by decide +kernel
theorem dX10_needless_65 : decode cX10_needless 65 = .ok (.getfield 33, 3) := by decide +kernel
theorem dX10_needless_68 : decode cX10_needless 68 = .ok (.iconst 2, 1) := by decide +kernel
theorem dX10_needless_69 : decode cX10_needless 69 = .ok (.iconst 3, 1) := by decide +kernel
theorem dX10_needless_70 : decode cX10_needless 70 = .ok (.iload 6, 2) := by decide +kernel
theorem dX10_needless_72 : decode cX10_needless 72 = .ok (.imul, 1) := by decide +kernel
theorem dX10_needless_73 : decode cX10_needless 73 = .ok (.iadd, 1) := by decide +kernel
theorem dX10_needless_74 : decode cX10_needless 74 = .ok (.iaload, 1) := by decide +kernel
theorem dX10_needless_75 : decode cX10_needless 75 = .ok (.invokestatic 270, 3) := by decide +kernel
theorem dX10_needless_78 : decode cX10_needless 78 = .ok (.ifCond .ne 6, 3) := by decide +kernel
theorem dX10_needless_81 : decode cX10_needless 81 = .ok (.goto 106, 3) := by decide +kernel
theorem dX10_needless_84 : decode cX10_needless 84 = .ok (.aload_n 0, 1) := by decide +kernel
theorem dX10_needless_85 : decode cX10_needless 85 = .ok (.getfield 26, 3) := by decide +kernel
theorem dX10_needless_88 : decode cX10_needless 88 = .ok (.bipush 8, 2) := by decide +kernel
theorem dX10_needless_90 : decode cX10_needless 90 = .ok (.laload, 1) := by decide +kernel
theorem dX10_needless_91 : decode cX10_needless 91 = .ok (.lstore 7, 2) := by decide +kernel
theorem dX10_needless_93 : decode cX10_needless 93 = .ok (.iconst 0, 1) := by decide +kernel
theorem dX10_needless_94 : decode cX10_needless 94 = .ok (.istore 9, 2) := by decide +kernel
theorem dX10_needless_96 : decode cX10_needless 96 = .ok (.iload 9, 2) := by decide +kernel
theorem dX10_needless_98 : decode cX10_needless 98 = .ok (.aload_n 0, 1) := by decide +kernel
theorem dX10_needless_99 : decode cX10_needless 99 = .ok (.getfield 33, 3) := by decide +kernel
theorem dX10_needless_102 : decode cX10_needless 102 = .ok (.iconst 1, 1) := by decide +kernel
theorem dX10_needless_103 : decode cX10_needless 103 = .ok (.iaload, 1) := by decide +kernel
theorem dX10_needless_104 : decode cX10_needless 104 = .ok (.if_icmp .ge 60, 3) := by decide +kernel
theorem dX10_needless_107 : decode cX10_needless 107 = .ok (.iload 9, 2) := by decide +kernel
theorem dX10_needless_109 : decode cX10_needless 109 = .ok (.iload 6, 2) := by decide +kernel
theorem dX10_needless_111 : decode cX10_needless 111 = .ok (.if_icmp .eq 47, 3) := by decide +kernel
theorem dX10_needless_114 : decode cX10_needless 114 = .ok (.iload_n 2, 1) := by decide +kernel
theorem dX10_needless_115 : decode cX10_needless 115 = .ok (.aload_n 0, 1) := by decide +kernel
theorem dX10_needless_116 : decode cX10_needless 116 = .ok (.getfield 33, 3) := by decide +kernel
theorem dX10_needless_119 : decode cX10_needless 119 = .ok (.iconst 2, 1) := by decide +kernel
theorem dX10_needless_120 : decode cX10_needless 120 = .ok (.iconst 3, 1) := by decide +kernel
theorem dX10_needless_121 : decode cX10_needless 121 = .ok (.iload 9, 2) := by decide +kernel
theorem dX10_needless_123 : decode cX10_needless 123 = .ok (.imul, 1) := by decide +kernel
theorem dX10_needless_124 : decode cX10_needless 124 = .ok (.iadd, 1) := by decide +kernel
theorem dX10_needless_125 : decode cX10_needless 125 = .ok (.iaload, 1) := by decide +kernel
theorem dX10_needless_126 : decode cX10_needless 126 = .ok (.invokestatic 270, 3) := by decide +kernel
theorem dX10_needless_129 : decode cX10_needless 129 = .ok (.ifCond .eq 29, 3) := by decide +kernel
theorem dX10_needless_132 : decode cX10_needless 132 = .ok (.lload 7, 2) := by decide +kernel
theorem dX10_needless_134 : decode cX10_needless 134 = .ok (.aload_n 0, 1) := by decide +kernel
theorem dX10_needless_135 : decode cX10_needless 135 = .ok (.iload 9, 2) := by decide +kernel
theorem dX10_needless_137 : decode cX10_needless 137 = .ok (.iload_n 3, 1) := by decide +kernel
theorem dX10_needless_138 : decode cX10_needless 138 = .ok (.aload_n 0, 1) := by decide +kernel
theorem dX10_needless_139 : decode cX10_needless 139 = .ok (.getfield 33, 3) := by decide +kernel
theorem dX10_needless_142 : decode cX10_needless 142 = .ok (.iconst 2, 1) := by decide +kernel
theorem dX10_needless_143 : decode cX10_needless 143 = .ok (.iconst 3, 1) := by decide +kernel
theorem dX10_needless_144 : decode cX10_needless 144 = .ok (.iload 9, 2) := by decide +kernel
theorem dX10_needless_146 : decode cX10_needless 146 = .ok (.imul, 1) := by decide +kernel
theorem dX10_needless_147 : decode cX10_needless 147 = .ok (.iadd, 1) := by decide +kernel
theorem dX10_needless_148 : decode cX10_needless 148 = .ok (.iaload, 1) := by decide +kernel
theorem dX10_needless_149 : decode cX10_needless 149 = .ok (.invokestatic 270, 3) := by decide +kernel
theorem dX10_needless_152 : decode cX10_needless 152 = .ok (.invokevirtual 309, 3) := by decide +kernel
theorem dX10_needless_155 : decode cX10_needless 155 = .ok (.land, 1) := by decide +kernel
theorem dX10_needless_156 : decode cX10_needless 156 = .ok (.lstore 7, 2) := by decide +kernel
theorem dX10_needless_158 : decode cX10_needless 158 = .ok (.iinc 9 1, 3) := by decide +kernel
theorem dX10_needless_161 : decode cX10_needless 161 = .ok (.goto (-65), 3) := by decide +kernel
theorem dX10_needless_164 : decode cX10_needless 164 = .ok (.iload 5, 2) := by decide +kernel
theorem dX10_needless_166 : decode cX10_needless 166 = .ok (.lload 7, 2) := by decide +kernel
theorem dX10_needless_168 : decode cX10_needless 168 = .ok (.invokestatic 291, 3) := by decide +kernel
theorem dX10_needless_171 : decode cX10_needless 171 = .ok (.iload 4, 2) := by decide +kernel
theorem dX10_needless_173 : decode cX10_needless 173 = .ok (.if_icmp .ne 10, 3) := by decide +kernel
theorem dX10_needless_176 : decode cX10_needless 176 = .ok (.iconst 1, 1) := by decide +kernel
theorem dX10_needless_177 : decode cX10_needless 177 = .ok (.iload 6, 2) := by decide +kernel
theorem dX10_needless_179 : decode cX10_needless 179 = .ok (.ishl, 1) := by decide +kernel
theorem dX10_needless_180 : decode cX10_needless 180 = .ok (.goto 4, 3) := by decide +kernel
theorem dX10_needless_183 : decode cX10_needless 183 = .ok (.iconst 0, 1) := by decide +kernel
theorem dX10_needless_184 : decode cX10_needless 184 = .ok (.ior, 1) := by decide +kernel
theorem dX10_needless_185 : decode cX10_needless 185 = .ok (.istore 5, 2) := by decide +kernel
theorem dX10_needless_187 : decode cX10_needless 187 = .ok (.iinc 6 1, 3) := by decide +kernel
theorem dX10_needless_190 : decode cX10_needless 190 = .ok (.goto (-138), 3) := by decide +kernel
theorem dX10_needless_193 : decode cX10_needless 193 = .ok (.iload 5, 2) := by decide +kernel
theorem dX10_needless_195 : decode cX10_needless 195 = .ok (.ireturn, 1) := by decide +kernel
theorem dX10_told_0 : decode cX10_told 0 = .ok (.aload_n 0, 1) := by decide +kernel
theorem dX10_told_1 : decode cX10_told 1 = .ok (.invokevirtual 199, 3) := by decide +kernel
theorem dX10_told_4 : decode cX10_told 4 = .ok (.aload_n 0, 1) := by decide +kernel
theorem dX10_told_5 : decode cX10_told 5 = .ok (.iload_n 1, 1) := by decide +kernel
theorem dX10_told_6 : decode cX10_told 6 = .ok (.invokevirtual 342, 3) := by decide +kernel
theorem dX10_told_9 : decode cX10_told 9 = .ok (.ifCond .eq 12, 3) := by decide +kernel
theorem dX10_told_12 : decode cX10_told 12 = .ok (.iload_n 2, 1) := by decide +kernel
theorem dX10_told_13 : decode cX10_told 13 = .ok (.iconst 0, 1) := by decide +kernel
theorem dX10_told_14 : decode cX10_told 14 = .ok (.iconst 4, 1) := by decide +kernel
theorem dX10_told_15 : decode cX10_told 15 = .ok (.invokestatic 156, 3) := by decide +kernel
theorem dX10_told_18 : decode cX10_told 18 = .ok (.ifCond .ne 9, 3) := by decide +kernel
theorem dX10_told_21 : decode cX10_told 21 = .ok (.aload_n 0, 1) := by decide +kernel
theorem dX10_told_22 : decode cX10_told 22 = .ok (.iconst 1, 1) := by decide +kernel
theorem dX10_told_23 : decode cX10_told 23 = .ok (.invokevirtual 202, 3) := by decide +kernel
theorem dX10_told_26 : decode cX10_told 26 = .ok (.ireturn, 1) := by decide +kernel
theorem dX10_told_27 : decode cX10_told 27 = .ok (.iload_n 2, 1) := by decide +kernel
theorem dX10_told_28 : decode cX10_told 28 = .ok (.iconst 3, 1) := by decide +kernel
theorem dX10_told_29 : decode cX10_told 29 = .ok (.if_icmp .ge 16, 3) := by decide +kernel
theorem dX10_told_32 : decode cX10_told 32 = .ok (.aload_n 0, 1) := by decide +kernel
theorem dX10_told_33 : decode cX10_told 33 = .ok (.getfield 33, 3) := by decide +kernel
theorem dX10_told_36 : decode cX10_told 36 = .ok (.iconst 2, 1) := by decide +kernel
theorem dX10_told_37 : decode cX10_told 37 = .ok (.iconst 3, 1) := by decide +kernel
theorem dX10_told_38 : decode cX10_told 38 = .ok (.iload_n 1, 1) := by decide +kernel
theorem dX10_told_39 : decode cX10_told 39 = .ok (.imul, 1) := by decide +kernel
theorem dX10_told_40 : decode cX10_told 40 = .ok (.iadd, 1) := by decide +kernel
theorem dX10_told_41 : decode cX10_told 41 = .ok (.iload_n 2, 1) := by decide +kernel
theorem dX10_told_42 : decode cX10_told 42 = .ok (.iadd, 1) := by decide +kernel
theorem dX10_told_43 : decode cX10_told 43 = .ok (.iaload, 1) := by decide +kernel
theorem dX10_told_44 : decode cX10_told 44 = .ok (.ireturn, 1) := by decide +kernel
theorem dX10_told_45 : decode cX10_told 45 = .ok (.iload_n 2, 1) := by decide +kernel
theorem dX10_told_46 : decode cX10_told 46 = .ok (.iconst 3, 1) := by decide +kernel
theorem dX10_told_47 : decode cX10_told 47 = .ok (.if_icmp .ne 17, 3) := by decide +kernel
theorem dX10_told_50 : decode cX10_told 50 = .ok (.aload_n 0, 1) := by decide +kernel
theorem dX10_told_51 : decode cX10_told 51 = .ok (.iload_n 1, 1) := by decide +kernel
theorem dX10_told_52 : decode cX10_told 52 = .ok (.invokevirtual 345, 3) := by decide +kernel
theorem dX10_told_55 : decode cX10_told 55 = .ok (.ifCond .ne 7, 3) := by decide +kernel
theorem dX10_told_58 : decode cX10_told 58 = .ok (.iconst 1, 1) := by decide +kernel
theorem dX10_told_59 : decode cX10_told 59 = .ok (.goto 4, 3) := by decide +kernel
theorem dX10_told_62 : decode cX10_told 62 = .ok (.iconst 0, 1) := by decide +kernel
theorem dX10_told_63 : decode cX10_told 63 = .ok (.ireturn, 1) := by decide +kernel
theorem dX10_told_64 : decode cX10_told 64 = .ok (.iconst 0, 1) := by decide +kernel
theorem dX10_told_65 : decode cX10_told 65 = .ok (.istore_n 3, 1) := by decide +kernel
theorem dX10_told_66 : decode cX10_told 66 = .ok (.iconst 0, 1) := by decide +kernel
theorem dX10_told_67 : decode cX10_told 67 = .ok (.istore 4, 2) := by decide +kernel
theorem dX10_told_69 : decode cX10_told 69 = .ok (.iload 4, 2) := by decide +kernel
theorem dX10_told_71 : decode cX10_told 71 = .ok (.aload_n 0, 1) := by decide +kernel
theorem dX10_told_72 : decode cX10_told 72 = .ok (.getfield 33, 3) := by decide +kernel
theorem dX10_told_75 : decode cX10_told 75 = .ok (.iconst 1, 1) := by decide +kernel
theorem dX10_told_76 : decode cX10_told 76 = .ok (.iaload, 1) := by decide +kernel
theorem dX10_told_77 : decode cX10_told 77 = .ok (.if_icmp .ge 33, 3) := by decide +kernel
theorem dX10_told_80 : decode cX10_told 80 = .ok (.iload_n 3, 1) := by decide +kernel
theorem dX10_told_81 : decode cX10_told 81 = .ok (.iload 4, 2) := by decide +kernel
theorem dX10_told_83 : decode cX10_told 83 = .ok (.iload_n 1, 1) := by decide +kernel
theorem dX10_told_84 : decode cX10_told 84 = .ok (.if_icmp .eq 17, 3) := by decide +kernel
theorem dX10_told_87 : decode cX10_told 87 = .ok (.aload_n 0, 1) := by decide +kernel
theorem dX10_told_88 : decode cX10_told 88 = .ok (.iload 4, 2) := by decide +kernel
theorem dX10_told_90 : decode cX10_told 90 = .ok (.iload_n 1, 1) := by decide +kernel
theorem dX10_told_91 : decode cX10_told 91 = .ok (.invokevirtual 348, 3) := by decide +kernel
theorem dX10_told_94 : decode cX10_told 94 = .ok (.ifCond .eq 7, 3) := by decide +kernel
theorem dX10_told_97 : decode cX10_told 97 = .ok (.iconst 1, 1) := by decide +kernel
theorem dX10_told_98 : decode cX10_told 98 = .ok (.goto 4, 3) := by decide +kernel
theorem dX10_told_101 : decode cX10_told 101 = .ok (.iconst 0, 1) := by decide +kernel
theorem dX10_told_102 : decode cX10_told 102 = .ok (.iadd, 1) := by decide +kernel
theorem dX10_told_103 : decode cX10_told 103 = .ok (.istore_n 3, 1) := by decide +kernel
theorem dX10_told_104 : decode cX10_told 104 = .ok (.iinc 4 1, 3) := by decide +kernel
theorem dX10_told_107 : decode cX10_told 107 = .ok (.goto (-38), 3) := by decide +kernel
theorem dX10_told_110 : decode cX10_told 110 = .ok (.iload_n 3, 1) := by decide +kernel
theorem dX10_told_111 : decode cX10_told 111 = .ok (.ireturn, 1) := by decide +kernel
theorem dX10_doClash_0 : decode cX10_doClash 0 = .ok (.aload_n 0, 1) := by decide +kernel
theorem dX10_doClash_1 : decode cX10_doClash 1 = .ok (.iload_n 1, 1) := by decide +kernel
theorem dX10_doClash_2 : decode cX10_doClash 2 = .ok (.iconst 0, 1) := by decide +kernel
theorem dX10_doClash_3 : decode cX10_doClash 3 = .ok (.invokevirtual 309, 3) := by decide +kernel
theorem dX10_doClash_6 : decode cX10_doClash 6 = .ok (.aload_n 0, 1) := by decide +kernel
theorem dX10_doClash_7 : decode cX10_doClash 7 = .ok (.iload_n 2, 1) := by decide +kernel
theorem dX10_doClash_8 : decode cX10_doClash 8 = .ok (.iconst 0, 1) := by decide +kernel
theorem dX10_doClash_9 : decode cX10_doClash 9 = .ok (.invokevirtual 309, 3) := by decide +kernel
theorem dX10_doClash_12 : decode cX10_doClash 12 = .ok (.land, 1) := by decide +kernel
theorem dX10_doClash_13 : decode cX10_doClash 13 = .ok (.aload_n 0, 1) := by decide +kernel
theorem dX10_doClash_14 : decode cX10_doClash 14 = .ok (.getfield 26, 3) := by decide +kernel
theorem dX10_doClash_17 : decode cX10_doClash 17 = .ok (.bipush 8, 2) := by decide +kernel
theorem dX10_doClash_19 : decode cX10_doClash 19 = .ok (.laload, 1) := by decide +kernel
theorem dX10_doClash_20 : decode cX10_doClash 20 = .ok (.land, 1) := by decide +kernel
theorem dX10_doClash_21 : decode cX10_doClash 21 = .ok (.lconst 0, 1) := by decide +kernel
theorem dX10_doClash_22 : decode cX10_doClash 22 = .ok (.lcmp, 1) := by decide +kernel
theorem dX10_doClash_23 : decode cX10_doClash 23 = .ok (.ifCond .ne 7, 3) := by decide +kernel
theorem dX10_doClash_26 : decode cX10_doClash 26 = .ok (.iconst 1, 1) := by decide +kernel
theorem dX10_doClash_27 : decode cX10_doClash 27 = .ok (.goto 4, 3) := by decide +kernel
theorem dX10_doClash_30 : decode cX10_doClash 30 = .ok (.iconst 0, 1) := by decide +kernel
theorem dX10_doClash_31 : decode cX10_doClash 31 = .ok (.ireturn, 1) := by decide +kernel
theorem dX10_clashes_0 : decode cX10_clashes 0 = .ok (.aload_n 0, 1) := by decide +kernel
theorem dX10_clashes_1 : decode cX10_clashes 1 = .ok (.invokevirtual 199, 3) := by decide +kernel
theorem dX10_clashes_4 : decode cX10_clashes 4 = .ok (.aload_n 0, 1) := by decide +kernel
theorem dX10_clashes_5 : decode cX10_clashes 5 = .ok (.getfield 212, 3) := by decide +kernel
theorem dX10_clashes_8 : decode cX10_clashes 8 = .ok (.ifCond .ne 9, 3) := by decide +kernel
theorem dX10_clashes_11 : decode cX10_clashes 11 = .ok (.aload_n 0, 1) := by decide +kernel
theorem dX10_clashes_12 : decode cX10_clashes 12 = .ok (.iconst 1, 1) := by decide +kernel
theorem dX10_clashes_13 : decode cX10_clashes 13 = .ok (.invokevirtual 202, 3) := by decide +kernel
theorem dX10_clashes_16 : decode cX10_clashes 16 = .ok (.ireturn, 1) := by decide +kernel
theorem dX10_clashes_17 : decode cX10_clashes 17 = .ok (.iconst 0, 1) := by decide +kernel
theorem dX10_clashes_18 : decode cX10_clashes 18 = .ok (.istore_n 1, 1) := by decide +kernel
theorem dX10_clashes_19 : decode cX10_clashes 19 = .ok (.iconst 0, 1) := by decide +kernel
theorem dX10_clashes_20 : decode cX10_clashes 20 = .ok (.istore_n 2, 1) := by decide +kernel
theorem dX10_clashes_21 : decode cX10_clashes 21 = .ok (.iload_n 2, 1) := by decide +kernel
theorem dX10_clashes_22 : decode cX10_clashes 22 = .ok (.aload_n 0, 1) := by decide +kernel
theorem dX10_clashes_23 : decode cX10_clashes 23 = .ok (.getfield 33, 3) := by decide +kernel
theorem dX10_clashes_26 : decode cX10_clashes 26 = .ok (.iconst 1, 1) := by decide +kernel
theorem dX10_clashes_27 : decode cX10_clashes 27 = .ok (.iaload, 1) := by decide +kernel
theorem dX10_clashes_28 : decode cX10_clashes 28 = .ok (.if_icmp .ge 39, 3) := by decide +kernel
theorem dX10_clashes_31 : decode cX10_clashes 31 = .ok (.iconst 0, 1) := by decide +kernel
theorem dX10_clashes_32 : decode cX10_clashes 32 = .ok (.istore_n 3, 1) := by decide +kernel
theorem dX10_clashes_33 : decode cX10_clashes 33 = .ok (.iload_n 3, 1) := by decide +kernel
theorem dX10_clashes_34 : decode cX10_clashes 34 = .ok (.iload_n 2, 1) := by decide +kernel
theorem dX10_clashes_35 : decode cX10_clashes 35 = .ok (.if_icmp .ge 26, 3) := by decide +kernel
theorem dX10_clashes_38 : decode cX10_clashes 38 = .ok (.iload_n 1, 1) := by decide +kernel
theorem dX10_clashes_39 : decode cX10_clashes 39 = .ok (.aload_n 0, 1) := by decide +kernel
theorem dX10_clashes_40 : decode cX10_clashes 40 = .ok (.iload_n 2, 1) := by decide +kernel
theorem dX10_clashes_41 : decode cX10_clashes 41 = .ok (.iload_n 3, 1) := by decide +kernel
theorem dX10_clashes_42 : decode cX10_clashes 42 = .ok (.invokevirtual 348, 3) := by decide +kernel
theorem dX10_clashes_45 : decode cX10_clashes 45 = .ok (.ifCond .eq 7, 3) := by decide +kernel
theorem dX10_clashes_48 : decode cX10_clashes 48 = .ok (.iconst 1, 1) := by decide +kernel
theorem dX10_clashes_49 : decode cX10_clashes 49 = .ok (.goto 4, 3) := by decide +kernel
theorem dX10_clashes_52 : decode cX10_clashes 52 = .ok (.iconst 0, 1) := by decide +kernel
theorem dX10_clashes_53 : decode cX10_clashes 53 = .ok (.iadd, 1) := by decide +kernel
theorem dX10_clashes_54 : decode cX10_clashes 54 = .ok (.istore_n 1, 1) := by decide +kernel
theorem dX10_clashes_55 : decode cX10_clashes 55 = .ok (.iinc 3 1, 3) := by decide +kernel
theorem dX10_clashes_58 : decode cX10_clashes 58 = .ok (.goto (-25), 3) := by decide +kernel
theorem dX10_clashes_61 : decode cX10_clashes 61 = .ok (.iinc 2 1, 3) := by decide +kernel
theorem dX10_clashes_64 : decode cX10_clashes 64 = .ok (.goto (-43), 3) := by decide +kernel
theorem dX10_clashes_67 : decode cX10_clashes 67 = .ok (.iload_n 1, 1) := by decide +kernel
theorem dX10_clashes_68 : decode cX10_clashes 68 = .ok (.ireturn, 1) := by decide +kernel
theorem dX10_takesOf_0 : decode cX10_takesOf 0 = .ok (.aload_n 0, 1) := by decide +kernel
theorem dX10_takesOf_1 : decode cX10_takesOf 1 = .ok (.invokevirtual 326, 3) := by decide +kernel
theorem dX10_takesOf_4 : decode cX10_takesOf 4 = .ok (.istore_n 2, 1) := by decide +kernel
theorem dX10_takesOf_5 : decode cX10_takesOf 5 = .ok (.aload_n 0, 1) := by decide +kernel
theorem dX10_takesOf_6 : decode cX10_takesOf 6 = .ok (.bipush 63, 2) := by decide +kernel
theorem dX10_takesOf_8 : decode cX10_takesOf 8 = .ok (.iload_n 2, 1) := by decide +kernel
theorem dX10_takesOf_9 : decode cX10_takesOf 9 = .ok (.iload_n 1, 1) := by decide +kernel
theorem dX10_takesOf_10 : decode cX10_takesOf 10 = .ok (.invokevirtual 313, 3) := by decide +kernel
theorem dX10_takesOf_13 : decode cX10_takesOf 13 = .ok (.invokestatic 291, 3) := by decide +kernel
theorem dX10_takesOf_16 : decode cX10_takesOf 16 = .ok (.aload_n 0, 1) := by decide +kernel
theorem dX10_takesOf_17 : decode cX10_takesOf 17 = .ok (.bipush 63, 2) := by decide +kernel
theorem dX10_takesOf_19 : decode cX10_takesOf 19 = .ok (.iload_n 2, 1) := by decide +kernel
theorem dX10_takesOf_20 : decode cX10_takesOf 20 = .ok (.iload_n 1, 1) := by decide +kernel
theorem dX10_takesOf_21 : decode cX10_takesOf 21 = .ok (.iconst 1, 1) := by decide +kernel
theorem dX10_takesOf_22 : decode cX10_takesOf 22 = .ok (.iadd, 1) := by decide +kernel
theorem dX10_takesOf_23 : decode cX10_takesOf 23 = .ok (.invokevirtual 313, 3) := by decide +kernel
theorem dX10_takesOf_26 : decode cX10_takesOf 26 = .ok (.invokestatic 291, 3) := by decide +kernel
theorem dX10_takesOf_29 : decode cX10_takesOf 29 = .ok (.isub, 1) := by decide +kernel
theorem dX10_takesOf_30 : decode cX10_takesOf 30 = .ok (.ireturn, 1) := by decide +kernel
theorem dX10_takes_0 : decode cX10_takes 0 = .ok (.aload_n 0, 1) := by decide +kernel
theorem dX10_takes_1 : decode cX10_takes 1 = .ok (.invokevirtual 199, 3) := by decide +kernel
theorem dX10_takes_4 : decode cX10_takes 4 = .ok (.aload_n 0, 1) := by decide +kernel
theorem dX10_takes_5 : decode cX10_takes 5 = .ok (.iload_n 1, 1) := by decide +kernel
theorem dX10_takes_6 : decode cX10_takes 6 = .ok (.invokevirtual 342, 3) := by decide +kernel
theorem dX10_takes_9 : decode cX10_takes 9 = .ok (.ifCond .eq 11, 3) := by decide +kernel
theorem dX10_takes_12 : decode cX10_takes 12 = .ok (.aload_n 0, 1) := by decide +kernel
theorem dX10_takes_13 : decode cX10_takes 13 = .ok (.iload_n 1, 1) := by decide +kernel
theorem dX10_takes_14 : decode cX10_takes 14 = .ok (.invokevirtual 345, 3) := by decide +kernel
theorem dX10_takes_17 : decode cX10_takes 17 = .ok (.goto 8, 3) := by decide +kernel
theorem dX10_takes_20 : decode cX10_takes 20 = .ok (.aload_n 0, 1) := by decide +kernel
theorem dX10_takes_21 : decode cX10_takes 21 = .ok (.iconst 1, 1) := by decide +kernel
theorem dX10_takes_22 : decode cX10_takes 22 = .ok (.invokevirtual 202, 3) := by decide +kernel
theorem dX10_takes_25 : decode cX10_takes 25 = .ok (.ireturn, 1) := by decide +kernel
theorem dX10_graves_0 : decode cX10_graves 0 = .ok (.aload_n 0, 1) := by decide +kernel
theorem dX10_graves_1 : decode cX10_graves 1 = .ok (.invokevirtual 199, 3) := by decide +kernel
theorem dX10_graves_4 : decode cX10_graves 4 = .ok (.aload_n 0, 1) := by decide +kernel
theorem dX10_graves_5 : decode cX10_graves 5 = .ok (.iload_n 1, 1) := by decide +kernel
theorem dX10_graves_6 : decode cX10_graves 6 = .ok (.invokevirtual 323, 3) := by decide +kernel
theorem dX10_graves_9 : decode cX10_graves 9 = .ok (.ifCond .ne 9, 3) := by decide +kernel
theorem dX10_graves_12 : decode cX10_graves 12 = .ok (.aload_n 0, 1) := by decide +kernel
theorem dX10_graves_13 : decode cX10_graves 13 = .ok (.iconst 1, 1) := by decide +kernel
theorem dX10_graves_14 : decode cX10_graves 14 = .ok (.invokevirtual 202, 3) := by decide +kernel
theorem dX10_graves_17 : decode cX10_graves 17 = .ok (.ireturn, 1) := by decide +kernel
theorem dX10_graves_18 : decode cX10_graves 18 = .ok (.iconst 0, 1) := by decide +kernel
theorem dX10_graves_19 : decode cX10_graves 19 = .ok (.istore_n 2, 1) := by decide +kernel
theorem dX10_graves_20 : decode cX10_graves 20 = .ok (.iconst 0, 1) := by decide +kernel
theorem dX10_graves_21 : decode cX10_graves 21 = .ok (.istore_n 3, 1) := by decide +kernel
theorem dX10_graves_22 : decode cX10_graves 22 = .ok (.iload_n 3, 1) := by decide +kernel
theorem dX10_graves_23 : decode cX10_graves 23 = .ok (.aload_n 0, 1) := by decide +kernel
theorem dX10_graves_24 : decode cX10_graves 24 = .ok (.getfield 33, 3) := by decide +kernel
theorem dX10_graves_27 : decode cX10_graves 27 = .ok (.iconst 1, 1) := by decide +kernel
theorem dX10_graves_28 : decode cX10_graves 28 = .ok (.iaload, 1) := by decide +kernel
theorem dX10_graves_29 : decode cX10_graves 29 = .ok (.if_icmp .ge 47, 3) := by decide +kernel
theorem dX10_graves_32 : decode cX10_graves 32 = .ok (.iload_n 2, 1) := by decide +kernel
theorem dX10_graves_33 : decode cX10_graves 33 = .ok (.aload_n 0, 1) := by decide +kernel
theorem dX10_graves_34 : decode cX10_graves 34 = .ok (.getfield 33, 3) := by decide +kernel
theorem dX10_graves_37 : decode cX10_graves 37 = .ok (.iconst 2, 1) := by decide +kernel
theorem dX10_graves_38 : decode cX10_graves 38 = .ok (.iconst 3, 1) := by decide +kernel
theorem dX10_graves_39 : decode cX10_graves 39 = .ok (.iload_n 3, 1) := by decide +kernel
theorem dX10_graves_40 : decode cX10_graves 40 = .ok (.imul, 1) := by decide +kernel
theorem dX10_graves_41 : decode cX10_graves 41 = .ok (.iadd, 1) := by decide +kernel
theorem dX10_graves_42 : decode cX10_graves 42 = .ok (.iaload, 1) := by decide +kernel
theorem dX10_graves_43 : decode cX10_graves 43 = .ok (.iload_n 1, 1) := by decide +kernel
theorem dX10_graves_44 : decode cX10_graves 44 = .ok (.if_icmp .ne 23, 3) := by decide +kernel
theorem dX10_graves_47 : decode cX10_graves 47 = .ok (.aload_n 0, 1) := by decide +kernel
theorem dX10_graves_48 : decode cX10_graves 48 = .ok (.getfield 33, 3) := by decide +kernel
theorem dX10_graves_51 : decode cX10_graves 51 = .ok (.iconst 2, 1) := by decide +kernel
theorem dX10_graves_52 : decode cX10_graves 52 = .ok (.iconst 3, 1) := by decide +kernel
theorem dX10_graves_53 : decode cX10_graves 53 = .ok (.iload_n 3, 1) := by decide +kernel
theorem dX10_graves_54 : decode cX10_graves 54 = .ok (.imul, 1) := by decide +kernel
theorem dX10_graves_55 : decode cX10_graves 55 = .ok (.iadd, 1) := by decide +kernel
theorem dX10_graves_56 : decode cX10_graves 56 = .ok (.iconst 2, 1) := by decide +kernel
theorem dX10_graves_57 : decode cX10_graves 57 = .ok (.iadd, 1) := by decide +kernel
theorem dX10_graves_58 : decode cX10_graves 58 = .ok (.iaload, 1) := by decide +kernel
theorem dX10_graves_59 : decode cX10_graves 59 = .ok (.iconst 1, 1) := by decide +kernel
theorem dX10_graves_60 : decode cX10_graves 60 = .ok (.if_icmp .ne 7, 3) := by decide +kernel
theorem dX10_graves_63 : decode cX10_graves 63 = .ok (.iconst 1, 1) := by decide +kernel
theorem dX10_graves_64 : decode cX10_graves 64 = .ok (.goto 4, 3) := by decide +kernel
theorem dX10_graves_67 : decode cX10_graves 67 = .ok (.iconst 0, 1) := by decide +kernel
theorem dX10_graves_68 : decode cX10_graves 68 = .ok (.iadd, 1) := by decide +kernel
theorem dX10_graves_69 : decode cX10_graves 69 = .ok (.istore_n 2, 1) := by decide +kernel
theorem dX10_graves_70 : decode cX10_graves 70 = .ok (.iinc 3 1, 3) := by decide +kernel
theorem dX10_graves_73 : decode cX10_graves 73 = .ok (.goto (-51), 3) := by decide +kernel
theorem dX10_graves_76 : decode cX10_graves 76 = .ok (.iload_n 2, 1) := by decide +kernel
theorem dX10_graves_77 : decode cX10_graves 77 = .ok (.ireturn, 1) := by decide +kernel
theorem dX10_couldOf_0 : decode cX10_couldOf 0 = .ok (.aload_n 0, 1) := by decide +kernel
theorem dX10_couldOf_1 : decode cX10_couldOf 1 = .ok (.getfield 20, 3) := by decide +kernel
theorem dX10_couldOf_4 : decode cX10_couldOf 4 = .ok (.bipush 89, 2) := by decide +kernel
theorem dX10_couldOf_6 : decode cX10_couldOf 6 = .ok (.iload_n 1, 1) := by decide +kernel
theorem dX10_couldOf_7 : decode cX10_couldOf 7 = .ok (.iadd, 1) := by decide +kernel
theorem dX10_couldOf_8 : decode cX10_couldOf 8 = .ok (.iaload, 1) := by decide +kernel
theorem dX10_couldOf_9 : decode cX10_couldOf 9 = .ok (.iconst 1, 1) := by decide +kernel
theorem dX10_couldOf_10 : decode cX10_couldOf 10 = .ok (.if_icmp .ne 7, 3) := by decide +kernel
theorem dX10_couldOf_13 : decode cX10_couldOf 13 = .ok (.iconst 1, 1) := by decide +kernel
theorem dX10_couldOf_14 : decode cX10_couldOf 14 = .ok (.goto 4, 3) := by decide +kernel
theorem dX10_couldOf_17 : decode cX10_couldOf 17 = .ok (.iconst 0, 1) := by decide +kernel
theorem dX10_couldOf_18 : decode cX10_couldOf 18 = .ok (.istore 5, 2) := by decide +kernel
theorem dX10_couldOf_20 : decode cX10_couldOf 20 = .ok (.iconst 0, 1) := by decide +kernel
theorem dX10_couldOf_21 : decode cX10_couldOf 21 = .ok (.istore 6, 2) := by decide +kernel
theorem dX10_couldOf_23 : decode cX10_couldOf 23 = .ok (.iconst 0, 1) := by decide +kernel
theorem dX10_couldOf_24 : decode cX10_couldOf 24 = .ok (.istore 7, 2) := by decide +kernel
theorem dX10_couldOf_26 : decode cX10_couldOf 26 = .ok (.iload 7, 2) := by decide +kernel
theorem dX10_couldOf_28 : decode cX10_couldOf 28 = .ok (.aload_n 0, 1) := by decide +kernel
theorem dX10_couldOf_29 : decode cX10_couldOf 29 = .ok (.getfield 20, 3) := by decide +kernel
theorem dX10_couldOf_32 : decode cX10_couldOf 32 = .ok (.iconst 5, 1) := by decide +kernel
theorem dX10_couldOf_33 : decode cX10_couldOf 33 = .ok (.iaload, 1) := by decide +kernel
theorem dX10_couldOf_34 : decode cX10_couldOf 34 = .ok (.if_icmp .ge 74, 3) := by decide +kernel
theorem dX10_couldOf_37 : decode cX10_couldOf 37 = .ok (.lload_n 2, 1) := by decide +kernel
theorem dX10_couldOf_38 : decode cX10_couldOf 38 = .ok (.iload 5, 2) := by decide +kernel
theorem dX10_couldOf_40 : decode cX10_couldOf 40 = .ok (.ifCond .eq 13, 3) := by decide +kernel
theorem dX10_couldOf_43 : decode cX10_couldOf 43 = .ok (.aload_n 0, 1) := by decide +kernel
theorem dX10_couldOf_44 : decode cX10_couldOf 44 = .ok (.getfield 26, 3) := by decide +kernel
theorem dX10_couldOf_47 : decode cX10_couldOf 47 = .ok (.iload 7, 2) := by decide +kernel
theorem dX10_couldOf_49 : decode cX10_couldOf 49 = .ok (.laload, 1) := by decide +kernel
theorem dX10_couldOf_50 : decode cX10_couldOf 50 = .ok (.goto 14, 3) := by decide +kernel
theorem dX10_couldOf_53 : decode cX10_couldOf 53 = .ok (.aload_n 0, 1) := by decide +kernel
theorem dX10_couldOf_54 : decode cX10_couldOf 54 = .ok (.getfield 26, 3) := by decide +kernel
theorem dX10_couldOf_57 : decode cX10_couldOf 57 = .ok (.iload 7, 2) := by decide +kernel
theorem dX10_couldOf_59 : decode cX10_couldOf 59 = .ok (.laload, 1) := by decide +kernel
theorem dX10_couldOf_60 : decode cX10_couldOf 60 = .ok (.ldc2_w 181, 3) := by decide +kernel
theorem dX10_couldOf_63 : decode cX10_couldOf 63 = .ok (.lxor, 1) := by decide +kernel
theorem dX10_couldOf_64 : decode cX10_couldOf 64 = .ok (.land, 1) := by decide +kernel
theorem dX10_couldOf_65 : decode cX10_couldOf 65 = .ok (.lstore 8, 2) := by decide +kernel
theorem dX10_couldOf_67 : decode cX10_couldOf 67 = .ok (.iload 6, 2) := by decide +kernel
theorem dX10_couldOf_69 : decode cX10_couldOf 69 = .ok (.iload 4, 2) := by decide +kernel
theorem dX10_couldOf_71 : decode cX10_couldOf 71 = .ok (.ifCond .eq 13, 3) := by decide +kernel
theorem dX10_couldOf_74 : decode cX10_couldOf 74 = .ok (.lload 8, 2) := by decide +kernel
theorem dX10_couldOf_76 : decode cX10_couldOf 76 = .ok (.lload_n 2, 1) := by decide +kernel
theorem dX10_couldOf_77 : decode cX10_couldOf 77 = .ok (.lcmp, 1) := by decide +kernel
theorem dX10_couldOf_78 : decode cX10_couldOf 78 = .ok (.ifCond .ne 20, 3) := by decide +kernel
theorem dX10_couldOf_81 : decode cX10_couldOf 81 = .ok (.goto 10, 3) := by decide +kernel
theorem dX10_couldOf_84 : decode cX10_couldOf 84 = .ok (.lload 8, 2) := by decide +kernel
theorem dX10_couldOf_86 : decode cX10_couldOf 86 = .ok (.lconst 0, 1) := by decide +kernel
theorem dX10_couldOf_87 : decode cX10_couldOf 87 = .ok (.lcmp, 1) := by decide +kernel
theorem dX10_couldOf_88 : decode cX10_couldOf 88 = .ok (.ifCond .eq 10, 3) := by decide +kernel
theorem dX10_couldOf_91 : decode cX10_couldOf 91 = .ok (.iconst 1, 1) := by decide +kernel
theorem dX10_couldOf_92 : decode cX10_couldOf 92 = .ok (.iload 7, 2) := by decide +kernel
theorem dX10_couldOf_94 : decode cX10_couldOf 94 = .ok (.ishl, 1) := by decide +kernel
theorem dX10_couldOf_95 : decode cX10_couldOf 95 = .ok (.goto 4, 3) := by decide +kernel
theorem dX10_couldOf_98 : decode cX10_couldOf 98 = .ok (.iconst 0, 1) := by decide +kernel
theorem dX10_couldOf_99 : decode cX10_couldOf 99 = .ok (.ior, 1) := by decide +kernel
theorem dX10_couldOf_100 : decode cX10_couldOf 100 = .ok (.istore 6, 2) := by decide +kernel
theorem dX10_couldOf_102 : decode cX10_couldOf 102 = .ok (.iinc 7 1, 3) := by decide +kernel
theorem dX10_couldOf_105 : decode cX10_couldOf 105 = .ok (.goto (-79), 3) := by decide +kernel
theorem dX10_couldOf_108 : decode cX10_couldOf 108 = .ok (.lload_n 2, 1) := by decide +kernel
theorem dX10_couldOf_109 : decode cX10_couldOf 109 = .ok (.lconst 0, 1) := by decide +kernel
theorem dX10_couldOf_110 : decode cX10_couldOf 110 = .ok (.lcmp, 1) := by decide +kernel
theorem dX10_couldOf_111 : decode cX10_couldOf 111 = .ok (.ifCond .ne 7, 3) := by decide +kernel
theorem dX10_couldOf_114 : decode cX10_couldOf 114 = .ok (.iconst 0, 1) := by decide +kernel
theorem dX10_couldOf_115 : decode cX10_couldOf 115 = .ok (.goto 5, 3) := by decide +kernel
theorem dX10_couldOf_118 : decode cX10_couldOf 118 = .ok (.iload 6, 2) := by decide +kernel
theorem dX10_couldOf_120 : decode cX10_couldOf 120 = .ok (.ireturn, 1) := by decide +kernel
theorem dX10_isStone_0 : decode cX10_isStone 0 = .ok (.aload_n 0, 1) := by decide +kernel
theorem dX10_isStone_1 : decode cX10_isStone 1 = .ok (.getfield 212, 3) := by decide +kernel
theorem dX10_isStone_4 : decode cX10_isStone 4 = .ok (.ifCond .eq 24, 3) := by decide +kernel
theorem dX10_isStone_7 : decode cX10_isStone 7 = .ok (.iload_n 1, 1) := by decide +kernel
theorem dX10_isStone_8 : decode cX10_isStone 8 = .ok (.iconst 0, 1) := by decide +kernel
theorem dX10_isStone_9 : decode cX10_isStone 9 = .ok (.aload_n 0, 1) := by decide +kernel
theorem dX10_isStone_10 : decode cX10_isStone 10 = .ok (.getfield 20, 3) := by decide +kernel
theorem dX10_isStone_13 : decode cX10_isStone 13 = .ok (.bipush 7, 2) := by decide +kernel
theorem dX10_isStone_15 : decode cX10_isStone 15 = .ok (.iaload, 1) := by decide +kernel
theorem dX10_isStone_16 : decode cX10_isStone 16 = .ok (.iconst 1, 1) := by decide +kernel
theorem dX10_isStone_17 : decode cX10_isStone 17 = .ok (.isub, 1) := by decide +kernel
theorem dX10_isStone_18 : decode cX10_isStone 18 = .ok (.invokestatic 156, 3) := by decide +kernel
theorem dX10_isStone_21 : decode cX10_isStone 21 = .ok (.ifCond .eq 7, 3) := by decide +kernel
theorem dX10_isStone_24 : decode cX10_isStone 24 = .ok (.iconst 1, 1) := by decide +kernel
theorem dX10_isStone_25 : decode cX10_isStone 25 = .ok (.goto 4, 3) := by decide +kernel
theorem dX10_isStone_28 : decode cX10_isStone 28 = .ok (.iconst 0, 1) := by decide +kernel
theorem dX10_isStone_29 : decode cX10_isStone 29 = .ok (.ireturn, 1) := by decide +kernel
theorem dX10_could_0 : decode cX10_could 0 = .ok (.aload_n 0, 1) := by decide +kernel
theorem dX10_could_1 : decode cX10_could 1 = .ok (.invokevirtual 199, 3) := by decide +kernel
theorem dX10_could_4 : decode cX10_could 4 = .ok (.aload_n 0, 1) := by decide +kernel
theorem dX10_could_5 : decode cX10_could 5 = .ok (.iload_n 1, 1) := by decide +kernel
theorem dX10_could_6 : decode cX10_could 6 = .ok (.invokevirtual 351, 3) := by decide +kernel
theorem dX10_could_9 : decode cX10_could 9 = .ok (.ifCond .eq 18, 3) := by decide +kernel
theorem dX10_could_12 : decode cX10_could 12 = .ok (.aload_n 0, 1) := by decide +kernel
theorem dX10_could_13 : decode cX10_could 13 = .ok (.iload_n 1, 1) := by decide +kernel
theorem dX10_could_14 : decode cX10_could 14 = .ok (.aload_n 0, 1) := by decide +kernel
theorem dX10_could_15 : decode cX10_could 15 = .ok (.bipush 63, 2) := by decide +kernel
theorem dX10_could_17 : decode cX10_could 17 = .ok (.invokevirtual 336, 3) := by decide +kernel
theorem dX10_could_20 : decode cX10_could 20 = .ok (.iconst 0, 1) := by decide +kernel
theorem dX10_could_21 : decode cX10_could 21 = .ok (.invokevirtual 354, 3) := by decide +kernel
theorem dX10_could_24 : decode cX10_could 24 = .ok (.goto 8, 3) := by decide +kernel
theorem dX10_could_27 : decode cX10_could 27 = .ok (.aload_n 0, 1) := by decide +kernel
theorem dX10_could_28 : decode cX10_could 28 = .ok (.iconst 1, 1) := by decide +kernel
theorem dX10_could_29 : decode cX10_could 29 = .ok (.invokevirtual 202, 3) := by decide +kernel
theorem dX10_could_32 : decode cX10_could 32 = .ok (.ireturn, 1) := by decide +kernel
theorem dX10_surely_0 : decode cX10_surely 0 = .ok (.aload_n 0, 1) := by decide +kernel
theorem dX10_surely_1 : decode cX10_surely 1 = .ok (.invokevirtual 199, 3) := by decide +kernel
theorem dX10_surely_4 : decode cX10_surely 4 = .ok (.aload_n 0, 1) := by decide +kernel
theorem dX10_surely_5 : decode cX10_surely 5 = .ok (.iload_n 1, 1) := by decide +kernel
theorem dX10_surely_6 : decode cX10_surely 6 = .ok (.invokevirtual 351, 3) := by decide +kernel
theorem dX10_surely_9 : decode cX10_surely 9 = .ok (.ifCond .eq 18, 3) := by decide +kernel
theorem dX10_surely_12 : decode cX10_surely 12 = .ok (.aload_n 0, 1) := by decide +kernel
theorem dX10_surely_13 : decode cX10_surely 13 = .ok (.iload_n 1, 1) := by decide +kernel
theorem dX10_surely_14 : decode cX10_surely 14 = .ok (.aload_n 0, 1) := by decide +kernel
theorem dX10_surely_15 : decode cX10_surely 15 = .ok (.bipush 63, 2) := by decide +kernel
theorem dX10_surely_17 : decode cX10_surely 17 = .ok (.invokevirtual 336, 3) := by decide +kernel
theorem dX10_surely_20 : decode cX10_surely 20 = .ok (.iconst 1, 1) := by decide +kernel
theorem dX10_surely_21 : decode cX10_surely 21 = .ok (.invokevirtual 354, 3) := by decide +kernel
theorem dX10_surely_24 : decode cX10_surely 24 = .ok (.goto 8, 3) := by decide +kernel
theorem dX10_surely_27 : decode cX10_surely 27 = .ok (.aload_n 0, 1) := by decide +kernel
theorem dX10_surely_28 : decode cX10_surely 28 = .ok (.iconst 1, 1) := by decide +kernel
theorem dX10_surely_29 : decode cX10_surely 29 = .ok (.invokevirtual 202, 3) := by decide +kernel
theorem dX10_surely_32 : decode cX10_surely 32 = .ok (.ireturn, 1) := by decide +kernel
theorem dX10_greater_0 : decode cX10_greater 0 = .ok (.lload_n 0, 1) := by decide +kernel
theorem dX10_greater_1 : decode cX10_greater 1 = .ok (.lload_n 2, 1) := by decide +kernel
theorem dX10_greater_2 : decode cX10_greater 2 = .ok (.lcmp, 1) := by decide +kernel
theorem dX10_greater_3 : decode cX10_greater 3 = .ok (.ifCond .le 7, 3) := by decide +kernel
theorem dX10_greater_6 : decode cX10_greater 6 = .ok (.lload_n 0, 1) := by decide +kernel
theorem dX10_greater_7 : decode cX10_greater 7 = .ok (.goto 4, 3) := by decide +kernel
theorem dX10_greater_10 : decode cX10_greater 10 = .ok (.lload_n 2, 1) := by decide +kernel
theorem dX10_greater_11 : decode cX10_greater 11 = .ok (.lreturn, 1) := by decide +kernel
theorem dX10_leftAtMost_0 : decode cX10_leftAtMost 0 = .ok (.aload_n 0, 1) := by decide +kernel
theorem dX10_leftAtMost_1 : decode cX10_leftAtMost 1 = .ok (.lload_n 1, 1) := by decide +kernel
theorem dX10_leftAtMost_2 : decode cX10_leftAtMost 2 = .ok (.aload_n 0, 1) := by decide +kernel
theorem dX10_leftAtMost_3 : decode cX10_leftAtMost 3 = .ok (.getfield 26, 3) := by decide +kernel
theorem dX10_leftAtMost_6 : decode cX10_leftAtMost 6 = .ok (.iload_n 3, 1) := by decide +kernel
theorem dX10_leftAtMost_7 : decode cX10_leftAtMost 7 = .ok (.laload, 1) := by decide +kernel
theorem dX10_leftAtMost_8 : decode cX10_leftAtMost 8 = .ok (.land, 1) := by decide +kernel
theorem dX10_leftAtMost_9 : decode cX10_leftAtMost 9 = .ok (.invokevirtual 301, 3) := by decide +kernel
theorem dX10_leftAtMost_12 : decode cX10_leftAtMost 12 = .ok (.aload_n 0, 1) := by decide +kernel
theorem dX10_leftAtMost_13 : decode cX10_leftAtMost 13 = .ok (.lload_n 1, 1) := by decide +kernel
theorem dX10_leftAtMost_14 : decode cX10_leftAtMost 14 = .ok (.aload_n 0, 1) := by decide +kernel
theorem dX10_leftAtMost_15 : decode cX10_leftAtMost 15 = .ok (.getfield 26, 3) := by decide +kernel
theorem dX10_leftAtMost_18 : decode cX10_leftAtMost 18 = .ok (.iload_n 3, 1) := by decide +kernel
theorem dX10_leftAtMost_19 : decode cX10_leftAtMost 19 = .ok (.laload, 1) := by decide +kernel
theorem dX10_leftAtMost_20 : decode cX10_leftAtMost 20 = .ok (.ldc2_w 181, 3) := by decide +kernel
theorem dX10_leftAtMost_23 : decode cX10_leftAtMost 23 = .ok (.lxor, 1) := by decide +kernel
theorem dX10_leftAtMost_24 : decode cX10_leftAtMost 24 = .ok (.land, 1) := by decide +kernel
theorem dX10_leftAtMost_25 : decode cX10_leftAtMost 25 = .ok (.invokevirtual 301, 3) := by decide +kernel
theorem dX10_leftAtMost_28 : decode cX10_leftAtMost 28 = .ok (.invokestatic 358, 3) := by decide +kernel
theorem dX10_leftAtMost_31 : decode cX10_leftAtMost 31 = .ok (.lreturn, 1) := by decide +kernel
theorem dX10_bestOf_0 : decode cX10_bestOf 0 = .ok (.bipush (-2), 2) := by decide +kernel
theorem dX10_bestOf_2 : decode cX10_bestOf 2 = .ok (.istore_n 3, 1) := by decide +kernel
theorem dX10_bestOf_3 : decode cX10_bestOf 3 = .ok (.iconst 0, 1) := by decide +kernel
theorem dX10_bestOf_4 : decode cX10_bestOf 4 = .ok (.istore 4, 2) := by decide +kernel
theorem dX10_bestOf_6 : decode cX10_bestOf 6 = .ok (.iload 4, 2) := by decide +kernel
theorem dX10_bestOf_8 : decode cX10_bestOf 8 = .ok (.aload_n 0, 1) := by decide +kernel
theorem dX10_bestOf_9 : decode cX10_bestOf 9 = .ok (.getfield 20, 3) := by decide +kernel
theorem dX10_bestOf_12 : decode cX10_bestOf 12 = .ok (.iconst 5, 1) := by decide +kernel
theorem dX10_bestOf_13 : decode cX10_bestOf 13 = .ok (.iaload, 1) := by decide +kernel
theorem dX10_bestOf_14 : decode cX10_bestOf 14 = .ok (.if_icmp .ge 35, 3) := by decide +kernel
theorem dX10_bestOf_17 : decode cX10_bestOf 17 = .ok (.iload_n 3, 1) := by decide +kernel
theorem dX10_bestOf_18 : decode cX10_bestOf 18 = .ok (.bipush (-2), 2) := by decide +kernel
theorem dX10_bestOf_20 : decode cX10_bestOf 20 = .ok (.if_icmp .eq 20, 3) := by decide +kernel
theorem dX10_bestOf_23 : decode cX10_bestOf 23 = .ok (.aload_n 0, 1) := by decide +kernel
theorem dX10_bestOf_24 : decode cX10_bestOf 24 = .ok (.lload_n 1, 1) := by decide +kernel
theorem dX10_bestOf_25 : decode cX10_bestOf 25 = .ok (.iload 4, 2) := by decide +kernel
theorem dX10_bestOf_27 : decode cX10_bestOf 27 = .ok (.invokevirtual 362, 3) := by decide +kernel
theorem dX10_bestOf_30 : decode cX10_bestOf 30 = .ok (.aload_n 0, 1) := by decide +kernel
theorem dX10_bestOf_31 : decode cX10_bestOf 31 = .ok (.lload_n 1, 1) := by decide +kernel
theorem dX10_bestOf_32 : decode cX10_bestOf 32 = .ok (.iload_n 3, 1) := by decide +kernel
theorem dX10_bestOf_33 : decode cX10_bestOf 33 = .ok (.invokevirtual 362, 3) := by decide +kernel
theorem dX10_bestOf_36 : decode cX10_bestOf 36 = .ok (.lcmp, 1) := by decide +kernel
theorem dX10_bestOf_37 : decode cX10_bestOf 37 = .ok (.ifCond .ge 6, 3) := by decide +kernel
theorem dX10_bestOf_40 : decode cX10_bestOf 40 = .ok (.iload 4, 2) := by decide +kernel
theorem dX10_bestOf_42 : decode cX10_bestOf 42 = .ok (.istore_n 3, 1) := by decide +kernel
theorem dX10_bestOf_43 : decode cX10_bestOf 43 = .ok (.iinc 4 1, 3) := by decide +kernel
theorem dX10_bestOf_46 : decode cX10_bestOf 46 = .ok (.goto (-40), 3) := by decide +kernel
theorem dX10_bestOf_49 : decode cX10_bestOf 49 = .ok (.iload_n 3, 1) := by decide +kernel
theorem dX10_bestOf_50 : decode cX10_bestOf 50 = .ok (.ireturn, 1) := by decide +kernel
theorem dX10_best_0 : decode cX10_best 0 = .ok (.aload_n 0, 1) := by decide +kernel
theorem dX10_best_1 : decode cX10_best 1 = .ok (.invokevirtual 199, 3) := by decide +kernel
theorem dX10_best_4 : decode cX10_best 4 = .ok (.aload_n 0, 1) := by decide +kernel
theorem dX10_best_5 : decode cX10_best 5 = .ok (.iload_n 1, 1) := by decide +kernel
theorem dX10_best_6 : decode cX10_best 6 = .ok (.invokevirtual 323, 3) := by decide +kernel
theorem dX10_best_9 : decode cX10_best 9 = .ok (.ifCond .eq 19, 3) := by decide +kernel
theorem dX10_best_12 : decode cX10_best 12 = .ok (.aload_n 0, 1) := by decide +kernel
theorem dX10_best_13 : decode cX10_best 13 = .ok (.aload_n 0, 1) := by decide +kernel
theorem dX10_best_14 : decode cX10_best 14 = .ok (.aload_n 0, 1) := by decide +kernel
theorem dX10_best_15 : decode cX10_best 15 = .ok (.iload_n 1, 1) := by decide +kernel
theorem dX10_best_16 : decode cX10_best 16 = .ok (.invokevirtual 333, 3) := by decide +kernel
theorem dX10_best_19 : decode cX10_best 19 = .ok (.invokevirtual 336, 3) := by decide +kernel
theorem dX10_best_22 : decode cX10_best 22 = .ok (.invokevirtual 366, 3) := by decide +kernel
theorem dX10_best_25 : decode cX10_best 25 = .ok (.goto 8, 3) := by decide +kernel
theorem dX10_best_28 : decode cX10_best 28 = .ok (.aload_n 0, 1) := by decide +kernel
theorem dX10_best_29 : decode cX10_best 29 = .ok (.iconst 1, 1) := by decide +kernel
theorem dX10_best_30 : decode cX10_best 30 = .ok (.invokevirtual 202, 3) := by decide +kernel
theorem dX10_best_33 : decode cX10_best 33 = .ok (.ireturn, 1) := by decide +kernel
theorem dX10_bestLeft_0 : decode cX10_bestLeft 0 = .ok (.aload_n 0, 1) := by decide +kernel
theorem dX10_bestLeft_1 : decode cX10_bestLeft 1 = .ok (.invokevirtual 199, 3) := by decide +kernel
theorem dX10_bestLeft_4 : decode cX10_bestLeft 4 = .ok (.aload_n 0, 1) := by decide +kernel
theorem dX10_bestLeft_5 : decode cX10_bestLeft 5 = .ok (.iload_n 1, 1) := by decide +kernel
theorem dX10_bestLeft_6 : decode cX10_bestLeft 6 = .ok (.invokevirtual 323, 3) := by decide +kernel
theorem dX10_bestLeft_9 : decode cX10_bestLeft 9 = .ok (.ifCond .ne 9, 3) := by decide +kernel
theorem dX10_bestLeft_12 : decode cX10_bestLeft 12 = .ok (.aload_n 0, 1) := by decide +kernel
theorem dX10_bestLeft_13 : decode cX10_bestLeft 13 = .ok (.iconst 1, 1) := by decide +kernel
theorem dX10_bestLeft_14 : decode cX10_bestLeft 14 = .ok (.invokevirtual 202, 3) := by decide +kernel
theorem dX10_bestLeft_17 : decode cX10_bestLeft 17 = .ok (.ireturn, 1) := by decide +kernel
theorem dX10_bestLeft_18 : decode cX10_bestLeft 18 = .ok (.aload_n 0, 1) := by decide +kernel
theorem dX10_bestLeft_19 : decode cX10_bestLeft 19 = .ok (.getfield 20, 3) := by decide +kernel
theorem dX10_bestLeft_22 : decode cX10_bestLeft 22 = .ok (.iconst 5, 1) := by decide +kernel
theorem dX10_bestLeft_23 : decode cX10_bestLeft 23 = .ok (.iaload, 1) := by decide +kernel
theorem dX10_bestLeft_24 : decode cX10_bestLeft 24 = .ok (.ifCond .ne 10, 3) := by decide +kernel
theorem dX10_bestLeft_27 : decode cX10_bestLeft 27 = .ok (.aload_n 0, 1) := by decide +kernel
theorem dX10_bestLeft_28 : decode cX10_bestLeft 28 = .ok (.bipush 6, 2) := by decide +kernel
theorem dX10_bestLeft_30 : decode cX10_bestLeft 30 = .ok (.invokevirtual 202, 3) := by decide +kernel
theorem dX10_bestLeft_33 : decode cX10_bestLeft 33 = .ok (.ireturn, 1) := by decide +kernel
theorem dX10_bestLeft_34 : decode cX10_bestLeft 34 = .ok (.aload_n 0, 1) := by decide +kernel
theorem dX10_bestLeft_35 : decode cX10_bestLeft 35 = .ok (.aload_n 0, 1) := by decide +kernel
theorem dX10_bestLeft_36 : decode cX10_bestLeft 36 = .ok (.iload_n 1, 1) := by decide +kernel
theorem dX10_bestLeft_37 : decode cX10_bestLeft 37 = .ok (.invokevirtual 333, 3) := by decide +kernel
theorem dX10_bestLeft_40 : decode cX10_bestLeft 40 = .ok (.invokevirtual 336, 3) := by decide +kernel
theorem dX10_bestLeft_43 : decode cX10_bestLeft 43 = .ok (.lstore_n 2, 1) := by decide +kernel
theorem dX10_bestLeft_44 : decode cX10_bestLeft 44 = .ok (.aload_n 0, 1) := by decide +kernel
theorem dX10_bestLeft_45 : decode cX10_bestLeft 45 = .ok (.lload_n 2, 1) := by decide +kernel
theorem dX10_bestLeft_46 : decode cX10_bestLeft 46 = .ok (.aload_n 0, 1) := by decide +kernel
theorem dX10_bestLeft_47 : decode cX10_bestLeft 47 = .ok (.lload_n 2, 1) := by decide +kernel
theorem dX10_bestLeft_48 : decode cX10_bestLeft 48 = .ok (.invokevirtual 366, 3) := by decide +kernel
theorem dX10_bestLeft_51 : decode cX10_bestLeft 51 = .ok (.invokevirtual 362, 3) := by decide +kernel
theorem dX10_bestLeft_54 : decode cX10_bestLeft 54 = .ok (.l2i, 1) := by decide +kernel
theorem dX10_bestLeft_55 : decode cX10_bestLeft 55 = .ok (.ireturn, 1) := by decide +kernel
theorem dX10_leftMean_0 : decode cX10_leftMean 0 = .ok (.aload_n 0, 1) := by decide +kernel
theorem dX10_leftMean_1 : decode cX10_leftMean 1 = .ok (.invokevirtual 199, 3) := by decide +kernel
theorem dX10_leftMean_4 : decode cX10_leftMean 4 = .ok (.aload_n 0, 1) := by decide +kernel
theorem dX10_leftMean_5 : decode cX10_leftMean 5 = .ok (.iload_n 1, 1) := by decide +kernel
theorem dX10_leftMean_6 : decode cX10_leftMean 6 = .ok (.invokevirtual 323, 3) := by decide +kernel
theorem dX10_leftMean_9 : decode cX10_leftMean 9 = .ok (.ifCond .eq 11, 3) := by decide +kernel
theorem dX10_leftMean_12 : decode cX10_leftMean 12 = .ok (.aload_n 0, 1) := by decide +kernel
theorem dX10_leftMean_13 : decode cX10_leftMean 13 = .ok (.iload_n 2, 1) := by decide +kernel
theorem dX10_leftMean_14 : decode cX10_leftMean 14 = .ok (.invokevirtual 298, 3) := by decide +kernel
theorem dX10_leftMean_17 : decode cX10_leftMean 17 = .ok (.ifCond .ne 10, 3) := by decide +kernel
theorem dX10_leftMean_20 : decode cX10_leftMean 20 = .ok (.aload_n 0, 1) := by decide +kernel
theorem dX10_leftMean_21 : decode cX10_leftMean 21 = .ok (.iconst 1, 1) := by decide +kernel
theorem dX10_leftMean_22 : decode cX10_leftMean 22 = .ok (.invokevirtual 202, 3) := by decide +kernel
theorem dX10_leftMean_25 : decode cX10_leftMean 25 = .ok (.i2l, 1) := by decide +kernel
theorem dX10_leftMean_26 : decode cX10_leftMean 26 = .ok (.lreturn, 1) := by decide +kernel
theorem dX10_leftMean_27 : decode cX10_leftMean 27 = .ok (.aload_n 0, 1) := by decide +kernel
theorem dX10_leftMean_28 : decode cX10_leftMean 28 = .ok (.aload_n 0, 1) := by decide +kernel
theorem dX10_leftMean_29 : decode cX10_leftMean 29 = .ok (.iload_n 1, 1) := by decide +kernel
theorem dX10_leftMean_30 : decode cX10_leftMean 30 = .ok (.invokevirtual 333, 3) := by decide +kernel
theorem dX10_leftMean_33 : decode cX10_leftMean 33 = .ok (.invokevirtual 336, 3) := by decide +kernel
theorem dX10_leftMean_36 : decode cX10_leftMean 36 = .ok (.lstore 4, 2) := by decide +kernel
theorem dX10_leftMean_38 : decode cX10_leftMean 38 = .ok (.lload 4, 2) := by decide +kernel
theorem dX10_leftMean_40 : decode cX10_leftMean 40 = .ok (.lconst 0, 1) := by decide +kernel
theorem dX10_leftMean_41 : decode cX10_leftMean 41 = .ok (.lcmp, 1) := by decide +kernel
theorem dX10_leftMean_42 : decode cX10_leftMean 42 = .ok (.ifCond .ne 11, 3) := by decide +kernel
theorem dX10_leftMean_45 : decode cX10_leftMean 45 = .ok (.aload_n 0, 1) := by decide +kernel
theorem dX10_leftMean_46 : decode cX10_leftMean 46 = .ok (.bipush 6, 2) := by decide +kernel
theorem dX10_leftMean_48 : decode cX10_leftMean 48 = .ok (.invokevirtual 202, 3) := by decide +kernel
theorem dX10_leftMean_51 : decode cX10_leftMean 51 = .ok (.i2l, 1) := by decide +kernel
theorem dX10_leftMean_52 : decode cX10_leftMean 52 = .ok (.lreturn, 1) := by decide +kernel
theorem dX10_leftMean_53 : decode cX10_leftMean 53 = .ok (.aload_n 0, 1) := by decide +kernel
theorem dX10_leftMean_54 : decode cX10_leftMean 54 = .ok (.lload 4, 2) := by decide +kernel
theorem dX10_leftMean_56 : decode cX10_leftMean 56 = .ok (.aload_n 0, 1) := by decide +kernel
theorem dX10_leftMean_57 : decode cX10_leftMean 57 = .ok (.getfield 26, 3) := by decide +kernel
theorem dX10_leftMean_60 : decode cX10_leftMean 60 = .ok (.iload_n 2, 1) := by decide +kernel
theorem dX10_leftMean_61 : decode cX10_leftMean 61 = .ok (.laload, 1) := by decide +kernel
theorem dX10_leftMean_62 : decode cX10_leftMean 62 = .ok (.land, 1) := by decide +kernel
theorem dX10_leftMean_63 : decode cX10_leftMean 63 = .ok (.invokevirtual 301, 3) := by decide +kernel
theorem dX10_leftMean_66 : decode cX10_leftMean 66 = .ok (.lstore 6, 2) := by decide +kernel
theorem dX10_leftMean_68 : decode cX10_leftMean 68 = .ok (.aload_n 0, 1) := by decide +kernel
theorem dX10_leftMean_69 : decode cX10_leftMean 69 = .ok (.lload 4, 2) := by decide +kernel
theorem dX10_leftMean_71 : decode cX10_leftMean 71 = .ok (.aload_n 0, 1) := by decide +kernel
theorem dX10_leftMean_72 : decode cX10_leftMean 72 = .ok (.getfield 26, 3) := by decide +kernel
theorem dX10_leftMean_75 : decode cX10_leftMean 75 = .ok (.iload_n 2, 1) := by decide +kernel
theorem dX10_leftMean_76 : decode cX10_leftMean 76 = .ok (.laload, 1) := by decide +kernel
theorem dX10_leftMean_77 : decode cX10_leftMean 77 = .ok (.ldc2_w 181, 3) := by decide +kernel
theorem dX10_leftMean_80 : decode cX10_leftMean 80 = .ok (.lxor, 1) := by decide +kernel
theorem dX10_leftMean_81 : decode cX10_leftMean 81 = .ok (.land, 1) := by decide +kernel
theorem dX10_leftMean_82 : decode cX10_leftMean 82 = .ok (.invokevirtual 301, 3) := by decide +kernel
theorem dX10_leftMean_85 : decode cX10_leftMean 85 = .ok (.lstore 8, 2) := by decide +kernel
theorem dX10_leftMean_87 : decode cX10_leftMean 87 = .ok (.lload 6, 2) := by decide +kernel
theorem dX10_leftMean_89 : decode cX10_leftMean 89 = .ok (.lload 6, 2) := by decide +kernel
theorem dX10_leftMean_91 : decode cX10_leftMean 91 = .ok (.lmul, 1) := by decide +kernel
theorem dX10_leftMean_92 : decode cX10_leftMean 92 = .ok (.lload 8, 2) := by decide +kernel
theorem dX10_leftMean_94 : decode cX10_leftMean 94 = .ok (.lload 8, 2) := by decide +kernel
theorem dX10_leftMean_96 : decode cX10_leftMean 96 = .ok (.lmul, 1) := by decide +kernel
theorem dX10_leftMean_97 : decode cX10_leftMean 97 = .ok (.ladd, 1) := by decide +kernel
theorem dX10_leftMean_98 : decode cX10_leftMean 98 = .ok (.lload 6, 2) := by decide +kernel
theorem dX10_leftMean_100 : decode cX10_leftMean 100 = .ok (.lload 8, 2) := by decide +kernel
theorem dX10_leftMean_102 : decode cX10_leftMean 102 = .ok (.ladd, 1) := by decide +kernel
theorem dX10_leftMean_103 : decode cX10_leftMean 103 = .ok (.iload_n 3, 1) := by decide +kernel
theorem dX10_leftMean_104 : decode cX10_leftMean 104 = .ok (.invokestatic 305, 3) := by decide +kernel
theorem dX10_leftMean_107 : decode cX10_leftMean 107 = .ok (.lreturn, 1) := by decide +kernel
theorem dX10_allCould_0 : decode cX10_allCould 0 = .ok (.iconst 0, 1) := by decide +kernel
theorem dX10_allCould_1 : decode cX10_allCould 1 = .ok (.istore_n 3, 1) := by decide +kernel
theorem dX10_allCould_2 : decode cX10_allCould 2 = .ok (.iconst 0, 1) := by decide +kernel
theorem dX10_allCould_3 : decode cX10_allCould 3 = .ok (.istore 4, 2) := by decide +kernel
theorem dX10_allCould_5 : decode cX10_allCould 5 = .ok (.iload 4, 2) := by decide +kernel
theorem dX10_allCould_7 : decode cX10_allCould 7 = .ok (.aload_n 0, 1) := by decide +kernel
theorem dX10_allCould_8 : decode cX10_allCould 8 = .ok (.getfield 20, 3) := by decide +kernel
theorem dX10_allCould_11 : decode cX10_allCould 11 = .ok (.bipush 7, 2) := by decide +kernel
theorem dX10_allCould_13 : decode cX10_allCould 13 = .ok (.iaload, 1) := by decide +kernel
theorem dX10_allCould_14 : decode cX10_allCould 14 = .ok (.if_icmp .ge 24, 3) := by decide +kernel
theorem dX10_allCould_17 : decode cX10_allCould 17 = .ok (.iload_n 3, 1) := by decide +kernel
theorem dX10_allCould_18 : decode cX10_allCould 18 = .ok (.aload_n 0, 1) := by decide +kernel
theorem dX10_allCould_19 : decode cX10_allCould 19 = .ok (.iload 4, 2) := by decide +kernel
theorem dX10_allCould_21 : decode cX10_allCould 21 = .ok (.lload_n 1, 1) := by decide +kernel
theorem dX10_allCould_22 : decode cX10_allCould 22 = .ok (.iconst 0, 1) := by decide +kernel
theorem dX10_allCould_23 : decode cX10_allCould 23 = .ok (.invokevirtual 354, 3) := by decide +kernel
theorem dX10_allCould_26 : decode cX10_allCould 26 = .ok (.i2l, 1) := by decide +kernel
theorem dX10_allCould_27 : decode cX10_allCould 27 = .ok (.invokestatic 291, 3) := by decide +kernel
theorem dX10_allCould_30 : decode cX10_allCould 30 = .ok (.iadd, 1) := by decide +kernel
theorem dX10_allCould_31 : decode cX10_allCould 31 = .ok (.istore_n 3, 1) := by decide +kernel
theorem dX10_allCould_32 : decode cX10_allCould 32 = .ok (.iinc 4 1, 3) := by decide +kernel
theorem dX10_allCould_35 : decode cX10_allCould 35 = .ok (.goto (-30), 3) := by decide +kernel
theorem dX10_allCould_38 : decode cX10_allCould 38 = .ok (.iload_n 3, 1) := by decide +kernel
theorem dX10_allCould_39 : decode cX10_allCould 39 = .ok (.ireturn, 1) := by decide +kernel
theorem dX10_tells_0 : decode cX10_tells 0 = .ok (.aload_n 0, 1) := by decide +kernel
theorem dX10_tells_1 : decode cX10_tells 1 = .ok (.invokevirtual 199, 3) := by decide +kernel
theorem dX10_tells_4 : decode cX10_tells 4 = .ok (.aload_n 0, 1) := by decide +kernel
theorem dX10_tells_5 : decode cX10_tells 5 = .ok (.getfield 212, 3) := by decide +kernel
theorem dX10_tells_8 : decode cX10_tells 8 = .ok (.ifCond .ne 9, 3) := by decide +kernel
theorem dX10_tells_11 : decode cX10_tells 11 = .ok (.aload_n 0, 1) := by decide +kernel
theorem dX10_tells_12 : decode cX10_tells 12 = .ok (.iconst 1, 1) := by decide +kernel
theorem dX10_tells_13 : decode cX10_tells 13 = .ok (.invokevirtual 202, 3) := by decide +kernel
theorem dX10_tells_16 : decode cX10_tells 16 = .ok (.ireturn, 1) := by decide +kernel
theorem dX10_tells_17 : decode cX10_tells 17 = .ok (.aload_n 0, 1) := by decide +kernel
theorem dX10_tells_18 : decode cX10_tells 18 = .ok (.bipush 63, 2) := by decide +kernel
theorem dX10_tells_20 : decode cX10_tells 20 = .ok (.invokevirtual 336, 3) := by decide +kernel
theorem dX10_tells_23 : decode cX10_tells 23 = .ok (.lstore_n 1, 1) := by decide +kernel
theorem dX10_tells_24 : decode cX10_tells 24 = .ok (.bipush (-2), 2) := by decide +kernel
theorem dX10_tells_26 : decode cX10_tells 26 = .ok (.istore_n 3, 1) := by decide +kernel
theorem dX10_tells_27 : decode cX10_tells 27 = .ok (.ldc2_w 369, 3) := by decide +kernel
theorem dX10_tells_30 : decode cX10_tells 30 = .ok (.lstore 4, 2) := by decide +kernel
theorem dX10_tells_32 : decode cX10_tells 32 = .ok (.iconst 0, 1) := by decide +kernel
theorem dX10_tells_33 : decode cX10_tells 33 = .ok (.istore 6, 2) := by decide +kernel
theorem dX10_tells_35 : decode cX10_tells 35 = .ok (.iload 6, 2) := by decide +kernel
theorem dX10_tells_37 : decode cX10_tells 37 = .ok (.aload_n 0, 1) := by decide +kernel
theorem dX10_tells_38 : decode cX10_tells 38 = .ok (.getfield 20, 3) := by decide +kernel
theorem dX10_tells_41 : decode cX10_tells 41 = .ok (.iconst 5, 1) := by decide +kernel
theorem dX10_tells_42 : decode cX10_tells 42 = .ok (.iaload, 1) := by decide +kernel
theorem dX10_tells_43 : decode cX10_tells 43 = .ok (.if_icmp .ge 64, 3) := by decide +kernel
theorem dX10_tells_46 : decode cX10_tells 46 = .ok (.aload_n 0, 1) := by decide +kernel
theorem dX10_tells_47 : decode cX10_tells 47 = .ok (.lload_n 1, 1) := by decide +kernel
theorem dX10_tells_48 : decode cX10_tells 48 = .ok (.aload_n 0, 1) := by decide +kernel
theorem dX10_tells_49 : decode cX10_tells 49 = .ok (.getfield 26, 3) := by decide +kernel
theorem dX10_tells_52 : decode cX10_tells 52 = .ok (.iload 6, 2) := by decide +kernel
theorem dX10_tells_54 : decode cX10_tells 54 = .ok (.laload, 1) := by decide +kernel
theorem dX10_tells_55 : decode cX10_tells 55 = .ok (.land, 1) := by decide +kernel
theorem dX10_tells_56 : decode cX10_tells 56 = .ok (.invokevirtual 371, 3) := by decide +kernel
theorem dX10_tells_59 : decode cX10_tells 59 = .ok (.i2l, 1) := by decide +kernel
theorem dX10_tells_60 : decode cX10_tells 60 = .ok (.aload_n 0, 1) := by decide +kernel
theorem dX10_tells_61 : decode cX10_tells 61 = .ok (.lload_n 1, 1) := by decide +kernel
theorem dX10_tells_62 : decode cX10_tells 62 = .ok (.aload_n 0, 1) := by decide +kernel
theorem dX10_tells_63 : decode cX10_tells 63 = .ok (.getfield 26, 3) := by decide +kernel
theorem dX10_tells_66 : decode cX10_tells 66 = .ok (.iload 6, 2) := by decide +kernel
theorem dX10_tells_68 : decode cX10_tells 68 = .ok (.laload, 1) := by decide +kernel
theorem dX10_tells_69 : decode cX10_tells 69 = .ok (.ldc2_w 181, 3) := by decide +kernel
theorem dX10_tells_72 : decode cX10_tells 72 = .ok (.lxor, 1) := by decide +kernel
theorem dX10_tells_73 : decode cX10_tells 73 = .ok (.land, 1) := by decide +kernel
theorem dX10_tells_74 : decode cX10_tells 74 = .ok (.invokevirtual 371, 3) := by decide +kernel
theorem dX10_tells_77 : decode cX10_tells 77 = .ok (.i2l, 1) := by decide +kernel
theorem dX10_tells_78 : decode cX10_tells 78 = .ok (.invokestatic 358, 3) := by decide +kernel
theorem dX10_tells_81 : decode cX10_tells 81 = .ok (.lstore 7, 2) := by decide +kernel
theorem dX10_tells_83 : decode cX10_tells 83 = .ok (.lload 7, 2) := by decide +kernel
theorem dX10_tells_85 : decode cX10_tells 85 = .ok (.lload 4, 2) := by decide +kernel
theorem dX10_tells_87 : decode cX10_tells 87 = .ok (.lcmp, 1) := by decide +kernel
theorem dX10_tells_88 : decode cX10_tells 88 = .ok (.ifCond .lt 6, 3) := by decide +kernel
theorem dX10_tells_91 : decode cX10_tells 91 = .ok (.goto 10, 3) := by decide +kernel
theorem dX10_tells_94 : decode cX10_tells 94 = .ok (.iload 6, 2) := by decide +kernel
theorem dX10_tells_96 : decode cX10_tells 96 = .ok (.istore_n 3, 1) := by decide +kernel
theorem dX10_tells_97 : decode cX10_tells 97 = .ok (.lload 7, 2) := by decide +kernel
theorem dX10_tells_99 : decode cX10_tells 99 = .ok (.lstore 4, 2) := by decide +kernel
theorem dX10_tells_101 : decode cX10_tells 101 = .ok (.iinc 6 1, 3) := by decide +kernel
theorem dX10_tells_104 : decode cX10_tells 104 = .ok (.goto (-69), 3) := by decide +kernel
theorem dX10_tells_107 : decode cX10_tells 107 = .ok (.iload_n 3, 1) := by decide +kernel
theorem dX10_tells_108 : decode cX10_tells 108 = .ok (.ireturn, 1) := by decide +kernel
theorem dX10_layPlans_0 : decode cX10_layPlans 0 = .ok (.aload_n 0, 1) := by decide +kernel
theorem dX10_layPlans_1 : decode cX10_layPlans 1 = .ok (.iload_n 1, 1) := by decide +kernel
theorem dX10_layPlans_2 : decode cX10_layPlans 2 = .ok (.putfield 374, 3) := by decide +kernel
theorem dX10_layPlans_5 : decode cX10_layPlans 5 = .ok (.iconst 0, 1) := by decide +kernel
theorem dX10_layPlans_6 : decode cX10_layPlans 6 = .ok (.istore_n 2, 1) := by decide +kernel
theorem dX10_layPlans_7 : decode cX10_layPlans 7 = .ok (.iload_n 2, 1) := by decide +kernel
theorem dX10_layPlans_8 : decode cX10_layPlans 8 = .ok (.sipush 6561, 3) := by decide +kernel
theorem dX10_layPlans_11 : decode cX10_layPlans 11 = .ok (.if_icmp .ge 25, 3) := by decide +kernel
theorem dX10_layPlans_14 : decode cX10_layPlans 14 = .ok (.aload_n 0, 1) := by decide +kernel
theorem dX10_layPlans_15 : decode cX10_layPlans 15 = .ok (.getfield 42, 3) := by decide +kernel
theorem dX10_layPlans_18 : decode cX10_layPlans 18 = .ok (.iload_n 2, 1) := by decide +kernel
theorem dX10_layPlans_19 : decode cX10_layPlans 19 = .ok (.iconst (-1), 1) := by decide +kernel
theorem dX10_layPlans_20 : decode cX10_layPlans 20 = .ok (.iastore, 1) := by decide +kernel
theorem dX10_layPlans_21 : decode cX10_layPlans 21 = .ok (.aload_n 0, 1) := by decide +kernel
theorem dX10_layPlans_22 : decode cX10_layPlans 22 = .ok (.getfield 45, 3) := by decide +kernel
theorem dX10_layPlans_25 : decode cX10_layPlans 25 = .ok (.iload_n 2, 1) := by decide +kernel
theorem dX10_layPlans_26 : decode cX10_layPlans 26 = .ok (.ldc2_w 181, 3) := by decide +kernel
theorem dX10_layPlans_29 : decode cX10_layPlans 29 = .ok (.lastore, 1) := by decide +kernel
theorem dX10_layPlans_30 : decode cX10_layPlans 30 = .ok (.iinc 2 1, 3) := by decide +kernel
theorem dX10_layPlans_33 : decode cX10_layPlans 33 = .ok (.goto (-26), 3) := by decide +kernel
theorem dX10_layPlans_36 : decode cX10_layPlans 36 = .ok (.return_, 1) := by decide +kernel
theorem dX10_third_0 : decode cX10_third 0 = .ok (.iconst 1, 1) := by decide +kernel
theorem dX10_third_1 : decode cX10_third 1 = .ok (.istore_n 1, 1) := by decide +kernel
theorem dX10_third_2 : decode cX10_third 2 = .ok (.iconst 0, 1) := by decide +kernel
theorem dX10_third_3 : decode cX10_third 3 = .ok (.istore_n 2, 1) := by decide +kernel
theorem dX10_third_4 : decode cX10_third 4 = .ok (.iload_n 2, 1) := by decide +kernel
theorem dX10_third_5 : decode cX10_third 5 = .ok (.iload_n 0, 1) := by decide +kernel
theorem dX10_third_6 : decode cX10_third 6 = .ok (.if_icmp .ge 13, 3) := by decide +kernel
theorem dX10_third_9 : decode cX10_third 9 = .ok (.iload_n 1, 1) := by decide +kernel
theorem dX10_third_10 : decode cX10_third 10 = .ok (.iconst 3, 1) := by decide +kernel
theorem dX10_third_11 : decode cX10_third 11 = .ok (.imul, 1) := by decide +kernel
theorem dX10_third_12 : decode cX10_third 12 = .ok (.istore_n 1, 1) := by decide +kernel
theorem dX10_third_13 : decode cX10_third 13 = .ok (.iinc 2 1, 3) := by decide +kernel
theorem dX10_third_16 : decode cX10_third 16 = .ok (.goto (-12), 3) := by decide +kernel
theorem dX10_third_19 : decode cX10_third 19 = .ok (.iload_n 1, 1) := by decide +kernel
theorem dX10_third_20 : decode cX10_third 20 = .ok (.ireturn, 1) := by decide +kernel
theorem dX10_doesTell_0 : decode cX10_doesTell 0 = .ok (.iload_n 3, 1) := by decide +kernel
theorem dX10_doesTell_1 : decode cX10_doesTell 1 = .ok (.aload_n 0, 1) := by decide +kernel
theorem dX10_doesTell_2 : decode cX10_doesTell 2 = .ok (.getfield 374, 3) := by decide +kernel
theorem dX10_doesTell_5 : decode cX10_doesTell 5 = .ok (.if_icmp .eq 37, 3) := by decide +kernel
theorem dX10_doesTell_8 : decode cX10_doesTell 8 = .ok (.lload_n 1, 1) := by decide +kernel
theorem dX10_doesTell_9 : decode cX10_doesTell 9 = .ok (.aload_n 0, 1) := by decide +kernel
theorem dX10_doesTell_10 : decode cX10_doesTell 10 = .ok (.getfield 26, 3) := by decide +kernel
theorem dX10_doesTell_13 : decode cX10_doesTell 13 = .ok (.iload_n 3, 1) := by decide +kernel
theorem dX10_doesTell_14 : decode cX10_doesTell 14 = .ok (.laload, 1) := by decide +kernel
theorem dX10_doesTell_15 : decode cX10_doesTell 15 = .ok (.land, 1) := by decide +kernel
theorem dX10_doesTell_16 : decode cX10_doesTell 16 = .ok (.lconst 0, 1) := by decide +kernel
theorem dX10_doesTell_17 : decode cX10_doesTell 17 = .ok (.lcmp, 1) := by decide +kernel
theorem dX10_doesTell_18 : decode cX10_doesTell 18 = .ok (.ifCond .eq 24, 3) := by decide +kernel
theorem dX10_doesTell_21 : decode cX10_doesTell 21 = .ok (.lload_n 1, 1) := by decide +kernel
theorem dX10_doesTell_22 : decode cX10_doesTell 22 = .ok (.aload_n 0, 1) := by decide +kernel
theorem dX10_doesTell_23 : decode cX10_doesTell 23 = .ok (.getfield 26, 3) := by decide +kernel
theorem dX10_doesTell_26 : decode cX10_doesTell 26 = .ok (.iload_n 3, 1) := by decide +kernel
theorem dX10_doesTell_27 : decode cX10_doesTell 27 = .ok (.laload, 1) := by decide +kernel
theorem dX10_doesTell_28 : decode cX10_doesTell 28 = .ok (.ldc2_w 181, 3) := by decide +kernel
theorem dX10_doesTell_31 : decode cX10_doesTell 31 = .ok (.lxor, 1) := by decide +kernel
theorem dX10_doesTell_32 : decode cX10_doesTell 32 = .ok (.land, 1) := by decide +kernel
theorem dX10_doesTell_33 : decode cX10_doesTell 33 = .ok (.lconst 0, 1) := by decide +kernel
theorem dX10_doesTell_34 : decode cX10_doesTell 34 = .ok (.lcmp, 1) := by decide +kernel
theorem dX10_doesTell_35 : decode cX10_doesTell 35 = .ok (.ifCond .eq 7, 3) := by decide +kernel
theorem dX10_doesTell_38 : decode cX10_doesTell 38 = .ok (.iconst 1, 1) := by decide +kernel
theorem dX10_doesTell_39 : decode cX10_doesTell 39 = .ok (.goto 4, 3) := by decide +kernel
theorem dX10_doesTell_42 : decode cX10_doesTell 42 = .ok (.iconst 0, 1) := by decide +kernel
theorem dX10_doesTell_43 : decode cX10_doesTell 43 = .ok (.ireturn, 1) := by decide +kernel
theorem dX10_fewestOf_0 : decode cX10_fewestOf 0 = .ok (.lload_n 2, 1) := by decide +kernel
theorem dX10_fewestOf_1 : decode cX10_fewestOf 1 = .ok (.aload_n 0, 1) := by decide +kernel
theorem dX10_fewestOf_2 : decode cX10_fewestOf 2 = .ok (.getfield 26, 3) := by decide +kernel
theorem dX10_fewestOf_5 : decode cX10_fewestOf 5 = .ok (.aload_n 0, 1) := by decide +kernel
theorem dX10_fewestOf_6 : decode cX10_fewestOf 6 = .ok (.getfield 374, 3) := by decide +kernel
theorem dX10_fewestOf_9 : decode cX10_fewestOf 9 = .ok (.laload, 1) := by decide +kernel
theorem dX10_fewestOf_10 : decode cX10_fewestOf 10 = .ok (.invokestatic 329, 3) := by decide +kernel
theorem dX10_fewestOf_13 : decode cX10_fewestOf 13 = .ok (.bipush (-2), 2) := by decide +kernel
theorem dX10_fewestOf_15 : decode cX10_fewestOf 15 = .ok (.if_icmp .eq 5, 3) := by decide +kernel
theorem dX10_fewestOf_18 : decode cX10_fewestOf 18 = .ok (.iconst 0, 1) := by decide +kernel
theorem dX10_fewestOf_19 : decode cX10_fewestOf 19 = .ok (.ireturn, 1) := by decide +kernel
theorem dX10_fewestOf_20 : decode cX10_fewestOf 20 = .ok (.aload_n 0, 1) := by decide +kernel
theorem dX10_fewestOf_21 : decode cX10_fewestOf 21 = .ok (.getfield 42, 3) := by decide +kernel
theorem dX10_fewestOf_24 : decode cX10_fewestOf 24 = .ok (.iload_n 1, 1) := by decide +kernel
theorem dX10_fewestOf_25 : decode cX10_fewestOf 25 = .ok (.iaload, 1) := by decide +kernel
theorem dX10_fewestOf_26 : decode cX10_fewestOf 26 = .ok (.ifCond .lt 10, 3) := by decide +kernel
theorem dX10_fewestOf_29 : decode cX10_fewestOf 29 = .ok (.aload_n 0, 1) := by decide +kernel
theorem dX10_fewestOf_30 : decode cX10_fewestOf 30 = .ok (.getfield 42, 3) := by decide +kernel
theorem dX10_fewestOf_33 : decode cX10_fewestOf 33 = .ok (.iload_n 1, 1) := by decide +kernel
theorem dX10_fewestOf_34 : decode cX10_fewestOf 34 = .ok (.iaload, 1) := by decide +kernel
theorem dX10_fewestOf_35 : decode cX10_fewestOf 35 = .ok (.ireturn, 1) := by decide +kernel
theorem dX10_fewestOf_36 : decode cX10_fewestOf 36 = .ok (.ldc_w 377, 3) := by decide +kernel
theorem dX10_fewestOf_39 : decode cX10_fewestOf 39 = .ok (.istore 4, 2) := by decide +kernel
theorem dX10_fewestOf_41 : decode cX10_fewestOf 41 = .ok (.iconst 0, 1) := by decide +kernel
theorem dX10_fewestOf_42 : decode cX10_fewestOf 42 = .ok (.istore 5, 2) := by decide +kernel
theorem dX10_fewestOf_44 : decode cX10_fewestOf 44 = .ok (.iload 5, 2) := by decide +kernel
theorem dX10_fewestOf_46 : decode cX10_fewestOf 46 = .ok (.aload_n 0, 1) := by decide +kernel
theorem dX10_fewestOf_47 : decode cX10_fewestOf 47 = .ok (.getfield 20, 3) := by decide +kernel
theorem dX10_fewestOf_50 : decode cX10_fewestOf 50 = .ok (.iconst 5, 1) := by decide +kernel
theorem dX10_fewestOf_51 : decode cX10_fewestOf 51 = .ok (.iaload, 1) := by decide +kernel
theorem dX10_fewestOf_52 : decode cX10_fewestOf 52 = .ok (.if_icmp .ge 47, 3) := by decide +kernel
theorem dX10_fewestOf_55 : decode cX10_fewestOf 55 = .ok (.aload_n 0, 1) := by decide +kernel
theorem dX10_fewestOf_56 : decode cX10_fewestOf 56 = .ok (.lload_n 2, 1) := by decide +kernel
theorem dX10_fewestOf_57 : decode cX10_fewestOf 57 = .ok (.iload 5, 2) := by decide +kernel
theorem dX10_fewestOf_59 : decode cX10_fewestOf 59 = .ok (.invokevirtual 378, 3) := by decide +kernel
theorem dX10_fewestOf_62 : decode cX10_fewestOf 62 = .ok (.ifCond .eq 31, 3) := by decide +kernel
theorem dX10_fewestOf_65 : decode cX10_fewestOf 65 = .ok (.aload_n 0, 1) := by decide +kernel
theorem dX10_fewestOf_66 : decode cX10_fewestOf 66 = .ok (.iload_n 1, 1) := by decide +kernel
theorem dX10_fewestOf_67 : decode cX10_fewestOf 67 = .ok (.lload_n 2, 1) := by decide +kernel
theorem dX10_fewestOf_68 : decode cX10_fewestOf 68 = .ok (.iload 5, 2) := by decide +kernel
theorem dX10_fewestOf_70 : decode cX10_fewestOf 70 = .ok (.invokevirtual 382, 3) := by decide +kernel
theorem dX10_fewestOf_73 : decode cX10_fewestOf 73 = .ok (.iload 4, 2) := by decide +kernel
theorem dX10_fewestOf_75 : decode cX10_fewestOf 75 = .ok (.if_icmp .ge 14, 3) := by decide +kernel
theorem dX10_fewestOf_78 : decode cX10_fewestOf 78 = .ok (.aload_n 0, 1) := by decide +kernel
theorem dX10_fewestOf_79 : decode cX10_fewestOf 79 = .ok (.iload_n 1, 1) := by decide +kernel
theorem dX10_fewestOf_80 : decode cX10_fewestOf 80 = .ok (.lload_n 2, 1) := by decide +kernel
theorem dX10_fewestOf_81 : decode cX10_fewestOf 81 = .ok (.iload 5, 2) := by decide +kernel
theorem dX10_fewestOf_83 : decode cX10_fewestOf 83 = .ok (.invokevirtual 382, 3) := by decide +kernel
theorem dX10_fewestOf_86 : decode cX10_fewestOf 86 = .ok (.goto 5, 3) := by decide +kernel
theorem dX10_fewestOf_89 : decode cX10_fewestOf 89 = .ok (.iload 4, 2) := by decide +kernel
theorem dX10_fewestOf_91 : decode cX10_fewestOf 91 = .ok (.istore 4, 2) := by decide +kernel
theorem dX10_fewestOf_93 : decode cX10_fewestOf 93 = .ok (.iinc 5 1, 3) := by decide +kernel
theorem dX10_fewestOf_96 : decode cX10_fewestOf 96 = .ok (.goto (-52), 3) := by decide +kernel
theorem dX10_fewestOf_99 : decode cX10_fewestOf 99 = .ok (.aload_n 0, 1) := by decide +kernel
theorem dX10_fewestOf_100 : decode cX10_fewestOf 100 = .ok (.getfield 42, 3) := by decide +kernel
theorem dX10_fewestOf_103 : decode cX10_fewestOf 103 = .ok (.iload_n 1, 1) := by decide +kernel
theorem dX10_fewestOf_104 : decode cX10_fewestOf 104 = .ok (.iload 4, 2) := by decide +kernel
theorem dX10_fewestOf_106 : decode cX10_fewestOf 106 = .ok (.iastore, 1) := by decide +kernel
theorem dX10_fewestOf_107 : decode cX10_fewestOf 107 = .ok (.iload 4, 2) := by decide +kernel
theorem dX10_fewestOf_109 : decode cX10_fewestOf 109 = .ok (.ireturn, 1) := by decide +kernel
theorem dX10_byAsking_0 : decode cX10_byAsking 0 = .ok (.aload_n 0, 1) := by decide +kernel
theorem dX10_byAsking_1 : decode cX10_byAsking 1 = .ok (.iload_n 1, 1) := by decide +kernel
theorem dX10_byAsking_2 : decode cX10_byAsking 2 = .ok (.iload 4, 2) := by decide +kernel
theorem dX10_byAsking_4 : decode cX10_byAsking 4 = .ok (.invokestatic 386, 3) := by decide +kernel
theorem dX10_byAsking_7 : decode cX10_byAsking 7 = .ok (.iadd, 1) := by decide +kernel
theorem dX10_byAsking_8 : decode cX10_byAsking 8 = .ok (.lload_n 2, 1) := by decide +kernel
theorem dX10_byAsking_9 : decode cX10_byAsking 9 = .ok (.aload_n 0, 1) := by decide +kernel
theorem dX10_byAsking_10 : decode cX10_byAsking 10 = .ok (.getfield 26, 3) := by decide +kernel
theorem dX10_byAsking_13 : decode cX10_byAsking 13 = .ok (.iload 4, 2) := by decide +kernel
theorem dX10_byAsking_15 : decode cX10_byAsking 15 = .ok (.laload, 1) := by decide +kernel
theorem dX10_byAsking_16 : decode cX10_byAsking 16 = .ok (.land, 1) := by decide +kernel
theorem dX10_byAsking_17 : decode cX10_byAsking 17 = .ok (.invokevirtual 389, 3) := by decide +kernel
theorem dX10_byAsking_20 : decode cX10_byAsking 20 = .ok (.istore 5, 2) := by decide +kernel
theorem dX10_byAsking_22 : decode cX10_byAsking 22 = .ok (.aload_n 0, 1) := by decide +kernel
theorem dX10_byAsking_23 : decode cX10_byAsking 23 = .ok (.iload_n 1, 1) := by decide +kernel
theorem dX10_byAsking_24 : decode cX10_byAsking 24 = .ok (.iconst 2, 1) := by decide +kernel
theorem dX10_byAsking_25 : decode cX10_byAsking 25 = .ok (.iload 4, 2) := by decide +kernel
theorem dX10_byAsking_27 : decode cX10_byAsking 27 = .ok (.invokestatic 386, 3) := by decide +kernel
theorem dX10_byAsking_30 : decode cX10_byAsking 30 = .ok (.imul, 1) := by decide +kernel
theorem dX10_byAsking_31 : decode cX10_byAsking 31 = .ok (.iadd, 1) := by decide +kernel
theorem dX10_byAsking_32 : decode cX10_byAsking 32 = .ok (.lload_n 2, 1) := by decide +kernel
theorem dX10_byAsking_33 : decode cX10_byAsking 33 = .ok (.aload_n 0, 1) := by decide +kernel
theorem dX10_byAsking_34 : decode cX10_byAsking 34 = .ok (.getfield 26, 3) := by decide +kernel
theorem dX10_byAsking_37 : decode cX10_byAsking 37 = .ok (.iload 4, 2) := by decide +kernel
theorem dX10_byAsking_39 : decode cX10_byAsking 39 = .ok (.laload, 1) := by decide +kernel
theorem dX10_byAsking_40 : decode cX10_byAsking 40 = .ok (.ldc2_w 181, 3) := by decide +kernel
theorem dX10_byAsking_43 : decode cX10_byAsking 43 = .ok (.lxor, 1) := by decide +kernel
theorem dX10_byAsking_44 : decode cX10_byAsking 44 = .ok (.land, 1) := by decide +kernel
theorem dX10_byAsking_45 : decode cX10_byAsking 45 = .ok (.invokevirtual 389, 3) := by decide +kernel
theorem dX10_byAsking_48 : decode cX10_byAsking 48 = .ok (.istore 6, 2) := by decide +kernel
theorem dX10_byAsking_50 : decode cX10_byAsking 50 = .ok (.iload 5, 2) := by decide +kernel
theorem dX10_byAsking_52 : decode cX10_byAsking 52 = .ok (.iload 6, 2) := by decide +kernel
theorem dX10_byAsking_54 : decode cX10_byAsking 54 = .ok (.if_icmp .le 8, 3) := by decide +kernel
theorem dX10_byAsking_57 : decode cX10_byAsking 57 = .ok (.iload 5, 2) := by decide +kernel
theorem dX10_byAsking_59 : decode cX10_byAsking 59 = .ok (.goto 5, 3) := by decide +kernel
theorem dX10_byAsking_62 : decode cX10_byAsking 62 = .ok (.iload 6, 2) := by decide +kernel
theorem dX10_byAsking_64 : decode cX10_byAsking 64 = .ok (.istore 7, 2) := by decide +kernel
theorem dX10_byAsking_66 : decode cX10_byAsking 66 = .ok (.iload 7, 2) := by decide +kernel
theorem dX10_byAsking_68 : decode cX10_byAsking 68 = .ok (.ldc_w 377, 3) := by decide +kernel
theorem dX10_byAsking_71 : decode cX10_byAsking 71 = .ok (.if_icmp .lt 9, 3) := by decide +kernel
theorem dX10_byAsking_74 : decode cX10_byAsking 74 = .ok (.ldc_w 377, 3) := by decide +kernel
theorem dX10_byAsking_77 : decode cX10_byAsking 77 = .ok (.goto 7, 3) := by decide +kernel
theorem dX10_byAsking_80 : decode cX10_byAsking 80 = .ok (.iload 7, 2) := by decide +kernel
theorem dX10_byAsking_82 : decode cX10_byAsking 82 = .ok (.iconst 1, 1) := by decide +kernel
theorem dX10_byAsking_83 : decode cX10_byAsking 83 = .ok (.iadd, 1) := by decide +kernel
theorem dX10_byAsking_84 : decode cX10_byAsking 84 = .ok (.ireturn, 1) := by decide +kernel
theorem dX10_meanOf_0 : decode cX10_meanOf 0 = .ok (.lload_n 2, 1) := by decide +kernel
theorem dX10_meanOf_1 : decode cX10_meanOf 1 = .ok (.aload_n 0, 1) := by decide +kernel
theorem dX10_meanOf_2 : decode cX10_meanOf 2 = .ok (.getfield 26, 3) := by decide +kernel
theorem dX10_meanOf_5 : decode cX10_meanOf 5 = .ok (.aload_n 0, 1) := by decide +kernel
theorem dX10_meanOf_6 : decode cX10_meanOf 6 = .ok (.getfield 374, 3) := by decide +kernel
theorem dX10_meanOf_9 : decode cX10_meanOf 9 = .ok (.laload, 1) := by decide +kernel
theorem dX10_meanOf_10 : decode cX10_meanOf 10 = .ok (.invokestatic 329, 3) := by decide +kernel
theorem dX10_meanOf_13 : decode cX10_meanOf 13 = .ok (.bipush (-2), 2) := by decide +kernel
theorem dX10_meanOf_15 : decode cX10_meanOf 15 = .ok (.if_icmp .eq 5, 3) := by decide +kernel
theorem dX10_meanOf_18 : decode cX10_meanOf 18 = .ok (.lconst 0, 1) := by decide +kernel
theorem dX10_meanOf_19 : decode cX10_meanOf 19 = .ok (.lreturn, 1) := by decide +kernel
theorem dX10_meanOf_20 : decode cX10_meanOf 20 = .ok (.aload_n 0, 1) := by decide +kernel
theorem dX10_meanOf_21 : decode cX10_meanOf 21 = .ok (.getfield 45, 3) := by decide +kernel
theorem dX10_meanOf_24 : decode cX10_meanOf 24 = .ok (.iload_n 1, 1) := by decide +kernel
theorem dX10_meanOf_25 : decode cX10_meanOf 25 = .ok (.laload, 1) := by decide +kernel
theorem dX10_meanOf_26 : decode cX10_meanOf 26 = .ok (.lconst 0, 1) := by decide +kernel
theorem dX10_meanOf_27 : decode cX10_meanOf 27 = .ok (.lcmp, 1) := by decide +kernel
theorem dX10_meanOf_28 : decode cX10_meanOf 28 = .ok (.ifCond .lt 10, 3) := by decide +kernel
theorem dX10_meanOf_31 : decode cX10_meanOf 31 = .ok (.aload_n 0, 1) := by decide +kernel
theorem dX10_meanOf_32 : decode cX10_meanOf 32 = .ok (.getfield 45, 3) := by decide +kernel
theorem dX10_meanOf_35 : decode cX10_meanOf 35 = .ok (.iload_n 1, 1) := by decide +kernel
theorem dX10_meanOf_36 : decode cX10_meanOf 36 = .ok (.laload, 1) := by decide +kernel
theorem dX10_meanOf_37 : decode cX10_meanOf 37 = .ok (.lreturn, 1) := by decide +kernel
theorem dX10_meanOf_38 : decode cX10_meanOf 38 = .ok (.ldc2_w 393, 3) := by decide +kernel
theorem dX10_meanOf_41 : decode cX10_meanOf 41 = .ok (.lstore 4, 2) := by decide +kernel
theorem dX10_meanOf_43 : decode cX10_meanOf 43 = .ok (.iconst 0, 1) := by decide +kernel
theorem dX10_meanOf_44 : decode cX10_meanOf 44 = .ok (.istore 6, 2) := by decide +kernel
theorem dX10_meanOf_46 : decode cX10_meanOf 46 = .ok (.iload 6, 2) := by decide +kernel
theorem dX10_meanOf_48 : decode cX10_meanOf 48 = .ok (.aload_n 0, 1) := by decide +kernel
theorem dX10_meanOf_49 : decode cX10_meanOf 49 = .ok (.getfield 20, 3) := by decide +kernel
theorem dX10_meanOf_52 : decode cX10_meanOf 52 = .ok (.iconst 5, 1) := by decide +kernel
theorem dX10_meanOf_53 : decode cX10_meanOf 53 = .ok (.iaload, 1) := by decide +kernel
theorem dX10_meanOf_54 : decode cX10_meanOf 54 = .ok (.if_icmp .ge 94, 3) := by decide +kernel
theorem dX10_meanOf_57 : decode cX10_meanOf 57 = .ok (.aload_n 0, 1) := by decide +kernel
theorem dX10_meanOf_58 : decode cX10_meanOf 58 = .ok (.lload_n 2, 1) := by decide +kernel
theorem dX10_meanOf_59 : decode cX10_meanOf 59 = .ok (.iload 6, 2) := by decide +kernel
theorem dX10_meanOf_61 : decode cX10_meanOf 61 = .ok (.invokevirtual 378, 3) := by decide +kernel
theorem dX10_meanOf_64 : decode cX10_meanOf 64 = .ok (.ifCond .ne 6, 3) := by decide +kernel
theorem dX10_meanOf_67 : decode cX10_meanOf 67 = .ok (.goto 75, 3) := by decide +kernel
theorem dX10_meanOf_70 : decode cX10_meanOf 70 = .ok (.aload_n 0, 1) := by decide +kernel
theorem dX10_meanOf_71 : decode cX10_meanOf 71 = .ok (.lload_n 2, 1) := by decide +kernel
theorem dX10_meanOf_72 : decode cX10_meanOf 72 = .ok (.invokevirtual 301, 3) := by decide +kernel
theorem dX10_meanOf_75 : decode cX10_meanOf 75 = .ok (.aload_n 0, 1) := by decide +kernel
theorem dX10_meanOf_76 : decode cX10_meanOf 76 = .ok (.iload_n 1, 1) := by decide +kernel
theorem dX10_meanOf_77 : decode cX10_meanOf 77 = .ok (.iload 6, 2) := by decide +kernel
theorem dX10_meanOf_79 : decode cX10_meanOf 79 = .ok (.invokestatic 386, 3) := by decide +kernel
theorem dX10_meanOf_82 : decode cX10_meanOf 82 = .ok (.iadd, 1) := by decide +kernel
theorem dX10_meanOf_83 : decode cX10_meanOf 83 = .ok (.lload_n 2, 1) := by decide +kernel
theorem dX10_meanOf_84 : decode cX10_meanOf 84 = .ok (.aload_n 0, 1) := by decide +kernel
