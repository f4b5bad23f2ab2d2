theorem dX10_meanOf_85 : decode cX10_meanOf 85 = .ok (.getfield 26, 3) := by decide +kernel
theorem dX10_meanOf_88 : decode cX10_meanOf 88 = .ok (.iload 6, 2) := by decide +kernel
theorem dX10_meanOf_90 : decode cX10_meanOf 90 = .ok (.laload, 1) := by decide +kernel
theorem dX10_meanOf_91 : decode cX10_meanOf 91 = .ok (.land, 1) := by decide +kernel
theorem dX10_meanOf_92 : decode cX10_meanOf 92 = .ok (.invokevirtual 395, 3) := by decide +kernel
theorem dX10_meanOf_95 : decode cX10_meanOf 95 = .ok (.ladd, 1) := by decide +kernel
theorem dX10_meanOf_96 : decode cX10_meanOf 96 = .ok (.aload_n 0, 1) := by decide +kernel
theorem dX10_meanOf_97 : decode cX10_meanOf 97 = .ok (.iload_n 1, 1) := by decide +kernel
theorem dX10_meanOf_98 : decode cX10_meanOf 98 = .ok (.iconst 2, 1) := by decide +kernel
theorem dX10_meanOf_99 : decode cX10_meanOf 99 = .ok (.iload 6, 2) := by decide +kernel
theorem dX10_meanOf_101 : decode cX10_meanOf 101 = .ok (.invokestatic 386, 3) := by decide +kernel
theorem dX10_meanOf_104 : decode cX10_meanOf 104 = .ok (.imul, 1) := by decide +kernel
theorem dX10_meanOf_105 : decode cX10_meanOf 105 = .ok (.iadd, 1) := by decide +kernel
theorem dX10_meanOf_106 : decode cX10_meanOf 106 = .ok (.lload_n 2, 1) := by decide +kernel
theorem dX10_meanOf_107 : decode cX10_meanOf 107 = .ok (.aload_n 0, 1) := by decide +kernel
theorem dX10_meanOf_108 : decode cX10_meanOf 108 = .ok (.getfield 26, 3) := by decide +kernel
theorem dX10_meanOf_111 : decode cX10_meanOf 111 = .ok (.iload 6, 2) := by decide +kernel
theorem dX10_meanOf_113 : decode cX10_meanOf 113 = .ok (.laload, 1) := by decide +kernel
theorem dX10_meanOf_114 : decode cX10_meanOf 114 = .ok (.ldc2_w 181, 3) := by decide +kernel
theorem dX10_meanOf_117 : decode cX10_meanOf 117 = .ok (.lxor, 1) := by decide +kernel
theorem dX10_meanOf_118 : decode cX10_meanOf 118 = .ok (.land, 1) := by decide +kernel
theorem dX10_meanOf_119 : decode cX10_meanOf 119 = .ok (.invokevirtual 395, 3) := by decide +kernel
theorem dX10_meanOf_122 : decode cX10_meanOf 122 = .ok (.ladd, 1) := by decide +kernel
theorem dX10_meanOf_123 : decode cX10_meanOf 123 = .ok (.lstore 7, 2) := by decide +kernel
theorem dX10_meanOf_125 : decode cX10_meanOf 125 = .ok (.lload 7, 2) := by decide +kernel
theorem dX10_meanOf_127 : decode cX10_meanOf 127 = .ok (.lload 4, 2) := by decide +kernel
theorem dX10_meanOf_129 : decode cX10_meanOf 129 = .ok (.lcmp, 1) := by decide +kernel
theorem dX10_meanOf_130 : decode cX10_meanOf 130 = .ok (.ifCond .ge 8, 3) := by decide +kernel
theorem dX10_meanOf_133 : decode cX10_meanOf 133 = .ok (.lload 7, 2) := by decide +kernel
theorem dX10_meanOf_135 : decode cX10_meanOf 135 = .ok (.goto 5, 3) := by decide +kernel
theorem dX10_meanOf_138 : decode cX10_meanOf 138 = .ok (.lload 4, 2) := by decide +kernel
theorem dX10_meanOf_140 : decode cX10_meanOf 140 = .ok (.lstore 4, 2) := by decide +kernel
theorem dX10_meanOf_142 : decode cX10_meanOf 142 = .ok (.iinc 6 1, 3) := by decide +kernel
theorem dX10_meanOf_145 : decode cX10_meanOf 145 = .ok (.goto (-99), 3) := by decide +kernel
theorem dX10_meanOf_148 : decode cX10_meanOf 148 = .ok (.aload_n 0, 1) := by decide +kernel
theorem dX10_meanOf_149 : decode cX10_meanOf 149 = .ok (.getfield 45, 3) := by decide +kernel
theorem dX10_meanOf_152 : decode cX10_meanOf 152 = .ok (.iload_n 1, 1) := by decide +kernel
theorem dX10_meanOf_153 : decode cX10_meanOf 153 = .ok (.lload 4, 2) := by decide +kernel
theorem dX10_meanOf_155 : decode cX10_meanOf 155 = .ok (.lastore, 1) := by decide +kernel
theorem dX10_meanOf_156 : decode cX10_meanOf 156 = .ok (.lload 4, 2) := by decide +kernel
theorem dX10_meanOf_158 : decode cX10_meanOf 158 = .ok (.lreturn, 1) := by decide +kernel
theorem dX10_isPair_0 : decode cX10_isPair 0 = .ok (.aload_n 0, 1) := by decide +kernel
theorem dX10_isPair_1 : decode cX10_isPair 1 = .ok (.iload_n 1, 1) := by decide +kernel
theorem dX10_isPair_2 : decode cX10_isPair 2 = .ok (.invokevirtual 323, 3) := by decide +kernel
theorem dX10_isPair_5 : decode cX10_isPair 5 = .ok (.ifCond .eq 15, 3) := by decide +kernel
theorem dX10_isPair_8 : decode cX10_isPair 8 = .ok (.aload_n 0, 1) := by decide +kernel
theorem dX10_isPair_9 : decode cX10_isPair 9 = .ok (.iload_n 2, 1) := by decide +kernel
theorem dX10_isPair_10 : decode cX10_isPair 10 = .ok (.invokevirtual 298, 3) := by decide +kernel
theorem dX10_isPair_13 : decode cX10_isPair 13 = .ok (.ifCond .eq 7, 3) := by decide +kernel
theorem dX10_isPair_16 : decode cX10_isPair 16 = .ok (.iconst 1, 1) := by decide +kernel
theorem dX10_isPair_17 : decode cX10_isPair 17 = .ok (.goto 4, 3) := by decide +kernel
theorem dX10_isPair_20 : decode cX10_isPair 20 = .ok (.iconst 0, 1) := by decide +kernel
theorem dX10_isPair_21 : decode cX10_isPair 21 = .ok (.ireturn, 1) := by decide +kernel
theorem dX10_fewest_0 : decode cX10_fewest 0 = .ok (.aload_n 0, 1) := by decide +kernel
theorem dX10_fewest_1 : decode cX10_fewest 1 = .ok (.invokevirtual 199, 3) := by decide +kernel
theorem dX10_fewest_4 : decode cX10_fewest 4 = .ok (.aload_n 0, 1) := by decide +kernel
theorem dX10_fewest_5 : decode cX10_fewest 5 = .ok (.iload_n 1, 1) := by decide +kernel
theorem dX10_fewest_6 : decode cX10_fewest 6 = .ok (.iload_n 2, 1) := by decide +kernel
theorem dX10_fewest_7 : decode cX10_fewest 7 = .ok (.invokevirtual 399, 3) := by decide +kernel
theorem dX10_fewest_10 : decode cX10_fewest 10 = .ok (.ifCond .ne 9, 3) := by decide +kernel
theorem dX10_fewest_13 : decode cX10_fewest 13 = .ok (.aload_n 0, 1) := by decide +kernel
theorem dX10_fewest_14 : decode cX10_fewest 14 = .ok (.iconst 1, 1) := by decide +kernel
theorem dX10_fewest_15 : decode cX10_fewest 15 = .ok (.invokevirtual 202, 3) := by decide +kernel
theorem dX10_fewest_18 : decode cX10_fewest 18 = .ok (.ireturn, 1) := by decide +kernel
theorem dX10_fewest_19 : decode cX10_fewest 19 = .ok (.aload_n 0, 1) := by decide +kernel
theorem dX10_fewest_20 : decode cX10_fewest 20 = .ok (.aload_n 0, 1) := by decide +kernel
theorem dX10_fewest_21 : decode cX10_fewest 21 = .ok (.iload_n 1, 1) := by decide +kernel
theorem dX10_fewest_22 : decode cX10_fewest 22 = .ok (.invokevirtual 333, 3) := by decide +kernel
theorem dX10_fewest_25 : decode cX10_fewest 25 = .ok (.invokevirtual 336, 3) := by decide +kernel
theorem dX10_fewest_28 : decode cX10_fewest 28 = .ok (.lstore_n 3, 1) := by decide +kernel
theorem dX10_fewest_29 : decode cX10_fewest 29 = .ok (.lload_n 3, 1) := by decide +kernel
theorem dX10_fewest_30 : decode cX10_fewest 30 = .ok (.lconst 0, 1) := by decide +kernel
theorem dX10_fewest_31 : decode cX10_fewest 31 = .ok (.lcmp, 1) := by decide +kernel
theorem dX10_fewest_32 : decode cX10_fewest 32 = .ok (.ifCond .ne 6, 3) := by decide +kernel
theorem dX10_fewest_35 : decode cX10_fewest 35 = .ok (.bipush (-2), 2) := by decide +kernel
theorem dX10_fewest_37 : decode cX10_fewest 37 = .ok (.ireturn, 1) := by decide +kernel
theorem dX10_fewest_38 : decode cX10_fewest 38 = .ok (.aload_n 0, 1) := by decide +kernel
theorem dX10_fewest_39 : decode cX10_fewest 39 = .ok (.iload_n 2, 1) := by decide +kernel
theorem dX10_fewest_40 : decode cX10_fewest 40 = .ok (.invokevirtual 402, 3) := by decide +kernel
theorem dX10_fewest_43 : decode cX10_fewest 43 = .ok (.aload_n 0, 1) := by decide +kernel
theorem dX10_fewest_44 : decode cX10_fewest 44 = .ok (.iconst 0, 1) := by decide +kernel
theorem dX10_fewest_45 : decode cX10_fewest 45 = .ok (.lload_n 3, 1) := by decide +kernel
theorem dX10_fewest_46 : decode cX10_fewest 46 = .ok (.invokevirtual 389, 3) := by decide +kernel
theorem dX10_fewest_49 : decode cX10_fewest 49 = .ok (.istore 5, 2) := by decide +kernel
theorem dX10_fewest_51 : decode cX10_fewest 51 = .ok (.iload 5, 2) := by decide +kernel
theorem dX10_fewest_53 : decode cX10_fewest 53 = .ok (.ldc_w 377, 3) := by decide +kernel
theorem dX10_fewest_56 : decode cX10_fewest 56 = .ok (.if_icmp .lt 8, 3) := by decide +kernel
theorem dX10_fewest_59 : decode cX10_fewest 59 = .ok (.bipush (-2), 2) := by decide +kernel
theorem dX10_fewest_61 : decode cX10_fewest 61 = .ok (.goto 5, 3) := by decide +kernel
theorem dX10_fewest_64 : decode cX10_fewest 64 = .ok (.iload 5, 2) := by decide +kernel
theorem dX10_fewest_66 : decode cX10_fewest 66 = .ok (.ireturn, 1) := by decide +kernel
theorem dX10_first_0 : decode cX10_first 0 = .ok (.aload_n 0, 1) := by decide +kernel
theorem dX10_first_1 : decode cX10_first 1 = .ok (.invokevirtual 199, 3) := by decide +kernel
theorem dX10_first_4 : decode cX10_first 4 = .ok (.aload_n 0, 1) := by decide +kernel
theorem dX10_first_5 : decode cX10_first 5 = .ok (.iload_n 1, 1) := by decide +kernel
theorem dX10_first_6 : decode cX10_first 6 = .ok (.iload_n 2, 1) := by decide +kernel
theorem dX10_first_7 : decode cX10_first 7 = .ok (.invokevirtual 399, 3) := by decide +kernel
theorem dX10_first_10 : decode cX10_first 10 = .ok (.ifCond .ne 9, 3) := by decide +kernel
theorem dX10_first_13 : decode cX10_first 13 = .ok (.aload_n 0, 1) := by decide +kernel
theorem dX10_first_14 : decode cX10_first 14 = .ok (.iconst 1, 1) := by decide +kernel
theorem dX10_first_15 : decode cX10_first 15 = .ok (.invokevirtual 202, 3) := by decide +kernel
theorem dX10_first_18 : decode cX10_first 18 = .ok (.ireturn, 1) := by decide +kernel
theorem dX10_first_19 : decode cX10_first 19 = .ok (.aload_n 0, 1) := by decide +kernel
theorem dX10_first_20 : decode cX10_first 20 = .ok (.aload_n 0, 1) := by decide +kernel
theorem dX10_first_21 : decode cX10_first 21 = .ok (.iload_n 1, 1) := by decide +kernel
theorem dX10_first_22 : decode cX10_first 22 = .ok (.invokevirtual 333, 3) := by decide +kernel
theorem dX10_first_25 : decode cX10_first 25 = .ok (.invokevirtual 336, 3) := by decide +kernel
theorem dX10_first_28 : decode cX10_first 28 = .ok (.lstore_n 3, 1) := by decide +kernel
theorem dX10_first_29 : decode cX10_first 29 = .ok (.lload_n 3, 1) := by decide +kernel
theorem dX10_first_30 : decode cX10_first 30 = .ok (.lconst 0, 1) := by decide +kernel
theorem dX10_first_31 : decode cX10_first 31 = .ok (.lcmp, 1) := by decide +kernel
theorem dX10_first_32 : decode cX10_first 32 = .ok (.ifCond .ne 6, 3) := by decide +kernel
theorem dX10_first_35 : decode cX10_first 35 = .ok (.bipush (-2), 2) := by decide +kernel
theorem dX10_first_37 : decode cX10_first 37 = .ok (.ireturn, 1) := by decide +kernel
theorem dX10_first_38 : decode cX10_first 38 = .ok (.aload_n 0, 1) := by decide +kernel
theorem dX10_first_39 : decode cX10_first 39 = .ok (.iload_n 2, 1) := by decide +kernel
theorem dX10_first_40 : decode cX10_first 40 = .ok (.invokevirtual 402, 3) := by decide +kernel
theorem dX10_first_43 : decode cX10_first 43 = .ok (.aload_n 0, 1) := by decide +kernel
theorem dX10_first_44 : decode cX10_first 44 = .ok (.iconst 0, 1) := by decide +kernel
theorem dX10_first_45 : decode cX10_first 45 = .ok (.lload_n 3, 1) := by decide +kernel
theorem dX10_first_46 : decode cX10_first 46 = .ok (.invokevirtual 389, 3) := by decide +kernel
theorem dX10_first_49 : decode cX10_first 49 = .ok (.istore 5, 2) := by decide +kernel
theorem dX10_first_51 : decode cX10_first 51 = .ok (.iconst 0, 1) := by decide +kernel
theorem dX10_first_52 : decode cX10_first 52 = .ok (.istore 6, 2) := by decide +kernel
theorem dX10_first_54 : decode cX10_first 54 = .ok (.iload 6, 2) := by decide +kernel
theorem dX10_first_56 : decode cX10_first 56 = .ok (.aload_n 0, 1) := by decide +kernel
theorem dX10_first_57 : decode cX10_first 57 = .ok (.getfield 20, 3) := by decide +kernel
theorem dX10_first_60 : decode cX10_first 60 = .ok (.iconst 5, 1) := by decide +kernel
theorem dX10_first_61 : decode cX10_first 61 = .ok (.iaload, 1) := by decide +kernel
theorem dX10_first_62 : decode cX10_first 62 = .ok (.if_icmp .ge 48, 3) := by decide +kernel
theorem dX10_first_65 : decode cX10_first 65 = .ok (.iload 5, 2) := by decide +kernel
theorem dX10_first_67 : decode cX10_first 67 = .ok (.ifCond .le 43, 3) := by decide +kernel
theorem dX10_first_70 : decode cX10_first 70 = .ok (.iload 5, 2) := by decide +kernel
theorem dX10_first_72 : decode cX10_first 72 = .ok (.ldc_w 377, 3) := by decide +kernel
theorem dX10_first_75 : decode cX10_first 75 = .ok (.if_icmp .ge 35, 3) := by decide +kernel
theorem dX10_first_78 : decode cX10_first 78 = .ok (.aload_n 0, 1) := by decide +kernel
theorem dX10_first_79 : decode cX10_first 79 = .ok (.lload_n 3, 1) := by decide +kernel
theorem dX10_first_80 : decode cX10_first 80 = .ok (.iload 6, 2) := by decide +kernel
theorem dX10_first_82 : decode cX10_first 82 = .ok (.invokevirtual 378, 3) := by decide +kernel
theorem dX10_first_85 : decode cX10_first 85 = .ok (.ifCond .eq 19, 3) := by decide +kernel
theorem dX10_first_88 : decode cX10_first 88 = .ok (.aload_n 0, 1) := by decide +kernel
theorem dX10_first_89 : decode cX10_first 89 = .ok (.iconst 0, 1) := by decide +kernel
theorem dX10_first_90 : decode cX10_first 90 = .ok (.lload_n 3, 1) := by decide +kernel
theorem dX10_first_91 : decode cX10_first 91 = .ok (.iload 6, 2) := by decide +kernel
theorem dX10_first_93 : decode cX10_first 93 = .ok (.invokevirtual 382, 3) := by decide +kernel
theorem dX10_first_96 : decode cX10_first 96 = .ok (.iload 5, 2) := by decide +kernel
theorem dX10_first_98 : decode cX10_first 98 = .ok (.if_icmp .ne 6, 3) := by decide +kernel
theorem dX10_first_101 : decode cX10_first 101 = .ok (.iload 6, 2) := by decide +kernel
theorem dX10_first_103 : decode cX10_first 103 = .ok (.ireturn, 1) := by decide +kernel
theorem dX10_first_104 : decode cX10_first 104 = .ok (.iinc 6 1, 3) := by decide +kernel
theorem dX10_first_107 : decode cX10_first 107 = .ok (.goto (-53), 3) := by decide +kernel
theorem dX10_first_110 : decode cX10_first 110 = .ok (.bipush (-2), 2) := by decide +kernel
theorem dX10_first_112 : decode cX10_first 112 = .ok (.ireturn, 1) := by decide +kernel
theorem dX10_mean_0 : decode cX10_mean 0 = .ok (.aload_n 0, 1) := by decide +kernel
theorem dX10_mean_1 : decode cX10_mean 1 = .ok (.invokevirtual 199, 3) := by decide +kernel
theorem dX10_mean_4 : decode cX10_mean 4 = .ok (.aload_n 0, 1) := by decide +kernel
theorem dX10_mean_5 : decode cX10_mean 5 = .ok (.iload_n 1, 1) := by decide +kernel
theorem dX10_mean_6 : decode cX10_mean 6 = .ok (.iload_n 2, 1) := by decide +kernel
theorem dX10_mean_7 : decode cX10_mean 7 = .ok (.invokevirtual 399, 3) := by decide +kernel
theorem dX10_mean_10 : decode cX10_mean 10 = .ok (.ifCond .ne 10, 3) := by decide +kernel
theorem dX10_mean_13 : decode cX10_mean 13 = .ok (.aload_n 0, 1) := by decide +kernel
theorem dX10_mean_14 : decode cX10_mean 14 = .ok (.iconst 1, 1) := by decide +kernel
theorem dX10_mean_15 : decode cX10_mean 15 = .ok (.invokevirtual 202, 3) := by decide +kernel
theorem dX10_mean_18 : decode cX10_mean 18 = .ok (.i2l, 1) := by decide +kernel
theorem dX10_mean_19 : decode cX10_mean 19 = .ok (.lreturn, 1) := by decide +kernel
theorem dX10_mean_20 : decode cX10_mean 20 = .ok (.aload_n 0, 1) := by decide +kernel
theorem dX10_mean_21 : decode cX10_mean 21 = .ok (.aload_n 0, 1) := by decide +kernel
theorem dX10_mean_22 : decode cX10_mean 22 = .ok (.iload_n 1, 1) := by decide +kernel
theorem dX10_mean_23 : decode cX10_mean 23 = .ok (.invokevirtual 333, 3) := by decide +kernel
theorem dX10_mean_26 : decode cX10_mean 26 = .ok (.invokevirtual 336, 3) := by decide +kernel
theorem dX10_mean_29 : decode cX10_mean 29 = .ok (.lstore 4, 2) := by decide +kernel
theorem dX10_mean_31 : decode cX10_mean 31 = .ok (.lload 4, 2) := by decide +kernel
theorem dX10_mean_33 : decode cX10_mean 33 = .ok (.lconst 0, 1) := by decide +kernel
theorem dX10_mean_34 : decode cX10_mean 34 = .ok (.lcmp, 1) := by decide +kernel
theorem dX10_mean_35 : decode cX10_mean 35 = .ok (.ifCond .ne 11, 3) := by decide +kernel
theorem dX10_mean_38 : decode cX10_mean 38 = .ok (.aload_n 0, 1) := by decide +kernel
theorem dX10_mean_39 : decode cX10_mean 39 = .ok (.bipush 6, 2) := by decide +kernel
theorem dX10_mean_41 : decode cX10_mean 41 = .ok (.invokevirtual 202, 3) := by decide +kernel
theorem dX10_mean_44 : decode cX10_mean 44 = .ok (.i2l, 1) := by decide +kernel
theorem dX10_mean_45 : decode cX10_mean 45 = .ok (.lreturn, 1) := by decide +kernel
theorem dX10_mean_46 : decode cX10_mean 46 = .ok (.aload_n 0, 1) := by decide +kernel
theorem dX10_mean_47 : decode cX10_mean 47 = .ok (.iload_n 2, 1) := by decide +kernel
theorem dX10_mean_48 : decode cX10_mean 48 = .ok (.invokevirtual 402, 3) := by decide +kernel
theorem dX10_mean_51 : decode cX10_mean 51 = .ok (.aload_n 0, 1) := by decide +kernel
theorem dX10_mean_52 : decode cX10_mean 52 = .ok (.iconst 0, 1) := by decide +kernel
theorem dX10_mean_53 : decode cX10_mean 53 = .ok (.lload 4, 2) := by decide +kernel
theorem dX10_mean_55 : decode cX10_mean 55 = .ok (.invokevirtual 395, 3) := by decide +kernel
theorem dX10_mean_58 : decode cX10_mean 58 = .ok (.lstore 6, 2) := by decide +kernel
theorem dX10_mean_60 : decode cX10_mean 60 = .ok (.lload 6, 2) := by decide +kernel
theorem dX10_mean_62 : decode cX10_mean 62 = .ok (.ldc2_w 393, 3) := by decide +kernel
theorem dX10_mean_65 : decode cX10_mean 65 = .ok (.lcmp, 1) := by decide +kernel
theorem dX10_mean_66 : decode cX10_mean 66 = .ok (.ifCond .lt 13, 3) := by decide +kernel
theorem dX10_mean_69 : decode cX10_mean 69 = .ok (.aload_n 0, 1) := by decide +kernel
theorem dX10_mean_70 : decode cX10_mean 70 = .ok (.bipush 6, 2) := by decide +kernel
theorem dX10_mean_72 : decode cX10_mean 72 = .ok (.invokevirtual 202, 3) := by decide +kernel
theorem dX10_mean_75 : decode cX10_mean 75 = .ok (.i2l, 1) := by decide +kernel
theorem dX10_mean_76 : decode cX10_mean 76 = .ok (.goto 15, 3) := by decide +kernel
theorem dX10_mean_79 : decode cX10_mean 79 = .ok (.lload 6, 2) := by decide +kernel
theorem dX10_mean_81 : decode cX10_mean 81 = .ok (.aload_n 0, 1) := by decide +kernel
theorem dX10_mean_82 : decode cX10_mean 82 = .ok (.lload 4, 2) := by decide +kernel
theorem dX10_mean_84 : decode cX10_mean 84 = .ok (.invokevirtual 301, 3) := by decide +kernel
theorem dX10_mean_87 : decode cX10_mean 87 = .ok (.iload_n 3, 1) := by decide +kernel
theorem dX10_mean_88 : decode cX10_mean 88 = .ok (.invokestatic 305, 3) := by decide +kernel
theorem dX10_mean_91 : decode cX10_mean 91 = .ok (.lreturn, 1) := by decide +kernel
theorem dX10_askIn_0 : decode cX10_askIn 0 = .ok (.iconst 0, 1) := by decide +kernel
theorem dX10_askIn_1 : decode cX10_askIn 1 = .ok (.istore_n 3, 1) := by decide +kernel
theorem dX10_askIn_2 : decode cX10_askIn 2 = .ok (.iload_n 3, 1) := by decide +kernel
theorem dX10_askIn_3 : decode cX10_askIn 3 = .ok (.aload_n 0, 1) := by decide +kernel
theorem dX10_askIn_4 : decode cX10_askIn 4 = .ok (.getfield 20, 3) := by decide +kernel
theorem dX10_askIn_7 : decode cX10_askIn 7 = .ok (.iconst 4, 1) := by decide +kernel
theorem dX10_askIn_8 : decode cX10_askIn 8 = .ok (.iaload, 1) := by decide +kernel
theorem dX10_askIn_9 : decode cX10_askIn 9 = .ok (.if_icmp .ge 43, 3) := by decide +kernel
theorem dX10_askIn_12 : decode cX10_askIn 12 = .ok (.aload_n 0, 1) := by decide +kernel
theorem dX10_askIn_13 : decode cX10_askIn 13 = .ok (.getfield 20, 3) := by decide +kernel
theorem dX10_askIn_16 : decode cX10_askIn 16 = .ok (.bipush 41, 2) := by decide +kernel
theorem dX10_askIn_18 : decode cX10_askIn 18 = .ok (.iconst 2, 1) := by decide +kernel
theorem dX10_askIn_19 : decode cX10_askIn 19 = .ok (.iload_n 3, 1) := by decide +kernel
theorem dX10_askIn_20 : decode cX10_askIn 20 = .ok (.imul, 1) := by decide +kernel
theorem dX10_askIn_21 : decode cX10_askIn 21 = .ok (.iadd, 1) := by decide +kernel
theorem dX10_askIn_22 : decode cX10_askIn 22 = .ok (.iaload, 1) := by decide +kernel
theorem dX10_askIn_23 : decode cX10_askIn 23 = .ok (.iload_n 1, 1) := by decide +kernel
theorem dX10_askIn_24 : decode cX10_askIn 24 = .ok (.if_icmp .ne 22, 3) := by decide +kernel
theorem dX10_askIn_27 : decode cX10_askIn 27 = .ok (.aload_n 0, 1) := by decide +kernel
theorem dX10_askIn_28 : decode cX10_askIn 28 = .ok (.getfield 20, 3) := by decide +kernel
theorem dX10_askIn_31 : decode cX10_askIn 31 = .ok (.bipush 41, 2) := by decide +kernel
theorem dX10_askIn_33 : decode cX10_askIn 33 = .ok (.iconst 2, 1) := by decide +kernel
theorem dX10_askIn_34 : decode cX10_askIn 34 = .ok (.iload_n 3, 1) := by decide +kernel
theorem dX10_askIn_35 : decode cX10_askIn 35 = .ok (.imul, 1) := by decide +kernel
theorem dX10_askIn_36 : decode cX10_askIn 36 = .ok (.iadd, 1) := by decide +kernel
theorem dX10_askIn_37 : decode cX10_askIn 37 = .ok (.iconst 1, 1) := by decide +kernel
theorem dX10_askIn_38 : decode cX10_askIn 38 = .ok (.iadd, 1) := by decide +kernel
theorem dX10_askIn_39 : decode cX10_askIn 39 = .ok (.iaload, 1) := by decide +kernel
theorem dX10_askIn_40 : decode cX10_askIn 40 = .ok (.iload_n 2, 1) := by decide +kernel
theorem dX10_askIn_41 : decode cX10_askIn 41 = .ok (.if_icmp .ne 5, 3) := by decide +kernel
theorem dX10_askIn_44 : decode cX10_askIn 44 = .ok (.iconst 2, 1) := by decide +kernel
theorem dX10_askIn_45 : decode cX10_askIn 45 = .ok (.ireturn, 1) := by decide +kernel
theorem dX10_askIn_46 : decode cX10_askIn 46 = .ok (.iinc 3 1, 3) := by decide +kernel
theorem dX10_askIn_49 : decode cX10_askIn 49 = .ok (.goto (-47), 3) := by decide +kernel
theorem dX10_askIn_52 : decode cX10_askIn 52 = .ok (.iconst 1, 1) := by decide +kernel
theorem dX10_askIn_53 : decode cX10_askIn 53 = .ok (.ireturn, 1) := by decide +kernel
theorem dX10_yearOf_0 : decode cX10_yearOf 0 = .ok (.bipush 17, 2) := by decide +kernel
theorem dX10_yearOf_2 : decode cX10_yearOf 2 = .ok (.iconst 4, 1) := by decide +kernel
theorem dX10_yearOf_3 : decode cX10_yearOf 3 = .ok (.iload_n 1, 1) := by decide +kernel
theorem dX10_yearOf_4 : decode cX10_yearOf 4 = .ok (.imul, 1) := by decide +kernel
theorem dX10_yearOf_5 : decode cX10_yearOf 5 = .ok (.iadd, 1) := by decide +kernel
theorem dX10_yearOf_6 : decode cX10_yearOf 6 = .ok (.istore_n 3, 1) := by decide +kernel
theorem dX10_yearOf_7 : decode cX10_yearOf 7 = .ok (.aload_n 0, 1) := by decide +kernel
theorem dX10_yearOf_8 : decode cX10_yearOf 8 = .ok (.getfield 20, 3) := by decide +kernel
theorem dX10_yearOf_11 : decode cX10_yearOf 11 = .ok (.iload_n 3, 1) := by decide +kernel
theorem dX10_yearOf_12 : decode cX10_yearOf 12 = .ok (.iaload, 1) := by decide +kernel
theorem dX10_yearOf_13 : decode cX10_yearOf 13 = .ok (.aload_n 0, 1) := by decide +kernel
theorem dX10_yearOf_14 : decode cX10_yearOf 14 = .ok (.getfield 20, 3) := by decide +kernel
theorem dX10_yearOf_17 : decode cX10_yearOf 17 = .ok (.iload_n 3, 1) := by decide +kernel
theorem dX10_yearOf_18 : decode cX10_yearOf 18 = .ok (.iconst 1, 1) := by decide +kernel
theorem dX10_yearOf_19 : decode cX10_yearOf 19 = .ok (.iadd, 1) := by decide +kernel
theorem dX10_yearOf_20 : decode cX10_yearOf 20 = .ok (.iaload, 1) := by decide +kernel
theorem dX10_yearOf_21 : decode cX10_yearOf 21 = .ok (.iload_n 2, 1) := by decide +kernel
theorem dX10_yearOf_22 : decode cX10_yearOf 22 = .ok (.imul, 1) := by decide +kernel
theorem dX10_yearOf_23 : decode cX10_yearOf 23 = .ok (.iadd, 1) := by decide +kernel
theorem dX10_yearOf_24 : decode cX10_yearOf 24 = .ok (.istore 4, 2) := by decide +kernel
theorem dX10_yearOf_26 : decode cX10_yearOf 26 = .ok (.aload_n 0, 1) := by decide +kernel
theorem dX10_yearOf_27 : decode cX10_yearOf 27 = .ok (.getfield 20, 3) := by decide +kernel
theorem dX10_yearOf_30 : decode cX10_yearOf 30 = .ok (.iload_n 3, 1) := by decide +kernel
theorem dX10_yearOf_31 : decode cX10_yearOf 31 = .ok (.iconst 3, 1) := by decide +kernel
theorem dX10_yearOf_32 : decode cX10_yearOf 32 = .ok (.iadd, 1) := by decide +kernel
theorem dX10_yearOf_33 : decode cX10_yearOf 33 = .ok (.iaload, 1) := by decide +kernel
theorem dX10_yearOf_34 : decode cX10_yearOf 34 = .ok (.ifCond .le 23, 3) := by decide +kernel
theorem dX10_yearOf_37 : decode cX10_yearOf 37 = .ok (.iload 4, 2) := by decide +kernel
theorem dX10_yearOf_39 : decode cX10_yearOf 39 = .ok (.aload_n 0, 1) := by decide +kernel
theorem dX10_yearOf_40 : decode cX10_yearOf 40 = .ok (.getfield 20, 3) := by decide +kernel
theorem dX10_yearOf_43 : decode cX10_yearOf 43 = .ok (.iload_n 3, 1) := by decide +kernel
theorem dX10_yearOf_44 : decode cX10_yearOf 44 = .ok (.iconst 3, 1) := by decide +kernel
theorem dX10_yearOf_45 : decode cX10_yearOf 45 = .ok (.iadd, 1) := by decide +kernel
theorem dX10_yearOf_46 : decode cX10_yearOf 46 = .ok (.iaload, 1) := by decide +kernel
theorem dX10_yearOf_47 : decode cX10_yearOf 47 = .ok (.iconst 1, 1) := by decide +kernel
theorem dX10_yearOf_48 : decode cX10_yearOf 48 = .ok (.isub, 1) := by decide +kernel
theorem dX10_yearOf_49 : decode cX10_yearOf 49 = .ok (.if_icmp .lt 8, 3) := by decide +kernel
theorem dX10_yearOf_52 : decode cX10_yearOf 52 = .ok (.bipush (-2), 2) := by decide +kernel
theorem dX10_yearOf_54 : decode cX10_yearOf 54 = .ok (.goto 5, 3) := by decide +kernel
theorem dX10_yearOf_57 : decode cX10_yearOf 57 = .ok (.iload 4, 2) := by decide +kernel
theorem dX10_yearOf_59 : decode cX10_yearOf 59 = .ok (.ireturn, 1) := by decide +kernel
theorem dX10_asking_0 : decode cX10_asking 0 = .ok (.aload_n 0, 1) := by decide +kernel
theorem dX10_asking_1 : decode cX10_asking 1 = .ok (.invokevirtual 199, 3) := by decide +kernel
theorem dX10_asking_4 : decode cX10_asking 4 = .ok (.aload_n 0, 1) := by decide +kernel
theorem dX10_asking_5 : decode cX10_asking 5 = .ok (.iload_n 1, 1) := by decide +kernel
theorem dX10_asking_6 : decode cX10_asking 6 = .ok (.invokevirtual 323, 3) := by decide +kernel
theorem dX10_asking_9 : decode cX10_asking 9 = .ok (.ifCond .ne 9, 3) := by decide +kernel
theorem dX10_asking_12 : decode cX10_asking 12 = .ok (.aload_n 0, 1) := by decide +kernel
theorem dX10_asking_13 : decode cX10_asking 13 = .ok (.iconst 1, 1) := by decide +kernel
theorem dX10_asking_14 : decode cX10_asking 14 = .ok (.invokevirtual 202, 3) := by decide +kernel
theorem dX10_asking_17 : decode cX10_asking 17 = .ok (.ireturn, 1) := by decide +kernel
theorem dX10_asking_18 : decode cX10_asking 18 = .ok (.iload_n 2, 1) := by decide +kernel
theorem dX10_asking_19 : decode cX10_asking 19 = .ok (.iconst 0, 1) := by decide +kernel
theorem dX10_asking_20 : decode cX10_asking 20 = .ok (.bipush 99, 2) := by decide +kernel
theorem dX10_asking_22 : decode cX10_asking 22 = .ok (.invokestatic 156, 3) := by decide +kernel
theorem dX10_asking_25 : decode cX10_asking 25 = .ok (.ifCond .ne 9, 3) := by decide +kernel
theorem dX10_asking_28 : decode cX10_asking 28 = .ok (.aload_n 0, 1) := by decide +kernel
theorem dX10_asking_29 : decode cX10_asking 29 = .ok (.iconst 2, 1) := by decide +kernel
theorem dX10_asking_30 : decode cX10_asking 30 = .ok (.invokevirtual 202, 3) := by decide +kernel
theorem dX10_asking_33 : decode cX10_asking 33 = .ok (.ireturn, 1) := by decide +kernel
theorem dX10_asking_34 : decode cX10_asking 34 = .ok (.iload_n 2, 1) := by decide +kernel
theorem dX10_asking_35 : decode cX10_asking 35 = .ok (.istore_n 3, 1) := by decide +kernel
theorem dX10_asking_36 : decode cX10_asking 36 = .ok (.iconst 0, 1) := by decide +kernel
theorem dX10_asking_37 : decode cX10_asking 37 = .ok (.istore 4, 2) := by decide +kernel
theorem dX10_asking_39 : decode cX10_asking 39 = .ok (.iload_n 3, 1) := by decide +kernel
theorem dX10_asking_40 : decode cX10_asking 40 = .ok (.aload_n 0, 1) := by decide +kernel
theorem dX10_asking_41 : decode cX10_asking 41 = .ok (.iload_n 1, 1) := by decide +kernel
theorem dX10_asking_42 : decode cX10_asking 42 = .ok (.iload 4, 2) := by decide +kernel
theorem dX10_asking_44 : decode cX10_asking 44 = .ok (.invokevirtual 405, 3) := by decide +kernel
theorem dX10_asking_47 : decode cX10_asking 47 = .ok (.if_icmp .lt 19, 3) := by decide +kernel
theorem dX10_asking_50 : decode cX10_asking 50 = .ok (.iload_n 3, 1) := by decide +kernel
theorem dX10_asking_51 : decode cX10_asking 51 = .ok (.aload_n 0, 1) := by decide +kernel
theorem dX10_asking_52 : decode cX10_asking 52 = .ok (.iload_n 1, 1) := by decide +kernel
theorem dX10_asking_53 : decode cX10_asking 53 = .ok (.iload 4, 2) := by decide +kernel
theorem dX10_asking_55 : decode cX10_asking 55 = .ok (.invokevirtual 405, 3) := by decide +kernel
theorem dX10_asking_58 : decode cX10_asking 58 = .ok (.isub, 1) := by decide +kernel
theorem dX10_asking_59 : decode cX10_asking 59 = .ok (.istore_n 3, 1) := by decide +kernel
theorem dX10_asking_60 : decode cX10_asking 60 = .ok (.iinc 4 1, 3) := by decide +kernel
theorem dX10_asking_63 : decode cX10_asking 63 = .ok (.goto (-24), 3) := by decide +kernel
theorem dX10_asking_66 : decode cX10_asking 66 = .ok (.aload_n 0, 1) := by decide +kernel
theorem dX10_asking_67 : decode cX10_asking 67 = .ok (.iload_n 1, 1) := by decide +kernel
theorem dX10_asking_68 : decode cX10_asking 68 = .ok (.iload 4, 2) := by decide +kernel
theorem dX10_asking_70 : decode cX10_asking 70 = .ok (.invokevirtual 408, 3) := by decide +kernel
theorem dX10_asking_73 : decode cX10_asking 73 = .ok (.ireturn, 1) := by decide +kernel
theorem dX10_next_0 : decode cX10_next 0 = .ok (.aload_n 0, 1) := by decide +kernel
theorem dX10_next_1 : decode cX10_next 1 = .ok (.invokevirtual 199, 3) := by decide +kernel
theorem dX10_next_4 : decode cX10_next 4 = .ok (.aload_n 0, 1) := by decide +kernel
theorem dX10_next_5 : decode cX10_next 5 = .ok (.iload_n 1, 1) := by decide +kernel
theorem dX10_next_6 : decode cX10_next 6 = .ok (.invokevirtual 323, 3) := by decide +kernel
theorem dX10_next_9 : decode cX10_next 9 = .ok (.ifCond .ne 9, 3) := by decide +kernel
theorem dX10_next_12 : decode cX10_next 12 = .ok (.aload_n 0, 1) := by decide +kernel
theorem dX10_next_13 : decode cX10_next 13 = .ok (.iconst 1, 1) := by decide +kernel
theorem dX10_next_14 : decode cX10_next 14 = .ok (.invokevirtual 202, 3) := by decide +kernel
theorem dX10_next_17 : decode cX10_next 17 = .ok (.ireturn, 1) := by decide +kernel
theorem dX10_next_18 : decode cX10_next 18 = .ok (.iconst 0, 1) := by decide +kernel
theorem dX10_next_19 : decode cX10_next 19 = .ok (.istore_n 2, 1) := by decide +kernel
theorem dX10_next_20 : decode cX10_next 20 = .ok (.aload_n 0, 1) := by decide +kernel
theorem dX10_next_21 : decode cX10_next 21 = .ok (.iload_n 1, 1) := by decide +kernel
theorem dX10_next_22 : decode cX10_next 22 = .ok (.iload_n 2, 1) := by decide +kernel
theorem dX10_next_23 : decode cX10_next 23 = .ok (.invokevirtual 408, 3) := by decide +kernel
theorem dX10_next_26 : decode cX10_next 26 = .ok (.bipush (-2), 2) := by decide +kernel
theorem dX10_next_28 : decode cX10_next 28 = .ok (.if_icmp .eq 24, 3) := by decide +kernel
theorem dX10_next_31 : decode cX10_next 31 = .ok (.aload_n 0, 1) := by decide +kernel
theorem dX10_next_32 : decode cX10_next 32 = .ok (.iload_n 1, 1) := by decide +kernel
theorem dX10_next_33 : decode cX10_next 33 = .ok (.iload_n 2, 1) := by decide +kernel
theorem dX10_next_34 : decode cX10_next 34 = .ok (.invokevirtual 408, 3) := by decide +kernel
theorem dX10_next_37 : decode cX10_next 37 = .ok (.aload_n 0, 1) := by decide +kernel
theorem dX10_next_38 : decode cX10_next 38 = .ok (.getfield 33, 3) := by decide +kernel
theorem dX10_next_41 : decode cX10_next 41 = .ok (.iconst 0, 1) := by decide +kernel
theorem dX10_next_42 : decode cX10_next 42 = .ok (.iaload, 1) := by decide +kernel
theorem dX10_next_43 : decode cX10_next 43 = .ok (.if_icmp .ge 9, 3) := by decide +kernel
theorem dX10_next_46 : decode cX10_next 46 = .ok (.iinc 2 1, 3) := by decide +kernel
theorem dX10_next_49 : decode cX10_next 49 = .ok (.goto (-29), 3) := by decide +kernel
theorem dX10_next_52 : decode cX10_next 52 = .ok (.aload_n 0, 1) := by decide +kernel
theorem dX10_next_53 : decode cX10_next 53 = .ok (.iload_n 1, 1) := by decide +kernel
theorem dX10_next_54 : decode cX10_next 54 = .ok (.iload_n 2, 1) := by decide +kernel
theorem dX10_next_55 : decode cX10_next 55 = .ok (.invokevirtual 408, 3) := by decide +kernel
theorem dX10_next_58 : decode cX10_next 58 = .ok (.ireturn, 1) := by decide +kernel
theorem dX10_turnOf_0 : decode cX10_turnOf 0 = .ok (.aload_n 0, 1) := by decide +kernel
theorem dX10_turnOf_1 : decode cX10_turnOf 1 = .ok (.invokevirtual 199, 3) := by decide +kernel
theorem dX10_turnOf_4 : decode cX10_turnOf 4 = .ok (.aload_n 0, 1) := by decide +kernel
theorem dX10_turnOf_5 : decode cX10_turnOf 5 = .ok (.getfield 212, 3) := by decide +kernel
theorem dX10_turnOf_8 : decode cX10_turnOf 8 = .ok (.ifCond .ne 9, 3) := by decide +kernel
theorem dX10_turnOf_11 : decode cX10_turnOf 11 = .ok (.aload_n 0, 1) := by decide +kernel
theorem dX10_turnOf_12 : decode cX10_turnOf 12 = .ok (.iconst 1, 1) := by decide +kernel
theorem dX10_turnOf_13 : decode cX10_turnOf 13 = .ok (.invokevirtual 202, 3) := by decide +kernel
theorem dX10_turnOf_16 : decode cX10_turnOf 16 = .ok (.ireturn, 1) := by decide +kernel
theorem dX10_turnOf_17 : decode cX10_turnOf 17 = .ok (.iload_n 1, 1) := by decide +kernel
theorem dX10_turnOf_18 : decode cX10_turnOf 18 = .ok (.iconst 0, 1) := by decide +kernel
theorem dX10_turnOf_19 : decode cX10_turnOf 19 = .ok (.bipush 99, 2) := by decide +kernel
theorem dX10_turnOf_21 : decode cX10_turnOf 21 = .ok (.invokestatic 156, 3) := by decide +kernel
theorem dX10_turnOf_24 : decode cX10_turnOf 24 = .ok (.ifCond .ne 9, 3) := by decide +kernel
theorem dX10_turnOf_27 : decode cX10_turnOf 27 = .ok (.aload_n 0, 1) := by decide +kernel
theorem dX10_turnOf_28 : decode cX10_turnOf 28 = .ok (.iconst 2, 1) := by decide +kernel
theorem dX10_turnOf_29 : decode cX10_turnOf 29 = .ok (.invokevirtual 202, 3) := by decide +kernel
theorem dX10_turnOf_32 : decode cX10_turnOf 32 = .ok (.ireturn, 1) := by decide +kernel
theorem dX10_turnOf_33 : decode cX10_turnOf 33 = .ok (.iconst 0, 1) := by decide +kernel
theorem dX10_turnOf_34 : decode cX10_turnOf 34 = .ok (.istore_n 2, 1) := by decide +kernel
theorem dX10_turnOf_35 : decode cX10_turnOf 35 = .ok (.iload_n 2, 1) := by decide +kernel
theorem dX10_turnOf_36 : decode cX10_turnOf 36 = .ok (.bipush 6, 2) := by decide +kernel
theorem dX10_turnOf_38 : decode cX10_turnOf 38 = .ok (.if_icmp .ge 16, 3) := by decide +kernel
theorem dX10_turnOf_41 : decode cX10_turnOf 41 = .ok (.aload_n 0, 1) := by decide +kernel
theorem dX10_turnOf_42 : decode cX10_turnOf 42 = .ok (.getfield 48, 3) := by decide +kernel
theorem dX10_turnOf_45 : decode cX10_turnOf 45 = .ok (.iload_n 2, 1) := by decide +kernel
theorem dX10_turnOf_46 : decode cX10_turnOf 46 = .ok (.iconst 0, 1) := by decide +kernel
theorem dX10_turnOf_47 : decode cX10_turnOf 47 = .ok (.iastore, 1) := by decide +kernel
theorem dX10_turnOf_48 : decode cX10_turnOf 48 = .ok (.iinc 2 1, 3) := by decide +kernel
theorem dX10_turnOf_51 : decode cX10_turnOf 51 = .ok (.goto (-16), 3) := by decide +kernel
theorem dX10_turnOf_54 : decode cX10_turnOf 54 = .ok (.iload_n 1, 1) := by decide +kernel
theorem dX10_turnOf_55 : decode cX10_turnOf 55 = .ok (.istore_n 2, 1) := by decide +kernel
theorem dX10_turnOf_56 : decode cX10_turnOf 56 = .ok (.iconst (-1), 1) := by decide +kernel
theorem dX10_turnOf_57 : decode cX10_turnOf 57 = .ok (.istore_n 3, 1) := by decide +kernel
theorem dX10_turnOf_58 : decode cX10_turnOf 58 = .ok (.iconst 0, 1) := by decide +kernel
theorem dX10_turnOf_59 : decode cX10_turnOf 59 = .ok (.istore 4, 2) := by decide +kernel
theorem dX10_turnOf_61 : decode cX10_turnOf 61 = .ok (.iload 4, 2) := by decide +kernel
theorem dX10_turnOf_63 : decode cX10_turnOf 63 = .ok (.aload_n 0, 1) := by decide +kernel
theorem dX10_turnOf_64 : decode cX10_turnOf 64 = .ok (.getfield 20, 3) := by decide +kernel
theorem dX10_turnOf_67 : decode cX10_turnOf 67 = .ok (.iconst 3, 1) := by decide +kernel
theorem dX10_turnOf_68 : decode cX10_turnOf 68 = .ok (.iaload, 1) := by decide +kernel
theorem dX10_turnOf_69 : decode cX10_turnOf 69 = .ok (.if_icmp .ge 61, 3) := by decide +kernel
theorem dX10_turnOf_72 : decode cX10_turnOf 72 = .ok (.aload_n 0, 1) := by decide +kernel
theorem dX10_turnOf_73 : decode cX10_turnOf 73 = .ok (.iload 4, 2) := by decide +kernel
theorem dX10_turnOf_75 : decode cX10_turnOf 75 = .ok (.aload_n 0, 1) := by decide +kernel
theorem dX10_turnOf_76 : decode cX10_turnOf 76 = .ok (.getfield 48, 3) := by decide +kernel
theorem dX10_turnOf_79 : decode cX10_turnOf 79 = .ok (.iload 4, 2) := by decide +kernel
theorem dX10_turnOf_81 : decode cX10_turnOf 81 = .ok (.iaload, 1) := by decide +kernel
theorem dX10_turnOf_82 : decode cX10_turnOf 82 = .ok (.invokevirtual 408, 3) := by decide +kernel
theorem dX10_turnOf_85 : decode cX10_turnOf 85 = .ok (.bipush (-2), 2) := by decide +kernel
theorem dX10_turnOf_87 : decode cX10_turnOf 87 = .ok (.if_icmp .eq 37, 3) := by decide +kernel
theorem dX10_turnOf_90 : decode cX10_turnOf 90 = .ok (.iload_n 3, 1) := by decide +kernel
theorem dX10_turnOf_91 : decode cX10_turnOf 91 = .ok (.ifCond .lt 30, 3) := by decide +kernel
theorem dX10_turnOf_94 : decode cX10_turnOf 94 = .ok (.aload_n 0, 1) := by decide +kernel
theorem dX10_turnOf_95 : decode cX10_turnOf 95 = .ok (.iload 4, 2) := by decide +kernel
theorem dX10_turnOf_97 : decode cX10_turnOf 97 = .ok (.aload_n 0, 1) := by decide +kernel
theorem dX10_turnOf_98 : decode cX10_turnOf 98 = .ok (.getfield 48, 3) := by decide +kernel
theorem dX10_turnOf_101 : decode cX10_turnOf 101 = .ok (.iload 4, 2) := by decide +kernel
theorem dX10_turnOf_103 : decode cX10_turnOf 103 = .ok (.iaload, 1) := by decide +kernel
theorem dX10_turnOf_104 : decode cX10_turnOf 104 = .ok (.invokevirtual 408, 3) := by decide +kernel
theorem dX10_turnOf_107 : decode cX10_turnOf 107 = .ok (.aload_n 0, 1) := by decide +kernel
theorem dX10_turnOf_108 : decode cX10_turnOf 108 = .ok (.iload_n 3, 1) := by decide +kernel
theorem dX10_turnOf_109 : decode cX10_turnOf 109 = .ok (.aload_n 0, 1) := by decide +kernel
theorem dX10_turnOf_110 : decode cX10_turnOf 110 = .ok (.getfield 48, 3) := by decide +kernel
theorem dX10_turnOf_113 : decode cX10_turnOf 113 = .ok (.iload_n 3, 1) := by decide +kernel
theorem dX10_turnOf_114 : decode cX10_turnOf 114 = .ok (.iaload, 1) := by decide +kernel
theorem dX10_turnOf_115 : decode cX10_turnOf 115 = .ok (.invokevirtual 408, 3) := by decide +kernel
theorem dX10_turnOf_118 : decode cX10_turnOf 118 = .ok (.if_icmp .ge 6, 3) := by decide +kernel
theorem dX10_turnOf_121 : decode cX10_turnOf 121 = .ok (.iload 4, 2) := by decide +kernel
theorem dX10_turnOf_123 : decode cX10_turnOf 123 = .ok (.istore_n 3, 1) := by decide +kernel
theorem dX10_turnOf_124 : decode cX10_turnOf 124 = .ok (.iinc 4 1, 3) := by decide +kernel
theorem dX10_turnOf_127 : decode cX10_turnOf 127 = .ok (.goto (-66), 3) := by decide +kernel
theorem dX10_turnOf_130 : decode cX10_turnOf 130 = .ok (.iload_n 3, 1) := by decide +kernel
theorem dX10_turnOf_131 : decode cX10_turnOf 131 = .ok (.ifCond .ge 6, 3) := by decide +kernel
theorem dX10_turnOf_134 : decode cX10_turnOf 134 = .ok (.bipush (-2), 2) := by decide +kernel
theorem dX10_turnOf_136 : decode cX10_turnOf 136 = .ok (.ireturn, 1) := by decide +kernel
theorem dX10_turnOf_137 : decode cX10_turnOf 137 = .ok (.iload_n 2, 1) := by decide +kernel
theorem dX10_turnOf_138 : decode cX10_turnOf 138 = .ok (.aload_n 0, 1) := by decide +kernel
theorem dX10_turnOf_139 : decode cX10_turnOf 139 = .ok (.iload_n 3, 1) := by decide +kernel
theorem dX10_turnOf_140 : decode cX10_turnOf 140 = .ok (.aload_n 0, 1) := by decide +kernel
theorem dX10_turnOf_141 : decode cX10_turnOf 141 = .ok (.getfield 48, 3) := by decide +kernel
theorem dX10_turnOf_144 : decode cX10_turnOf 144 = .ok (.iload_n 3, 1) := by decide +kernel
theorem dX10_turnOf_145 : decode cX10_turnOf 145 = .ok (.iaload, 1) := by decide +kernel
theorem dX10_turnOf_146 : decode cX10_turnOf 146 = .ok (.invokevirtual 405, 3) := by decide +kernel
theorem dX10_turnOf_149 : decode cX10_turnOf 149 = .ok (.isub, 1) := by decide +kernel
theorem dX10_turnOf_150 : decode cX10_turnOf 150 = .ok (.istore_n 2, 1) := by decide +kernel
theorem dX10_turnOf_151 : decode cX10_turnOf 151 = .ok (.iload_n 2, 1) := by decide +kernel
theorem dX10_turnOf_152 : decode cX10_turnOf 152 = .ok (.ifCond .ge 5, 3) := by decide +kernel
theorem dX10_turnOf_155 : decode cX10_turnOf 155 = .ok (.iload_n 3, 1) := by decide +kernel
theorem dX10_turnOf_156 : decode cX10_turnOf 156 = .ok (.ireturn, 1) := by decide +kernel
theorem dX10_turnOf_157 : decode cX10_turnOf 157 = .ok (.aload_n 0, 1) := by decide +kernel
theorem dX10_turnOf_158 : decode cX10_turnOf 158 = .ok (.getfield 48, 3) := by decide +kernel
theorem dX10_turnOf_161 : decode cX10_turnOf 161 = .ok (.iload_n 3, 1) := by decide +kernel
theorem dX10_turnOf_162 : decode cX10_turnOf 162 = .ok (.dup2, 1) := by decide +kernel
theorem dX10_turnOf_163 : decode cX10_turnOf 163 = .ok (.iaload, 1) := by decide +kernel
theorem dX10_turnOf_164 : decode cX10_turnOf 164 = .ok (.iconst 1, 1) := by decide +kernel
theorem dX10_turnOf_165 : decode cX10_turnOf 165 = .ok (.iadd, 1) := by decide +kernel
theorem dX10_turnOf_166 : decode cX10_turnOf 166 = .ok (.iastore, 1) := by decide +kernel
theorem dX10_turnOf_167 : decode cX10_turnOf 167 = .ok (.goto (-111), 3) := by decide +kernel
theorem dX10_turnsTo_0 : decode cX10_turnsTo 0 = .ok (.aload_n 0, 1) := by decide +kernel
theorem dX10_turnsTo_1 : decode cX10_turnsTo 1 = .ok (.invokevirtual 199, 3) := by decide +kernel
theorem dX10_turnsTo_4 : decode cX10_turnsTo 4 = .ok (.aload_n 0, 1) := by decide +kernel
theorem dX10_turnsTo_5 : decode cX10_turnsTo 5 = .ok (.getfield 212, 3) := by decide +kernel
theorem dX10_turnsTo_8 : decode cX10_turnsTo 8 = .ok (.ifCond .ne 9, 3) := by decide +kernel
theorem dX10_turnsTo_11 : decode cX10_turnsTo 11 = .ok (.aload_n 0, 1) := by decide +kernel
theorem dX10_turnsTo_12 : decode cX10_turnsTo 12 = .ok (.iconst 1, 1) := by decide +kernel
theorem dX10_turnsTo_13 : decode cX10_turnsTo 13 = .ok (.invokevirtual 202, 3) := by decide +kernel
theorem dX10_turnsTo_16 : decode cX10_turnsTo 16 = .ok (.ireturn, 1) := by decide +kernel
theorem dX10_turnsTo_17 : decode cX10_turnsTo 17 = .ok (.iload_n 1, 1) := by decide +kernel
theorem dX10_turnsTo_18 : decode cX10_turnsTo 18 = .ok (.iconst 0, 1) := by decide +kernel
theorem dX10_turnsTo_19 : decode cX10_turnsTo 19 = .ok (.sipush 999, 3) := by decide +kernel
theorem dX10_turnsTo_22 : decode cX10_turnsTo 22 = .ok (.invokestatic 156, 3) := by decide +kernel
theorem dX10_turnsTo_25 : decode cX10_turnsTo 25 = .ok (.ifCond .ne 9, 3) := by decide +kernel
theorem dX10_turnsTo_28 : decode cX10_turnsTo 28 = .ok (.aload_n 0, 1) := by decide +kernel
theorem dX10_turnsTo_29 : decode cX10_turnsTo 29 = .ok (.iconst 2, 1) := by decide +kernel
theorem dX10_turnsTo_30 : decode cX10_turnsTo 30 = .ok (.invokevirtual 202, 3) := by decide +kernel
theorem dX10_turnsTo_33 : decode cX10_turnsTo 33 = .ok (.ireturn, 1) := by decide +kernel
theorem dX10_turnsTo_34 : decode cX10_turnsTo 34 = .ok (.iconst 0, 1) := by decide +kernel
theorem dX10_turnsTo_35 : decode cX10_turnsTo 35 = .ok (.istore_n 2, 1) := by decide +kernel
theorem dX10_turnsTo_36 : decode cX10_turnsTo 36 = .ok (.iconst 0, 1) := by decide +kernel
theorem dX10_turnsTo_37 : decode cX10_turnsTo 37 = .ok (.istore_n 3, 1) := by decide +kernel
theorem dX10_turnsTo_38 : decode cX10_turnsTo 38 = .ok (.iload_n 3, 1) := by decide +kernel
theorem dX10_turnsTo_39 : decode cX10_turnsTo 39 = .ok (.aload_n 0, 1) := by decide +kernel
theorem dX10_turnsTo_40 : decode cX10_turnsTo 40 = .ok (.getfield 20, 3) := by decide +kernel
theorem dX10_turnsTo_43 : decode cX10_turnsTo 43 = .ok (.iconst 3, 1) := by decide +kernel
theorem dX10_turnsTo_44 : decode cX10_turnsTo 44 = .ok (.iaload, 1) := by decide +kernel
theorem dX10_turnsTo_45 : decode cX10_turnsTo 45 = .ok (.if_icmp .ge 51, 3) := by decide +kernel
theorem dX10_turnsTo_48 : decode cX10_turnsTo 48 = .ok (.iconst 0, 1) := by decide +kernel
theorem dX10_turnsTo_49 : decode cX10_turnsTo 49 = .ok (.istore 4, 2) := by decide +kernel
theorem dX10_turnsTo_51 : decode cX10_turnsTo 51 = .ok (.aload_n 0, 1) := by decide +kernel
theorem dX10_turnsTo_52 : decode cX10_turnsTo 52 = .ok (.iload_n 3, 1) := by decide +kernel
theorem dX10_turnsTo_53 : decode cX10_turnsTo 53 = .ok (.iload 4, 2) := by decide +kernel
theorem dX10_turnsTo_55 : decode cX10_turnsTo 55 = .ok (.invokevirtual 408, 3) := by decide +kernel
theorem dX10_turnsTo_58 : decode cX10_turnsTo 58 = .ok (.bipush (-2), 2) := by decide +kernel
theorem dX10_turnsTo_60 : decode cX10_turnsTo 60 = .ok (.if_icmp .eq 30, 3) := by decide +kernel
theorem dX10_turnsTo_63 : decode cX10_turnsTo 63 = .ok (.aload_n 0, 1) := by decide +kernel
theorem dX10_turnsTo_64 : decode cX10_turnsTo 64 = .ok (.iload_n 3, 1) := by decide +kernel
theorem dX10_turnsTo_65 : decode cX10_turnsTo 65 = .ok (.iload 4, 2) := by decide +kernel
theorem dX10_turnsTo_67 : decode cX10_turnsTo 67 = .ok (.invokevirtual 408, 3) := by decide +kernel
theorem dX10_turnsTo_70 : decode cX10_turnsTo 70 = .ok (.iload_n 1, 1) := by decide +kernel
theorem dX10_turnsTo_71 : decode cX10_turnsTo 71 = .ok (.if_icmp .gt 19, 3) := by decide +kernel
theorem dX10_turnsTo_74 : decode cX10_turnsTo 74 = .ok (.iload_n 2, 1) := by decide +kernel
theorem dX10_turnsTo_75 : decode cX10_turnsTo 75 = .ok (.aload_n 0, 1) := by decide +kernel
theorem dX10_turnsTo_76 : decode cX10_turnsTo 76 = .ok (.iload_n 3, 1) := by decide +kernel
theorem dX10_turnsTo_77 : decode cX10_turnsTo 77 = .ok (.iload 4, 2) := by decide +kernel
theorem dX10_turnsTo_79 : decode cX10_turnsTo 79 = .ok (.invokevirtual 405, 3) := by decide +kernel
theorem dX10_turnsTo_82 : decode cX10_turnsTo 82 = .ok (.iadd, 1) := by decide +kernel
theorem dX10_turnsTo_83 : decode cX10_turnsTo 83 = .ok (.istore_n 2, 1) := by decide +kernel
theorem dX10_turnsTo_84 : decode cX10_turnsTo 84 = .ok (.iinc 4 1, 3) := by decide +kernel
theorem dX10_turnsTo_87 : decode cX10_turnsTo 87 = .ok (.goto (-36), 3) := by decide +kernel
theorem dX10_turnsTo_90 : decode cX10_turnsTo 90 = .ok (.iinc 3 1, 3) := by decide +kernel
theorem dX10_turnsTo_93 : decode cX10_turnsTo 93 = .ok (.goto (-55), 3) := by decide +kernel
theorem dX10_turnsTo_96 : decode cX10_turnsTo 96 = .ok (.iload_n 2, 1) := by decide +kernel
theorem dX10_turnsTo_97 : decode cX10_turnsTo 97 = .ok (.ireturn, 1) := by decide +kernel
theorem dX10_births_0 : decode cX10_births 0 = .ok (.aload_n 0, 1) := by decide +kernel
theorem dX10_births_1 : decode cX10_births 1 = .ok (.invokevirtual 199, 3) := by decide +kernel
theorem dX10_births_4 : decode cX10_births 4 = .ok (.aload_n 0, 1) := by decide +kernel
theorem dX10_births_5 : decode cX10_births 5 = .ok (.iload_n 1, 1) := by decide +kernel
theorem dX10_births_6 : decode cX10_births 6 = .ok (.invokevirtual 323, 3) := by decide +kernel
theorem dX10_births_9 : decode cX10_births 9 = .ok (.ifCond .ne 9, 3) := by decide +kernel
theorem dX10_births_12 : decode cX10_births 12 = .ok (.aload_n 0, 1) := by decide +kernel
theorem dX10_births_13 : decode cX10_births 13 = .ok (.iconst 1, 1) := by decide +kernel
theorem dX10_births_14 : decode cX10_births 14 = .ok (.invokevirtual 202, 3) := by decide +kernel
theorem dX10_births_17 : decode cX10_births 17 = .ok (.ireturn, 1) := by decide +kernel
theorem dX10_births_18 : decode cX10_births 18 = .ok (.iload_n 2, 1) := by decide +kernel
theorem dX10_births_19 : decode cX10_births 19 = .ok (.iconst 0, 1) := by decide +kernel
theorem dX10_births_20 : decode cX10_births 20 = .ok (.ldc_w 411, 3) := by decide +kernel
theorem dX10_births_23 : decode cX10_births 23 = .ok (.invokestatic 156, 3) := by decide +kernel
theorem dX10_births_26 : decode cX10_births 26 = .ok (.ifCond .eq 13, 3) := by decide +kernel
theorem dX10_births_29 : decode cX10_births 29 = .ok (.iload_n 3, 1) := by decide +kernel
theorem dX10_births_30 : decode cX10_births 30 = .ok (.iconst 0, 1) := by decide +kernel
theorem dX10_births_31 : decode cX10_births 31 = .ok (.bipush 99, 2) := by decide +kernel
theorem dX10_births_33 : decode cX10_births 33 = .ok (.invokestatic 156, 3) := by decide +kernel
theorem dX10_births_36 : decode cX10_births 36 = .ok (.ifCond .ne 9, 3) := by decide +kernel
theorem dX10_births_39 : decode cX10_births 39 = .ok (.aload_n 0, 1) := by decide +kernel
theorem dX10_births_40 : decode cX10_births 40 = .ok (.iconst 2, 1) := by decide +kernel
theorem dX10_births_41 : decode cX10_births 41 = .ok (.invokevirtual 202, 3) := by decide +kernel
theorem dX10_births_44 : decode cX10_births 44 = .ok (.ireturn, 1) := by decide +kernel
theorem dX10_births_45 : decode cX10_births 45 = .ok (.iload_n 2, 1) := by decide +kernel
theorem dX10_births_46 : decode cX10_births 46 = .ok (.istore 4, 2) := by decide +kernel
theorem dX10_births_48 : decode cX10_births 48 = .ok (.iconst 0, 1) := by decide +kernel
theorem dX10_births_49 : decode cX10_births 49 = .ok (.istore 5, 2) := by decide +kernel
theorem dX10_births_51 : decode cX10_births 51 = .ok (.iconst 0, 1) := by decide +kernel
theorem dX10_births_52 : decode cX10_births 52 = .ok (.istore 6, 2) := by decide +kernel
theorem dX10_births_54 : decode cX10_births 54 = .ok (.iload 6, 2) := by decide +kernel
theorem dX10_births_56 : decode cX10_births 56 = .ok (.iload_n 3, 1) := by decide +kernel
theorem dX10_births_57 : decode cX10_births 57 = .ok (.if_icmp .ge 54, 3) := by decide +kernel
theorem dX10_births_60 : decode cX10_births 60 = .ok (.bipush 75, 2) := by decide +kernel
theorem dX10_births_62 : decode cX10_births 62 = .ok (.iload 4, 2) := by decide +kernel
theorem dX10_births_64 : decode cX10_births 64 = .ok (.imul, 1) := by decide +kernel
theorem dX10_births_65 : decode cX10_births 65 = .ok (.bipush 74, 2) := by decide +kernel
theorem dX10_births_67 : decode cX10_births 67 = .ok (.iadd, 1) := by decide +kernel
theorem dX10_births_68 : decode cX10_births 68 = .ok (.ldc_w 412, 3) := by decide +kernel
theorem dX10_births_71 : decode cX10_births 71 = .ok (.irem, 1) := by decide +kernel
theorem dX10_births_72 : decode cX10_births 72 = .ok (.istore 4, 2) := by decide +kernel
theorem dX10_births_74 : decode cX10_births 74 = .ok (.iload 5, 2) := by decide +kernel
theorem dX10_births_76 : decode cX10_births 76 = .ok (.iload 4, 2) := by decide +kernel
theorem dX10_births_78 : decode cX10_births 78 = .ok (.bipush 100, 2) := by decide +kernel
theorem dX10_births_80 : decode cX10_births 80 = .ok (.irem, 1) := by decide +kernel
theorem dX10_births_81 : decode cX10_births 81 = .ok (.aload_n 0, 1) := by decide +kernel
theorem dX10_births_82 : decode cX10_births 82 = .ok (.getfield 20, 3) := by decide +kernel
theorem dX10_births_85 : decode cX10_births 85 = .ok (.bipush 17, 2) := by decide +kernel
theorem dX10_births_87 : decode cX10_births 87 = .ok (.iconst 4, 1) := by decide +kernel
theorem dX10_births_88 : decode cX10_births 88 = .ok (.iload_n 1, 1) := by decide +kernel
theorem dX10_births_89 : decode cX10_births 89 = .ok (.imul, 1) := by decide +kernel
theorem dX10_births_90 : decode cX10_births 90 = .ok (.iadd, 1) := by decide +kernel
theorem dX10_births_91 : decode cX10_births 91 = .ok (.iconst 2, 1) := by decide +kernel
theorem dX10_births_92 : decode cX10_births 92 = .ok (.iadd, 1) := by decide +kernel
theorem dX10_births_93 : decode cX10_births 93 = .ok (.iaload, 1) := by decide +kernel
theorem dX10_births_94 : decode cX10_births 94 = .ok (.if_icmp .ge 7, 3) := by decide +kernel
theorem dX10_births_97 : decode cX10_births 97 = .ok (.iconst 2, 1) := by decide +kernel
theorem dX10_births_98 : decode cX10_births 98 = .ok (.goto 4, 3) := by decide +kernel
theorem dX10_births_101 : decode cX10_births 101 = .ok (.iconst 1, 1) := by decide +kernel
theorem dX10_births_102 : decode cX10_births 102 = .ok (.iadd, 1) := by decide +kernel
theorem dX10_births_103 : decode cX10_births 103 = .ok (.istore 5, 2) := by decide +kernel
theorem dX10_births_105 : decode cX10_births 105 = .ok (.iinc 6 1, 3) := by decide +kernel
theorem dX10_births_108 : decode cX10_births 108 = .ok (.goto (-54), 3) := by decide +kernel
theorem dX10_births_111 : decode cX10_births 111 = .ok (.iload 5, 2) := by decide +kernel
theorem dX10_births_113 : decode cX10_births 113 = .ok (.ireturn, 1) := by decide +kernel
theorem dX10_note_0 : decode cX10_note 0 = .ok (.aload_n 0, 1) := by decide +kernel
theorem dX10_note_1 : decode cX10_note 1 = .ok (.getfield 215, 3) := by decide +kernel
theorem dX10_note_4 : decode cX10_note 4 = .ok (.bipush 12, 2) := by decide +kernel
theorem dX10_note_6 : decode cX10_note 6 = .ok (.if_icmp .ne 43, 3) := by decide +kernel
theorem dX10_note_9 : decode cX10_note 9 = .ok (.iconst 0, 1) := by decide +kernel
theorem dX10_note_10 : decode cX10_note 10 = .ok (.istore_n 1, 1) := by decide +kernel
theorem dX10_note_11 : decode cX10_note 11 = .ok (.iload_n 1, 1) := by decide +kernel
theorem dX10_note_12 : decode cX10_note 12 = .ok (.sipush 748, 3) := by decide +kernel
theorem dX10_note_15 : decode cX10_note 15 = .ok (.if_icmp .ge 24, 3) := by decide +kernel
theorem dX10_note_18 : decode cX10_note 18 = .ok (.aload_n 0, 1) := by decide +kernel
theorem dX10_note_19 : decode cX10_note 19 = .ok (.getfield 36, 3) := by decide +kernel
theorem dX10_note_22 : decode cX10_note 22 = .ok (.iload_n 1, 1) := by decide +kernel
theorem dX10_note_23 : decode cX10_note 23 = .ok (.aload_n 0, 1) := by decide +kernel
theorem dX10_note_24 : decode cX10_note 24 = .ok (.getfield 36, 3) := by decide +kernel
theorem dX10_note_27 : decode cX10_note 27 = .ok (.iload_n 1, 1) := by decide +kernel
theorem dX10_note_28 : decode cX10_note 28 = .ok (.bipush 68, 2) := by decide +kernel
theorem dX10_note_30 : decode cX10_note 30 = .ok (.iadd, 1) := by decide +kernel
theorem dX10_note_31 : decode cX10_note 31 = .ok (.iaload, 1) := by decide +kernel
theorem dX10_note_32 : decode cX10_note 32 = .ok (.iastore, 1) := by decide +kernel
theorem dX10_note_33 : decode cX10_note 33 = .ok (.iinc 1 1, 3) := by decide +kernel
theorem dX10_note_36 : decode cX10_note 36 = .ok (.goto (-25), 3) := by decide +kernel
theorem dX10_note_39 : decode cX10_note 39 = .ok (.aload_n 0, 1) := by decide +kernel
theorem dX10_note_40 : decode cX10_note 40 = .ok (.dup, 1) := by decide +kernel
theorem dX10_note_41 : decode cX10_note 41 = .ok (.getfield 215, 3) := by decide +kernel
theorem dX10_note_44 : decode cX10_note 44 = .ok (.iconst 1, 1) := by decide +kernel
theorem dX10_note_45 : decode cX10_note 45 = .ok (.isub, 1) := by decide +kernel
theorem dX10_note_46 : decode cX10_note 46 = .ok (.putfield 215, 3) := by decide +kernel
theorem dX10_note_49 : decode cX10_note 49 = .ok (.aload_n 0, 1) := by decide +kernel
theorem dX10_note_50 : decode cX10_note 50 = .ok (.getfield 33, 3) := by decide +kernel
theorem dX10_note_53 : decode cX10_note 53 = .ok (.iconst 0, 1) := by decide +kernel
theorem dX10_note_54 : decode cX10_note 54 = .ok (.aload_n 0, 1) := by decide +kernel
theorem dX10_note_55 : decode cX10_note 55 = .ok (.getfield 36, 3) := by decide +kernel
theorem dX10_note_58 : decode cX10_note 58 = .ok (.bipush 68, 2) := by decide +kernel
theorem dX10_note_60 : decode cX10_note 60 = .ok (.aload_n 0, 1) := by decide +kernel
theorem dX10_note_61 : decode cX10_note 61 = .ok (.getfield 215, 3) := by decide +kernel
theorem dX10_note_64 : decode cX10_note 64 = .ok (.imul, 1) := by decide +kernel
theorem dX10_note_65 : decode cX10_note 65 = .ok (.bipush 68, 2) := by decide +kernel
theorem dX10_note_67 : decode cX10_note 67 = .ok (.invokestatic 208, 3) := by decide +kernel
theorem dX10_note_70 : decode cX10_note 70 = .ok (.aload_n 0, 1) := by decide +kernel
theorem dX10_note_71 : decode cX10_note 71 = .ok (.dup, 1) := by decide +kernel
theorem dX10_note_72 : decode cX10_note 72 = .ok (.getfield 215, 3) := by decide +kernel
theorem dX10_note_75 : decode cX10_note 75 = .ok (.iconst 1, 1) := by decide +kernel
theorem dX10_note_76 : decode cX10_note 76 = .ok (.iadd, 1) := by decide +kernel
theorem dX10_note_77 : decode cX10_note 77 = .ok (.putfield 215, 3) := by decide +kernel
theorem dX10_note_80 : decode cX10_note 80 = .ok (.return_, 1) := by decide +kernel
theorem dX10_answers_0 : decode cX10_answers 0 = .ok (.aload_n 0, 1) := by decide +kernel
theorem dX10_answers_1 : decode cX10_answers 1 = .ok (.iload_n 1, 1) := by decide +kernel
theorem dX10_answers_2 : decode cX10_answers 2 = .ok (.iload_n 2, 1) := by decide +kernel
theorem dX10_answers_3 : decode cX10_answers 3 = .ok (.invokevirtual 399, 3) := by decide +kernel
theorem dX10_answers_6 : decode cX10_answers 6 = .ok (.ifCond .ne 9, 3) := by decide +kernel
theorem dX10_answers_9 : decode cX10_answers 9 = .ok (.aload_n 0, 1) := by decide +kernel
theorem dX10_answers_10 : decode cX10_answers 10 = .ok (.iconst 1, 1) := by decide +kernel
theorem dX10_answers_11 : decode cX10_answers 11 = .ok (.invokevirtual 202, 3) := by decide +kernel
theorem dX10_answers_14 : decode cX10_answers 14 = .ok (.ireturn, 1) := by decide +kernel
theorem dX10_answers_15 : decode cX10_answers 15 = .ok (.aload_n 0, 1) := by decide +kernel
theorem dX10_answers_16 : decode cX10_answers 16 = .ok (.getfield 20, 3) := by decide +kernel
theorem dX10_answers_19 : decode cX10_answers 19 = .ok (.bipush 10, 2) := by decide +kernel
theorem dX10_answers_21 : decode cX10_answers 21 = .ok (.iaload, 1) := by decide +kernel
theorem dX10_answers_22 : decode cX10_answers 22 = .ok (.ifCond .ne 10, 3) := by decide +kernel
theorem dX10_answers_25 : decode cX10_answers 25 = .ok (.aload_n 0, 1) := by decide +kernel
theorem dX10_answers_26 : decode cX10_answers 26 = .ok (.bipush 6, 2) := by decide +kernel
theorem dX10_answers_28 : decode cX10_answers 28 = .ok (.invokevirtual 202, 3) := by decide +kernel
theorem dX10_answers_31 : decode cX10_answers 31 = .ok (.ireturn, 1) := by decide +kernel
theorem dX10_answers_32 : decode cX10_answers 32 = .ok (.aload_n 0, 1) := by decide +kernel
theorem dX10_answers_33 : decode cX10_answers 33 = .ok (.getfield 33, 3) := by decide +kernel
theorem dX10_answers_36 : decode cX10_answers 36 = .ok (.iconst 1, 1) := by decide +kernel
theorem dX10_answers_37 : decode cX10_answers 37 = .ok (.iaload, 1) := by decide +kernel
theorem dX10_answers_38 : decode cX10_answers 38 = .ok (.bipush 20, 2) := by decide +kernel
theorem dX10_answers_40 : decode cX10_answers 40 = .ok (.if_icmp .ne 9, 3) := by decide +kernel
theorem dX10_answers_43 : decode cX10_answers 43 = .ok (.aload_n 0, 1) := by decide +kernel
theorem dX10_answers_44 : decode cX10_answers 44 = .ok (.iconst 3, 1) := by decide +kernel
theorem dX10_answers_45 : decode cX10_answers 45 = .ok (.invokevirtual 202, 3) := by decide +kernel
theorem dX10_answers_48 : decode cX10_answers 48 = .ok (.ireturn, 1) := by decide +kernel
theorem dX10_answers_49 : decode cX10_answers 49 = .ok (.aload_n 0, 1) := by decide +kernel
theorem dX10_answers_50 : decode cX10_answers 50 = .ok (.invokevirtual 413, 3) := by decide +kernel
theorem dX10_answers_53 : decode cX10_answers 53 = .ok (.aload_n 0, 1) := by decide +kernel
theorem dX10_answers_54 : decode cX10_answers 54 = .ok (.getfield 26, 3) := by decide +kernel
theorem dX10_answers_57 : decode cX10_answers 57 = .ok (.iload_n 2, 1) := by decide +kernel
theorem dX10_answers_58 : decode cX10_answers 58 = .ok (.laload, 1) := by decide +kernel
theorem dX10_answers_59 : decode cX10_answers 59 = .ok (.aload_n 0, 1) := by decide +kernel
theorem dX10_answers_60 : decode cX10_answers 60 = .ok (.getfield 20, 3) := by decide +kernel
theorem dX10_answers_63 : decode cX10_answers 63 = .ok (.bipush 10, 2) := by decide +kernel
theorem dX10_answers_65 : decode cX10_answers 65 = .ok (.iaload, 1) := by decide +kernel
theorem dX10_answers_66 : decode cX10_answers 66 = .ok (.iconst 1, 1) := by decide +kernel
theorem dX10_answers_67 : decode cX10_answers 67 = .ok (.isub, 1) := by decide +kernel
theorem dX10_answers_68 : decode cX10_answers 68 = .ok (.lshr, 1) := by decide +kernel
theorem dX10_answers_69 : decode cX10_answers 69 = .ok (.lconst 1, 1) := by decide +kernel
theorem dX10_answers_70 : decode cX10_answers 70 = .ok (.land, 1) := by decide +kernel
theorem dX10_answers_71 : decode cX10_answers 71 = .ok (.lconst 1, 1) := by decide +kernel
theorem dX10_answers_72 : decode cX10_answers 72 = .ok (.lcmp, 1) := by decide +kernel
theorem dX10_answers_73 : decode cX10_answers 73 = .ok (.ifCond .ne 7, 3) := by decide +kernel
theorem dX10_answers_76 : decode cX10_answers 76 = .ok (.iconst 1, 1) := by decide +kernel
theorem dX10_answers_77 : decode cX10_answers 77 = .ok (.goto 4, 3) := by decide +kernel
theorem dX10_answers_80 : decode cX10_answers 80 = .ok (.iconst 0, 1) := by decide +kernel
theorem dX10_answers_81 : decode cX10_answers 81 = .ok (.istore 4, 2) := by decide +kernel
theorem dX10_answers_83 : decode cX10_answers 83 = .ok (.iconst 2, 1) := by decide +kernel
theorem dX10_answers_84 : decode cX10_answers 84 = .ok (.iconst 3, 1) := by decide +kernel
theorem dX10_answers_85 : decode cX10_answers 85 = .ok (.aload_n 0, 1) := by decide +kernel
theorem dX10_answers_86 : decode cX10_answers 86 = .ok (.getfield 33, 3) := by decide +kernel
theorem dX10_answers_89 : decode cX10_answers 89 = .ok (.iconst 1, 1) := by decide +kernel
theorem dX10_answers_90 : decode cX10_answers 90 = .ok (.iaload, 1) := by decide +kernel
theorem dX10_answers_91 : decode cX10_answers 91 = .ok (.imul, 1) := by decide +kernel
theorem dX10_answers_92 : decode cX10_answers 92 = .ok (.iadd, 1) := by decide +kernel
theorem dX10_answers_93 : decode cX10_answers 93 = .ok (.istore 5, 2) := by decide +kernel
theorem dX10_answers_95 : decode cX10_answers 95 = .ok (.aload_n 0, 1) := by decide +kernel
theorem dX10_answers_96 : decode cX10_answers 96 = .ok (.getfield 33, 3) := by decide +kernel
theorem dX10_answers_99 : decode cX10_answers 99 = .ok (.iload 5, 2) := by decide +kernel
theorem dX10_answers_101 : decode cX10_answers 101 = .ok (.iload_n 1, 1) := by decide +kernel
theorem dX10_answers_102 : decode cX10_answers 102 = .ok (.iastore, 1) := by decide +kernel
theorem dX10_answers_103 : decode cX10_answers 103 = .ok (.aload_n 0, 1) := by decide +kernel
theorem dX10_answers_104 : decode cX10_answers 104 = .ok (.getfield 33, 3) := by decide +kernel
theorem dX10_answers_107 : decode cX10_answers 107 = .ok (.iload 5, 2) := by decide +kernel
theorem dX10_answers_109 : decode cX10_answers 109 = .ok (.iconst 1, 1) := by decide +kernel
theorem dX10_answers_110 : decode cX10_answers 110 = .ok (.iadd, 1) := by decide +kernel
theorem dX10_answers_111 : decode cX10_answers 111 = .ok (.iload_n 2, 1) := by decide +kernel
theorem dX10_answers_112 : decode cX10_answers 112 = .ok (.iastore, 1) := by decide +kernel
theorem dX10_answers_113 : decode cX10_answers 113 = .ok (.aload_n 0, 1) := by decide +kernel
theorem dX10_answers_114 : decode cX10_answers 114 = .ok (.getfield 33, 3) := by decide +kernel
theorem dX10_answers_117 : decode cX10_answers 117 = .ok (.iload 5, 2) := by decide +kernel
theorem dX10_answers_119 : decode cX10_answers 119 = .ok (.iconst 2, 1) := by decide +kernel
theorem dX10_answers_120 : decode cX10_answers 120 = .ok (.iadd, 1) := by decide +kernel
theorem dX10_answers_121 : decode cX10_answers 121 = .ok (.iload 4, 2) := by decide +kernel
theorem dX10_answers_123 : decode cX10_answers 123 = .ok (.iload_n 3, 1) := by decide +kernel
theorem dX10_answers_124 : decode cX10_answers 124 = .ok (.if_icmp .ne 7, 3) := by decide +kernel
theorem dX10_answers_127 : decode cX10_answers 127 = .ok (.iconst 1, 1) := by decide +kernel
theorem dX10_answers_128 : decode cX10_answers 128 = .ok (.goto 4, 3) := by decide +kernel
theorem dX10_answers_131 : decode cX10_answers 131 = .ok (.iconst 0, 1) := by decide +kernel
theorem dX10_answers_132 : decode cX10_answers 132 = .ok (.iastore, 1) := by decide +kernel
theorem dX10_answers_133 : decode cX10_answers 133 = .ok (.aload_n 0, 1) := by decide +kernel
theorem dX10_answers_134 : decode cX10_answers 134 = .ok (.getfield 33, 3) := by decide +kernel
theorem dX10_answers_137 : decode cX10_answers 137 = .ok (.iconst 1, 1) := by decide +kernel
theorem dX10_answers_138 : decode cX10_answers 138 = .ok (.dup2, 1) := by decide +kernel
theorem dX10_answers_139 : decode cX10_answers 139 = .ok (.iaload, 1) := by decide +kernel
theorem dX10_answers_140 : decode cX10_answers 140 = .ok (.iconst 1, 1) := by decide +kernel
theorem dX10_answers_141 : decode cX10_answers 141 = .ok (.iadd, 1) := by decide +kernel
theorem dX10_answers_142 : decode cX10_answers 142 = .ok (.iastore, 1) := by decide +kernel
theorem dX10_answers_143 : decode cX10_answers 143 = .ok (.aload_n 0, 1) := by decide +kernel
theorem dX10_answers_144 : decode cX10_answers 144 = .ok (.getfield 33, 3) := by decide +kernel
theorem dX10_answers_147 : decode cX10_answers 147 = .ok (.iload 5, 2) := by decide +kernel
theorem dX10_answers_149 : decode cX10_answers 149 = .ok (.iconst 2, 1) := by decide +kernel
theorem dX10_answers_150 : decode cX10_answers 150 = .ok (.iadd, 1) := by decide +kernel
theorem dX10_answers_151 : decode cX10_answers 151 = .ok (.iaload, 1) := by decide +kernel
theorem dX10_answers_152 : decode cX10_answers 152 = .ok (.ireturn, 1) := by decide +kernel
theorem dX10_ask_0 : decode cX10_ask 0 = .ok (.aload_n 0, 1) := by decide +kernel
theorem dX10_ask_1 : decode cX10_ask 1 = .ok (.invokevirtual 199, 3) := by decide +kernel
theorem dX10_ask_4 : decode cX10_ask 4 = .ok (.aload_n 0, 1) := by decide +kernel
theorem dX10_ask_5 : decode cX10_ask 5 = .ok (.iload_n 1, 1) := by decide +kernel
theorem dX10_ask_6 : decode cX10_ask 6 = .ok (.iload_n 2, 1) := by decide +kernel
theorem dX10_ask_7 : decode cX10_ask 7 = .ok (.iconst 1, 1) := by decide +kernel
theorem dX10_ask_8 : decode cX10_ask 8 = .ok (.invokevirtual 416, 3) := by decide +kernel
theorem dX10_ask_11 : decode cX10_ask 11 = .ok (.ireturn, 1) := by decide +kernel
theorem dX10_lie_0 : decode cX10_lie 0 = .ok (.aload_n 0, 1) := by decide +kernel
theorem dX10_lie_1 : decode cX10_lie 1 = .ok (.invokevirtual 199, 3) := by decide +kernel
theorem dX10_lie_4 : decode cX10_lie 4 = .ok (.aload_n 0, 1) := by decide +kernel
theorem dX10_lie_5 : decode cX10_lie 5 = .ok (.iload_n 1, 1) := by decide +kernel
theorem dX10_lie_6 : decode cX10_lie 6 = .ok (.iload_n 2, 1) := by decide +kernel
theorem dX10_lie_7 : decode cX10_lie 7 = .ok (.iconst 0, 1) := by decide +kernel
theorem dX10_lie_8 : decode cX10_lie 8 = .ok (.invokevirtual 416, 3) := by decide +kernel
theorem dX10_lie_11 : decode cX10_lie 11 = .ok (.ireturn, 1) := by decide +kernel
theorem dX10_wed_0 : decode cX10_wed 0 = .ok (.aload_n 0, 1) := by decide +kernel
theorem dX10_wed_1 : decode cX10_wed 1 = .ok (.invokevirtual 199, 3) := by decide +kernel
theorem dX10_wed_4 : decode cX10_wed 4 = .ok (.aload_n 0, 1) := by decide +kernel
theorem dX10_wed_5 : decode cX10_wed 5 = .ok (.iload_n 1, 1) := by decide +kernel
theorem dX10_wed_6 : decode cX10_wed 6 = .ok (.invokevirtual 323, 3) := by decide +kernel
theorem dX10_wed_9 : decode cX10_wed 9 = .ok (.ifCond .eq 16, 3) := by decide +kernel
theorem dX10_wed_12 : decode cX10_wed 12 = .ok (.aload_n 0, 1) := by decide +kernel
theorem dX10_wed_13 : decode cX10_wed 13 = .ok (.iload_n 2, 1) := by decide +kernel
theorem dX10_wed_14 : decode cX10_wed 14 = .ok (.invokevirtual 323, 3) := by decide +kernel
theorem dX10_wed_17 : decode cX10_wed 17 = .ok (.ifCond .eq 8, 3) := by decide +kernel
theorem dX10_wed_20 : decode cX10_wed 20 = .ok (.iload_n 1, 1) := by decide +kernel
theorem dX10_wed_21 : decode cX10_wed 21 = .ok (.iload_n 2, 1) := by decide +kernel
theorem dX10_wed_22 : decode cX10_wed 22 = .ok (.if_icmp .ne 9, 3) := by decide +kernel
theorem dX10_wed_25 : decode cX10_wed 25 = .ok (.aload_n 0, 1) := by decide +kernel
theorem dX10_wed_26 : decode cX10_wed 26 = .ok (.iconst 1, 1) := by decide +kernel
theorem dX10_wed_27 : decode cX10_wed 27 = .ok (.invokevirtual 420, 3) := by decide +kernel
theorem dX10_wed_30 : decode cX10_wed 30 = .ok (.ireturn, 1) := by decide +kernel
theorem dX10_wed_31 : decode cX10_wed 31 = .ok (.aload_n 0, 1) := by decide +kernel
theorem dX10_wed_32 : decode cX10_wed 32 = .ok (.getfield 33, 3) := by decide +kernel
theorem dX10_wed_35 : decode cX10_wed 35 = .ok (.bipush 62, 2) := by decide +kernel
theorem dX10_wed_37 : decode cX10_wed 37 = .ok (.iload_n 1, 1) := by decide +kernel
theorem dX10_wed_38 : decode cX10_wed 38 = .ok (.iadd, 1) := by decide +kernel
theorem dX10_wed_39 : decode cX10_wed 39 = .ok (.iaload, 1) := by decide +kernel
theorem dX10_wed_40 : decode cX10_wed 40 = .ok (.iload_n 2, 1) := by decide +kernel
theorem dX10_wed_41 : decode cX10_wed 41 = .ok (.invokestatic 270, 3) := by decide +kernel
theorem dX10_wed_44 : decode cX10_wed 44 = .ok (.ifCond .eq 9, 3) := by decide +kernel
theorem dX10_wed_47 : decode cX10_wed 47 = .ok (.aload_n 0, 1) := by decide +kernel
theorem dX10_wed_48 : decode cX10_wed 48 = .ok (.iconst 5, 1) := by decide +kernel
theorem dX10_wed_49 : decode cX10_wed 49 = .ok (.invokevirtual 420, 3) := by decide +kernel
theorem dX10_wed_52 : decode cX10_wed 52 = .ok (.ireturn, 1) := by decide +kernel
theorem dX10_wed_53 : decode cX10_wed 53 = .ok (.aload_n 0, 1) := by decide +kernel
theorem dX10_wed_54 : decode cX10_wed 54 = .ok (.invokevirtual 413, 3) := by decide +kernel
theorem dX10_wed_57 : decode cX10_wed 57 = .ok (.aload_n 0, 1) := by decide +kernel
theorem dX10_wed_58 : decode cX10_wed 58 = .ok (.getfield 33, 3) := by decide +kernel
theorem dX10_wed_61 : decode cX10_wed 61 = .ok (.bipush 62, 2) := by decide +kernel
theorem dX10_wed_63 : decode cX10_wed 63 = .ok (.iload_n 1, 1) := by decide +kernel
theorem dX10_wed_64 : decode cX10_wed 64 = .ok (.iadd, 1) := by decide +kernel
theorem dX10_wed_65 : decode cX10_wed 65 = .ok (.dup2, 1) := by decide +kernel
theorem dX10_wed_66 : decode cX10_wed 66 = .ok (.iaload, 1) := by decide +kernel
theorem dX10_wed_67 : decode cX10_wed 67 = .ok (.iconst 1, 1) := by decide +kernel
theorem dX10_wed_68 : decode cX10_wed 68 = .ok (.iload_n 2, 1) := by decide +kernel
theorem dX10_wed_69 : decode cX10_wed 69 = .ok (.ishl, 1) := by decide +kernel
theorem dX10_wed_70 : decode cX10_wed 70 = .ok (.ior, 1) := by decide +kernel
theorem dX10_wed_71 : decode cX10_wed 71 = .ok (.iastore, 1) := by decide +kernel
theorem dX10_wed_72 : decode cX10_wed 72 = .ok (.aload_n 0, 1) := by decide +kernel
theorem dX10_wed_73 : decode cX10_wed 73 = .ok (.getfield 33, 3) := by decide +kernel
theorem dX10_wed_76 : decode cX10_wed 76 = .ok (.bipush 62, 2) := by decide +kernel
theorem dX10_wed_78 : decode cX10_wed 78 = .ok (.iload_n 2, 1) := by decide +kernel
theorem dX10_wed_79 : decode cX10_wed 79 = .ok (.iadd, 1) := by decide +kernel
theorem dX10_wed_80 : decode cX10_wed 80 = .ok (.dup2, 1) := by decide +kernel
theorem dX10_wed_81 : decode cX10_wed 81 = .ok (.iaload, 1) := by decide +kernel
theorem dX10_wed_82 : decode cX10_wed 82 = .ok (.iconst 1, 1) := by decide +kernel
theorem dX10_wed_83 : decode cX10_wed 83 = .ok (.iload_n 1, 1) := by decide +kernel
theorem dX10_wed_84 : decode cX10_wed 84 = .ok (.ishl, 1) := by decide +kernel
theorem dX10_wed_85 : decode cX10_wed 85 = .ok (.ior, 1) := by decide +kernel
theorem dX10_wed_86 : decode cX10_wed 86 = .ok (.iastore, 1) := by decide +kernel
theorem dX10_wed_87 : decode cX10_wed 87 = .ok (.iconst 1, 1) := by decide +kernel
theorem dX10_wed_88 : decode cX10_wed 88 = .ok (.ireturn, 1) := by decide +kernel
theorem dX10_years_0 : decode cX10_years 0 = .ok (.aload_n 0, 1) := by decide +kernel
theorem dX10_years_1 : decode cX10_years 1 = .ok (.invokevirtual 199, 3) := by decide +kernel
theorem dX10_years_4 : decode cX10_years 4 = .ok (.aload_n 0, 1) := by decide +kernel
theorem dX10_years_5 : decode cX10_years 5 = .ok (.getfield 212, 3) := by decide +kernel
theorem dX10_years_8 : decode cX10_years 8 = .ok (.ifCond .ne 9, 3) := by decide +kernel
theorem dX10_years_11 : decode cX10_years 11 = .ok (.aload_n 0, 1) := by decide +kernel
theorem dX10_years_12 : decode cX10_years 12 = .ok (.iconst 1, 1) := by decide +kernel
theorem dX10_years_13 : decode cX10_years 13 = .ok (.invokevirtual 202, 3) := by decide +kernel
theorem dX10_years_16 : decode cX10_years 16 = .ok (.ireturn, 1) := by decide +kernel
theorem dX10_years_17 : decode cX10_years 17 = .ok (.iload_n 1, 1) := by decide +kernel
theorem dX10_years_18 : decode cX10_years 18 = .ok (.iconst 1, 1) := by decide +kernel
theorem dX10_years_19 : decode cX10_years 19 = .ok (.bipush 99, 2) := by decide +kernel
theorem dX10_years_21 : decode cX10_years 21 = .ok (.invokestatic 156, 3) := by decide +kernel
theorem dX10_years_24 : decode cX10_years 24 = .ok (.ifCond .ne 9, 3) := by decide +kernel
theorem dX10_years_27 : decode cX10_years 27 = .ok (.aload_n 0, 1) := by decide +kernel
theorem dX10_years_28 : decode cX10_years 28 = .ok (.iconst 2, 1) := by decide +kernel
theorem dX10_years_29 : decode cX10_years 29 = .ok (.invokevirtual 202, 3) := by decide +kernel
theorem dX10_years_32 : decode cX10_years 32 = .ok (.ireturn, 1) := by decide +kernel
theorem dX10_years_33 : decode cX10_years 33 = .ok (.aload_n 0, 1) := by decide +kernel
theorem dX10_years_34 : decode cX10_years 34 = .ok (.getfield 33, 3) := by decide +kernel
theorem dX10_years_37 : decode cX10_years 37 = .ok (.iconst 0, 1) := by decide +kernel
theorem dX10_years_38 : decode cX10_years 38 = .ok (.iaload, 1) := by decide +kernel
theorem dX10_years_39 : decode cX10_years 39 = .ok (.iload_n 1, 1) := by decide +kernel
theorem dX10_years_40 : decode cX10_years 40 = .ok (.iadd, 1) := by decide +kernel
theorem dX10_years_41 : decode cX10_years 41 = .ok (.sipush 999, 3) := by decide +kernel
theorem dX10_years_44 : decode cX10_years 44 = .ok (.if_icmp .le 9, 3) := by decide +kernel
theorem dX10_years_47 : decode cX10_years 47 = .ok (.aload_n 0, 1) := by decide +kernel
theorem dX10_years_48 : decode cX10_years 48 = .ok (.iconst 3, 1) := by decide +kernel
theorem dX10_years_49 : decode cX10_years 49 = .ok (.invokevirtual 202, 3) := by decide +kernel
theorem dX10_years_52 : decode cX10_years 52 = .ok (.ireturn, 1) := by decide +kernel
theorem dX10_years_53 : decode cX10_years 53 = .ok (.aload_n 0, 1) := by decide +kernel
theorem dX10_years_54 : decode cX10_years 54 = .ok (.invokevirtual 413, 3) := by decide +kernel
theorem dX10_years_57 : decode cX10_years 57 = .ok (.aload_n 0, 1) := by decide +kernel
theorem dX10_years_58 : decode cX10_years 58 = .ok (.getfield 33, 3) := by decide +kernel
theorem dX10_years_61 : decode cX10_years 61 = .ok (.iconst 0, 1) := by decide +kernel
theorem dX10_years_62 : decode cX10_years 62 = .ok (.dup2, 1) := by decide +kernel
theorem dX10_years_63 : decode cX10_years 63 = .ok (.iaload, 1) := by decide +kernel
theorem dX10_years_64 : decode cX10_years 64 = .ok (.iload_n 1, 1) := by decide +kernel
theorem dX10_years_65 : decode cX10_years 65 = .ok (.iadd, 1) := by decide +kernel
theorem dX10_years_66 : decode cX10_years 66 = .ok (.iastore, 1) := by decide +kernel
theorem dX10_years_67 : decode cX10_years 67 = .ok (.aload_n 0, 1) := by decide +kernel
theorem dX10_years_68 : decode cX10_years 68 = .ok (.getfield 33, 3) := by decide +kernel
theorem dX10_years_71 : decode cX10_years 71 = .ok (.iconst 0, 1) := by decide +kernel
theorem dX10_years_72 : decode cX10_years 72 = .ok (.iaload, 1) := by decide +kernel
theorem dX10_years_73 : decode cX10_years 73 = .ok (.ireturn, 1) := by decide +kernel
theorem dX10_undo_0 : decode cX10_undo 0 = .ok (.aload_n 0, 1) := by decide +kernel
theorem dX10_undo_1 : decode cX10_undo 1 = .ok (.invokevirtual 199, 3) := by decide +kernel
theorem dX10_undo_4 : decode cX10_undo 4 = .ok (.aload_n 0, 1) := by decide +kernel
theorem dX10_undo_5 : decode cX10_undo 5 = .ok (.getfield 215, 3) := by decide +kernel
theorem dX10_undo_8 : decode cX10_undo 8 = .ok (.ifCond .ne 10, 3) := by decide +kernel
theorem dX10_undo_11 : decode cX10_undo 11 = .ok (.aload_n 0, 1) := by decide +kernel
theorem dX10_undo_12 : decode cX10_undo 12 = .ok (.bipush 6, 2) := by decide +kernel
theorem dX10_undo_14 : decode cX10_undo 14 = .ok (.invokevirtual 420, 3) := by decide +kernel
theorem dX10_undo_17 : decode cX10_undo 17 = .ok (.ireturn, 1) := by decide +kernel
theorem dX10_undo_18 : decode cX10_undo 18 = .ok (.aload_n 0, 1) := by decide +kernel
theorem dX10_undo_19 : decode cX10_undo 19 = .ok (.dup, 1) := by decide +kernel
theorem dX10_undo_20 : decode cX10_undo 20 = .ok (.getfield 215, 3) := by decide +kernel
theorem dX10_undo_23 : decode cX10_undo 23 = .ok (.iconst 1, 1) := by decide +kernel
theorem dX10_undo_24 : decode cX10_undo 24 = .ok (.isub, 1) := by decide +kernel
theorem dX10_undo_25 : decode cX10_undo 25 = .ok (.putfield 215, 3) := by decide +kernel
theorem dX10_undo_28 : decode cX10_undo 28 = .ok (.aload_n 0, 1) := by decide +kernel
theorem dX10_undo_29 : decode cX10_undo 29 = .ok (.getfield 36, 3) := by decide +kernel
theorem dX10_undo_32 : decode cX10_undo 32 = .ok (.bipush 68, 2) := by decide +kernel
theorem dX10_undo_34 : decode cX10_undo 34 = .ok (.aload_n 0, 1) := by decide +kernel
theorem dX10_undo_35 : decode cX10_undo 35 = .ok (.getfield 215, 3) := by decide +kernel
theorem dX10_undo_38 : decode cX10_undo 38 = .ok (.imul, 1) := by decide +kernel
theorem dX10_undo_39 : decode cX10_undo 39 = .ok (.aload_n 0, 1) := by decide +kernel
theorem dX10_undo_40 : decode cX10_undo 40 = .ok (.getfield 33, 3) := by decide +kernel
theorem dX10_undo_43 : decode cX10_undo 43 = .ok (.iconst 0, 1) := by decide +kernel
theorem dX10_undo_44 : decode cX10_undo 44 = .ok (.bipush 68, 2) := by decide +kernel
theorem dX10_undo_46 : decode cX10_undo 46 = .ok (.invokestatic 208, 3) := by decide +kernel
theorem dX10_undo_49 : decode cX10_undo 49 = .ok (.iconst 1, 1) := by decide +kernel
theorem dX10_undo_50 : decode cX10_undo 50 = .ok (.ireturn, 1) := by decide +kernel
theorem dX10_image_0 : decode cX10_image 0 = .ok (.aload_n 0, 1) := by decide +kernel
theorem dX10_image_1 : decode cX10_image 1 = .ok (.invokevirtual 199, 3) := by decide +kernel
theorem dX10_image_4 : decode cX10_image 4 = .ok (.aload_n 0, 1) := by decide +kernel
theorem dX10_image_5 : decode cX10_image 5 = .ok (.getfield 212, 3) := by decide +kernel
theorem dX10_image_8 : decode cX10_image 8 = .ok (.ifCond .ne 9, 3) := by decide +kernel
theorem dX10_image_11 : decode cX10_image 11 = .ok (.aload_n 0, 1) := by decide +kernel
theorem dX10_image_12 : decode cX10_image 12 = .ok (.iconst 1, 1) := by decide +kernel
theorem dX10_image_13 : decode cX10_image 13 = .ok (.invokevirtual 202, 3) := by decide +kernel
theorem dX10_image_16 : decode cX10_image 16 = .ok (.ireturn, 1) := by decide +kernel
theorem dX10_image_17 : decode cX10_image 17 = .ok (.aload_n 0, 1) := by decide +kernel
theorem dX10_image_18 : decode cX10_image 18 = .ok (.getfield 218, 3) := by decide +kernel
theorem dX10_image_21 : decode cX10_image 21 = .ok (.iconst 3, 1) := by decide +kernel
theorem dX10_image_22 : decode cX10_image 22 = .ok (.if_icmp .ne 9, 3) := by decide +kernel
theorem dX10_image_25 : decode cX10_image 25 = .ok (.aload_n 0, 1) := by decide +kernel
theorem dX10_image_26 : decode cX10_image 26 = .ok (.iconst 3, 1) := by decide +kernel
theorem dX10_image_27 : decode cX10_image 27 = .ok (.invokevirtual 202, 3) := by decide +kernel
theorem dX10_image_30 : decode cX10_image 30 = .ok (.ireturn, 1) := by decide +kernel
theorem dX10_image_31 : decode cX10_image 31 = .ok (.aload_n 0, 1) := by decide +kernel
theorem dX10_image_32 : decode cX10_image 32 = .ok (.getfield 33, 3) := by decide +kernel
theorem dX10_image_35 : decode cX10_image 35 = .ok (.iconst 0, 1) := by decide +kernel
theorem dX10_image_36 : decode cX10_image 36 = .ok (.aload_n 0, 1) := by decide +kernel
theorem dX10_image_37 : decode cX10_image 37 = .ok (.getfield 39, 3) := by decide +kernel
theorem dX10_image_40 : decode cX10_image 40 = .ok (.bipush 68, 2) := by decide +kernel
theorem dX10_image_42 : decode cX10_image 42 = .ok (.aload_n 0, 1) := by decide +kernel
theorem dX10_image_43 : decode cX10_image 43 = .ok (.getfield 218, 3) := by decide +kernel
theorem dX10_image_46 : decode cX10_image 46 = .ok (.imul, 1) := by decide +kernel
theorem dX10_image_47 : decode cX10_image 47 = .ok (.bipush 68, 2) := by decide +kernel
theorem dX10_image_49 : decode cX10_image 49 = .ok (.invokestatic 208, 3) := by decide +kernel
theorem dX10_image_52 : decode cX10_image 52 = .ok (.aload_n 0, 1) := by decide +kernel
theorem dX10_image_53 : decode cX10_image 53 = .ok (.dup, 1) := by decide +kernel
theorem dX10_image_54 : decode cX10_image 54 = .ok (.getfield 218, 3) := by decide +kernel
theorem dX10_image_57 : decode cX10_image 57 = .ok (.iconst 1, 1) := by decide +kernel
theorem dX10_image_58 : decode cX10_image 58 = .ok (.iadd, 1) := by decide +kernel
theorem dX10_image_59 : decode cX10_image 59 = .ok (.putfield 218, 3) := by decide +kernel
theorem dX10_image_62 : decode cX10_image 62 = .ok (.aload_n 0, 1) := by decide +kernel
theorem dX10_image_63 : decode cX10_image 63 = .ok (.getfield 218, 3) := by decide +kernel
theorem dX10_image_66 : decode cX10_image 66 = .ok (.iconst 1, 1) := by decide +kernel
theorem dX10_image_67 : decode cX10_image 67 = .ok (.isub, 1) := by decide +kernel
theorem dX10_image_68 : decode cX10_image 68 = .ok (.ireturn, 1) := by decide +kernel
theorem dX10_back_0 : decode cX10_back 0 = .ok (.aload_n 0, 1) := by decide +kernel
theorem dX10_back_1 : decode cX10_back 1 = .ok (.invokevirtual 199, 3) := by decide +kernel
theorem dX10_back_4 : decode cX10_back 4 = .ok (.iload_n 1, 1) := by decide +kernel
theorem dX10_back_5 : decode cX10_back 5 = .ok (.iconst 0, 1) := by decide +kernel
theorem dX10_back_6 : decode cX10_back 6 = .ok (.aload_n 0, 1) := by decide +kernel
theorem dX10_back_7 : decode cX10_back 7 = .ok (.getfield 218, 3) := by decide +kernel
theorem dX10_back_10 : decode cX10_back 10 = .ok (.iconst 1, 1) := by decide +kernel
theorem dX10_back_11 : decode cX10_back 11 = .ok (.isub, 1) := by decide +kernel
theorem dX10_back_12 : decode cX10_back 12 = .ok (.invokestatic 156, 3) := by decide +kernel
theorem dX10_back_15 : decode cX10_back 15 = .ok (.ifCond .ne 9, 3) := by decide +kernel
theorem dX10_back_18 : decode cX10_back 18 = .ok (.aload_n 0, 1) := by decide +kernel
theorem dX10_back_19 : decode cX10_back 19 = .ok (.iconst 1, 1) := by decide +kernel
theorem dX10_back_20 : decode cX10_back 20 = .ok (.invokevirtual 420, 3) := by decide +kernel
theorem dX10_back_23 : decode cX10_back 23 = .ok (.ireturn, 1) := by decide +kernel
theorem dX10_back_24 : decode cX10_back 24 = .ok (.aload_n 0, 1) := by decide +kernel
theorem dX10_back_25 : decode cX10_back 25 = .ok (.getfield 39, 3) := by decide +kernel
theorem dX10_back_28 : decode cX10_back 28 = .ok (.bipush 68, 2) := by decide +kernel
theorem dX10_back_30 : decode cX10_back 30 = .ok (.iload_n 1, 1) := by decide +kernel
theorem dX10_back_31 : decode cX10_back 31 = .ok (.imul, 1) := by decide +kernel
theorem dX10_back_32 : decode cX10_back 32 = .ok (.aload_n 0, 1) := by decide +kernel
theorem dX10_back_33 : decode cX10_back 33 = .ok (.getfield 33, 3) := by decide +kernel
theorem dX10_back_36 : decode cX10_back 36 = .ok (.iconst 0, 1) := by decide +kernel
theorem dX10_back_37 : decode cX10_back 37 = .ok (.bipush 68, 2) := by decide +kernel
theorem dX10_back_39 : decode cX10_back 39 = .ok (.invokestatic 208, 3) := by decide +kernel
theorem dX10_back_42 : decode cX10_back 42 = .ok (.aload_n 0, 1) := by decide +kernel
theorem dX10_back_43 : decode cX10_back 43 = .ok (.iconst 0, 1) := by decide +kernel
theorem dX10_back_44 : decode cX10_back 44 = .ok (.putfield 215, 3) := by decide +kernel
theorem dX10_back_47 : decode cX10_back 47 = .ok (.iconst 1, 1) := by decide +kernel
theorem dX10_back_48 : decode cX10_back 48 = .ok (.ireturn, 1) := by decide +kernel
theorem dX10_led_0 : decode cX10_led 0 = .ok (.iconst 0, 1) := by decide +kernel
theorem dX10_led_1 : decode cX10_led 1 = .ok (.istore_n 2, 1) := by decide +kernel
theorem dX10_led_2 : decode cX10_led 2 = .ok (.iconst 0, 1) := by decide +kernel
theorem dX10_led_3 : decode cX10_led 3 = .ok (.istore_n 3, 1) := by decide +kernel
theorem dX10_led_4 : decode cX10_led 4 = .ok (.aload_n 0, 1) := by decide +kernel
theorem dX10_led_5 : decode cX10_led 5 = .ok (.getfield 212, 3) := by decide +kernel
theorem dX10_led_8 : decode cX10_led 8 = .ok (.ifCond .eq 45, 3) := by decide +kernel
theorem dX10_led_11 : decode cX10_led 11 = .ok (.iload_n 3, 1) := by decide +kernel
theorem dX10_led_12 : decode cX10_led 12 = .ok (.aload_n 0, 1) := by decide +kernel
theorem dX10_led_13 : decode cX10_led 13 = .ok (.getfield 33, 3) := by decide +kernel
theorem dX10_led_16 : decode cX10_led 16 = .ok (.iconst 1, 1) := by decide +kernel
theorem dX10_led_17 : decode cX10_led 17 = .ok (.iaload, 1) := by decide +kernel
theorem dX10_led_18 : decode cX10_led 18 = .ok (.if_icmp .ge 35, 3) := by decide +kernel
theorem dX10_led_21 : decode cX10_led 21 = .ok (.aload_n 0, 1) := by decide +kernel
theorem dX10_led_22 : decode cX10_led 22 = .ok (.iload_n 3, 1) := by decide +kernel
theorem dX10_led_23 : decode cX10_led 23 = .ok (.invokevirtual 345, 3) := by decide +kernel
theorem dX10_led_26 : decode cX10_led 26 = .ok (.ifCond .eq 6, 3) := by decide +kernel
theorem dX10_led_29 : decode cX10_led 29 = .ok (.goto 18, 3) := by decide +kernel
theorem dX10_led_32 : decode cX10_led 32 = .ok (.iload_n 2, 1) := by decide +kernel
theorem dX10_led_33 : decode cX10_led 33 = .ok (.iload_n 1, 1) := by decide +kernel
theorem dX10_led_34 : decode cX10_led 34 = .ok (.if_icmp .ne 10, 3) := by decide +kernel
theorem dX10_led_37 : decode cX10_led 37 = .ok (.aload_n 0, 1) := by decide +kernel
theorem dX10_led_38 : decode cX10_led 38 = .ok (.iconst 0, 1) := by decide +kernel
theorem dX10_led_39 : decode cX10_led 39 = .ok (.putfield 51, 3) := by decide +kernel
theorem dX10_led_42 : decode cX10_led 42 = .ok (.iload_n 3, 1) := by decide +kernel
theorem dX10_led_43 : decode cX10_led 43 = .ok (.ireturn, 1) := by decide +kernel
theorem dX10_led_44 : decode cX10_led 44 = .ok (.iinc 2 1, 3) := by decide +kernel
theorem dX10_led_47 : decode cX10_led 47 = .ok (.iinc 3 1, 3) := by decide +kernel
theorem dX10_led_50 : decode cX10_led 50 = .ok (.goto (-46), 3) := by decide +kernel
theorem dX10_led_53 : decode cX10_led 53 = .ok (.aload_n 0, 1) := by decide +kernel
theorem dX10_led_54 : decode cX10_led 54 = .ok (.iconst 1, 1) := by decide +kernel
theorem dX10_led_55 : decode cX10_led 55 = .ok (.putfield 51, 3) := by decide +kernel
theorem dX10_led_58 : decode cX10_led 58 = .ok (.iconst 0, 1) := by decide +kernel
theorem dX10_led_59 : decode cX10_led 59 = .ok (.ireturn, 1) := by decide +kernel
theorem dX10_weddings_0 : decode cX10_weddings 0 = .ok (.iconst 0, 1) := by decide +kernel
theorem dX10_weddings_1 : decode cX10_weddings 1 = .ok (.istore_n 1, 1) := by decide +kernel
theorem dX10_weddings_2 : decode cX10_weddings 2 = .ok (.iconst 0, 1) := by decide +kernel
theorem dX10_weddings_3 : decode cX10_weddings 3 = .ok (.istore_n 2, 1) := by decide +kernel
theorem dX10_weddings_4 : decode cX10_weddings 4 = .ok (.iload_n 2, 1) := by decide +kernel
theorem dX10_weddings_5 : decode cX10_weddings 5 = .ok (.bipush 6, 2) := by decide +kernel
theorem dX10_weddings_7 : decode cX10_weddings 7 = .ok (.if_icmp .ge 25, 3) := by decide +kernel
theorem dX10_weddings_10 : decode cX10_weddings 10 = .ok (.iload_n 1, 1) := by decide +kernel
theorem dX10_weddings_11 : decode cX10_weddings 11 = .ok (.aload_n 0, 1) := by decide +kernel
theorem dX10_weddings_12 : decode cX10_weddings 12 = .ok (.getfield 33, 3) := by decide +kernel
theorem dX10_weddings_15 : decode cX10_weddings 15 = .ok (.bipush 62, 2) := by decide +kernel
theorem dX10_weddings_17 : decode cX10_weddings 17 = .ok (.iload_n 2, 1) := by decide +kernel
theorem dX10_weddings_18 : decode cX10_weddings 18 = .ok (.iadd, 1) := by decide +kernel
theorem dX10_weddings_19 : decode cX10_weddings 19 = .ok (.iaload, 1) := by decide +kernel
theorem dX10_weddings_20 : decode cX10_weddings 20 = .ok (.i2l, 1) := by decide +kernel
theorem dX10_weddings_21 : decode cX10_weddings 21 = .ok (.invokestatic 291, 3) := by decide +kernel
theorem dX10_weddings_24 : decode cX10_weddings 24 = .ok (.iadd, 1) := by decide +kernel
theorem dX10_weddings_25 : decode cX10_weddings 25 = .ok (.istore_n 1, 1) := by decide +kernel
theorem dX10_weddings_26 : decode cX10_weddings 26 = .ok (.iinc 2 1, 3) := by decide +kernel
theorem dX10_weddings_29 : decode cX10_weddings 29 = .ok (.goto (-25), 3) := by decide +kernel
theorem dX10_weddings_32 : decode cX10_weddings 32 = .ok (.iload_n 1, 1) := by decide +kernel
theorem dX10_weddings_33 : decode cX10_weddings 33 = .ok (.iconst 2, 1) := by decide +kernel
theorem dX10_weddings_34 : decode cX10_weddings 34 = .ok (.idiv, 1) := by decide +kernel
theorem dX10_weddings_35 : decode cX10_weddings 35 = .ok (.ireturn, 1) := by decide +kernel
theorem dX10_size_0 : decode cX10_size 0 = .ok (.aload_n 0, 1) := by decide +kernel
theorem dX10_size_1 : decode cX10_size 1 = .ok (.iconst 0, 1) := by decide +kernel
theorem dX10_size_2 : decode cX10_size 2 = .ok (.putfield 51, 3) := by decide +kernel
theorem dX10_size_5 : decode cX10_size 5 = .ok (.iload_n 1, 1) := by decide +kernel
theorem dX10_size_6 : decode cX10_size 6 = .ok (.bipush 12, 2) := by decide +kernel
theorem dX10_size_8 : decode cX10_size 8 = .ok (.if_icmp .ne 8, 3) := by decide +kernel
theorem dX10_size_11 : decode cX10_size 11 = .ok (.aload_n 0, 1) := by decide +kernel
theorem dX10_size_12 : decode cX10_size 12 = .ok (.getfield 57, 3) := by decide +kernel
theorem dX10_size_15 : decode cX10_size 15 = .ok (.ireturn, 1) := by decide +kernel
theorem dX10_size_16 : decode cX10_size 16 = .ok (.aload_n 0, 1) := by decide +kernel
theorem dX10_size_17 : decode cX10_size 17 = .ok (.getfield 212, 3) := by decide +kernel
theorem dX10_size_20 : decode cX10_size 20 = .ok (.ifCond .ne 19, 3) := by decide +kernel
theorem dX10_size_23 : decode cX10_size 23 = .ok (.iload_n 1, 1) := by decide +kernel
theorem dX10_size_24 : decode cX10_size 24 = .ok (.iconst 0, 1) := by decide +kernel
theorem dX10_size_25 : decode cX10_size 25 = .ok (.bipush 11, 2) := by decide +kernel
theorem dX10_size_27 : decode cX10_size 27 = .ok (.invokestatic 156, 3) := by decide +kernel
theorem dX10_size_30 : decode cX10_size 30 = .ok (.ifCond .eq 7, 3) := by decide +kernel
theorem dX10_size_33 : decode cX10_size 33 = .ok (.iconst 0, 1) := by decide +kernel
theorem dX10_size_34 : decode cX10_size 34 = .ok (.goto 4, 3) := by decide +kernel
theorem dX10_size_37 : decode cX10_size 37 = .ok (.iconst (-1), 1) := by decide +kernel
theorem dX10_size_38 : decode cX10_size 38 = .ok (.ireturn, 1) := by decide +kernel
theorem dX10_size_39 : decode cX10_size 39 = .ok (.iload_n 1, 1) := by decide +kernel
theorem dX10_size_40 : decode cX10_size 40 = .ok (.tableswitch 152 0 11 #[64, 71, 78, 85, 92, 99, 106, 114, 119, 126, 142, 147], 64) := by decide +kernel
theorem dX10_size_104 : decode cX10_size 104 = .ok (.aload_n 0, 1) := by decide +kernel
theorem dX10_size_105 : decode cX10_size 105 = .ok (.getfield 20, 3) := by decide +kernel
theorem dX10_size_108 : decode cX10_size 108 = .ok (.iconst 1, 1) := by decide +kernel
theorem dX10_size_109 : decode cX10_size 109 = .ok (.iaload, 1) := by decide +kernel
theorem dX10_size_110 : decode cX10_size 110 = .ok (.ireturn, 1) := by decide +kernel
theorem dX10_size_111 : decode cX10_size 111 = .ok (.aload_n 0, 1) := by decide +kernel
theorem dX10_size_112 : decode cX10_size 112 = .ok (.getfield 20, 3) := by decide +kernel
theorem dX10_size_115 : decode cX10_size 115 = .ok (.iconst 2, 1) := by decide +kernel
theorem dX10_size_116 : decode cX10_size 116 = .ok (.iaload, 1) := by decide +kernel
theorem dX10_size_117 : decode cX10_size 117 = .ok (.ireturn, 1) := by decide +kernel
theorem dX10_size_118 : decode cX10_size 118 = .ok (.aload_n 0, 1) := by decide +kernel
theorem dX10_size_119 : decode cX10_size 119 = .ok (.getfield 20, 3) := by decide +kernel
theorem dX10_size_122 : decode cX10_size 122 = .ok (.iconst 3, 1) := by decide +kernel
theorem dX10_size_123 : decode cX10_size 123 = .ok (.iaload, 1) := by decide +kernel
theorem dX10_size_124 : decode cX10_size 124 = .ok (.ireturn, 1) := by decide +kernel
theorem dX10_size_125 : decode cX10_size 125 = .ok (.aload_n 0, 1) := by decide +kernel
theorem dX10_size_126 : decode cX10_size 126 = .ok (.getfield 20, 3) := by decide +kernel
theorem dX10_size_129 : decode cX10_size 129 = .ok (.iconst 4, 1) := by decide +kernel
theorem dX10_size_130 : decode cX10_size 130 = .ok (.iaload, 1) := by decide +kernel
theorem dX10_size_131 : decode cX10_size 131 = .ok (.ireturn, 1) := by decide +kernel
theorem dX10_size_132 : decode cX10_size 132 = .ok (.aload_n 0, 1) := by decide +kernel
theorem dX10_size_133 : decode cX10_size 133 = .ok (.getfield 20, 3) := by decide +kernel
theorem dX10_size_136 : decode cX10_size 136 = .ok (.iconst 5, 1) := by decide +kernel
theorem dX10_size_137 : decode cX10_size 137 = .ok (.iaload, 1) := by decide +kernel
theorem dX10_size_138 : decode cX10_size 138 = .ok (.ireturn, 1) := by decide +kernel
theorem dX10_size_139 : decode cX10_size 139 = .ok (.aload_n 0, 1) := by decide +kernel
theorem dX10_size_140 : decode cX10_size 140 = .ok (.getfield 33, 3) := by decide +kernel
theorem dX10_size_143 : decode cX10_size 143 = .ok (.iconst 1, 1) := by decide +kernel
theorem dX10_size_144 : decode cX10_size 144 = .ok (.iaload, 1) := by decide +kernel
theorem dX10_size_145 : decode cX10_size 145 = .ok (.ireturn, 1) := by decide +kernel
theorem dX10_size_146 : decode cX10_size 146 = .ok (.aload_n 0, 1) := by decide +kernel
theorem dX10_size_147 : decode cX10_size 147 = .ok (.getfield 20, 3) := by decide +kernel
theorem dX10_size_150 : decode cX10_size 150 = .ok (.bipush 7, 2) := by decide +kernel
theorem dX10_size_152 : decode cX10_size 152 = .ok (.iaload, 1) := by decide +kernel
theorem dX10_size_153 : decode cX10_size 153 = .ok (.ireturn, 1) := by decide +kernel
theorem dX10_size_154 : decode cX10_size 154 = .ok (.aload_n 0, 1) := by decide +kernel
theorem dX10_size_155 : decode cX10_size 155 = .ok (.invokevirtual 423, 3) := by decide +kernel
theorem dX10_size_158 : decode cX10_size 158 = .ok (.ireturn, 1) := by decide +kernel
theorem dX10_size_159 : decode cX10_size 159 = .ok (.aload_n 0, 1) := by decide +kernel
theorem dX10_size_160 : decode cX10_size 160 = .ok (.getfield 33, 3) := by decide +kernel
theorem dX10_size_163 : decode cX10_size 163 = .ok (.iconst 0, 1) := by decide +kernel
theorem dX10_size_164 : decode cX10_size 164 = .ok (.iaload, 1) := by decide +kernel
theorem dX10_size_165 : decode cX10_size 165 = .ok (.ireturn, 1) := by decide +kernel
theorem dX10_size_166 : decode cX10_size 166 = .ok (.aload_n 0, 1) := by decide +kernel
theorem dX10_size_167 : decode cX10_size 167 = .ok (.getfield 20, 3) := by decide +kernel
theorem dX10_size_170 : decode cX10_size 170 = .ok (.bipush 10, 2) := by decide +kernel
theorem dX10_size_172 : decode cX10_size 172 = .ok (.iaload, 1) := by decide +kernel
theorem dX10_size_173 : decode cX10_size 173 = .ok (.ifCond .le 7, 3) := by decide +kernel
theorem dX10_size_176 : decode cX10_size 176 = .ok (.iconst 1, 1) := by decide +kernel
theorem dX10_size_177 : decode cX10_size 177 = .ok (.goto 4, 3) := by decide +kernel
theorem dX10_size_180 : decode cX10_size 180 = .ok (.iconst 0, 1) := by decide +kernel
theorem dX10_size_181 : decode cX10_size 181 = .ok (.ireturn, 1) := by decide +kernel
theorem dX10_size_182 : decode cX10_size 182 = .ok (.aload_n 0, 1) := by decide +kernel
theorem dX10_size_183 : decode cX10_size 183 = .ok (.getfield 215, 3) := by decide +kernel
theorem dX10_size_186 : decode cX10_size 186 = .ok (.ireturn, 1) := by decide +kernel
theorem dX10_size_187 : decode cX10_size 187 = .ok (.aload_n 0, 1) := by decide +kernel
theorem dX10_size_188 : decode cX10_size 188 = .ok (.getfield 218, 3) := by decide +kernel
theorem dX10_size_191 : decode cX10_size 191 = .ok (.ireturn, 1) := by decide +kernel
theorem dX10_size_192 : decode cX10_size 192 = .ok (.iconst (-1), 1) := by decide +kernel
theorem dX10_size_193 : decode cX10_size 193 = .ok (.ireturn, 1) := by decide +kernel
theorem dX10_trouble_0 : decode cX10_trouble 0 = .ok (.aload_n 0, 1) := by decide +kernel
theorem dX10_trouble_1 : decode cX10_trouble 1 = .ok (.iconst 0, 1) := by decide +kernel
theorem dX10_trouble_2 : decode cX10_trouble 2 = .ok (.putfield 51, 3) := by decide +kernel
theorem dX10_trouble_5 : decode cX10_trouble 5 = .ok (.aload_n 0, 1) := by decide +kernel
theorem dX10_trouble_6 : decode cX10_trouble 6 = .ok (.getfield 54, 3) := by decide +kernel
theorem dX10_trouble_9 : decode cX10_trouble 9 = .ok (.ireturn, 1) := by decide +kernel
theorem dJ6_bitCount_0f7a4_0 : decode cJ6_bitCount_0f7a4 0 = .ok (.iload_n 0, 1) := by decide +kernel
theorem dJ6_bitCount_0f7a4_1 : decode cJ6_bitCount_0f7a4 1 = .ok (.iload_n 0, 1) := by decide +kernel
theorem dJ6_bitCount_0f7a4_2 : decode cJ6_bitCount_0f7a4 2 = .ok (.iconst 1, 1) := by decide +kernel
theorem dJ6_bitCount_0f7a4_3 : decode cJ6_bitCount_0f7a4 3 = .ok (.iushr, 1) := by decide +kernel
theorem dJ6_bitCount_0f7a4_4 : decode cJ6_bitCount_0f7a4 4 = .ok (.ldc_w 265, 3) := by decide +kernel
theorem dJ6_bitCount_0f7a4_7 : decode cJ6_bitCount_0f7a4 7 = .ok (.iand, 1) := by decide +kernel
theorem dJ6_bitCount_0f7a4_8 : decode cJ6_bitCount_0f7a4 8 = .ok (.isub, 1) := by decide +kernel
theorem dJ6_bitCount_0f7a4_9 : decode cJ6_bitCount_0f7a4 9 = .ok (.istore_n 0, 1) := by decide +kernel
theorem dJ6_bitCount_0f7a4_10 : decode cJ6_bitCount_0f7a4 10 = .ok (.iload_n 0, 1) := by decide +kernel
theorem dJ6_bitCount_0f7a4_11 : decode cJ6_bitCount_0f7a4 11 = .ok (.ldc_w 266, 3) := by decide +kernel
theorem dJ6_bitCount_0f7a4_14 : decode cJ6_bitCount_0f7a4 14 = .ok (.iand, 1) := by decide +kernel
theorem dJ6_bitCount_0f7a4_15 : decode cJ6_bitCount_0f7a4 15 = .ok (.iload_n 0, 1) := by decide +kernel
theorem dJ6_bitCount_0f7a4_16 : decode cJ6_bitCount_0f7a4 16 = .ok (.iconst 2, 1) := by decide +kernel
theorem dJ6_bitCount_0f7a4_17 : decode cJ6_bitCount_0f7a4 17 = .ok (.iushr, 1) := by decide +kernel
theorem dJ6_bitCount_0f7a4_18 : decode cJ6_bitCount_0f7a4 18 = .ok (.ldc_w 266, 3) := by decide +kernel
theorem dJ6_bitCount_0f7a4_21 : decode cJ6_bitCount_0f7a4 21 = .ok (.iand, 1) := by decide +kernel
theorem dJ6_bitCount_0f7a4_22 : decode cJ6_bitCount_0f7a4 22 = .ok (.iadd, 1) := by decide +kernel
theorem dJ6_bitCount_0f7a4_23 : decode cJ6_bitCount_0f7a4 23 = .ok (.istore_n 0, 1) := by decide +kernel
theorem dJ6_bitCount_0f7a4_24 : decode cJ6_bitCount_0f7a4 24 = .ok (.iload_n 0, 1) := by decide +kernel
theorem dJ6_bitCount_0f7a4_25 : decode cJ6_bitCount_0f7a4 25 = .ok (.iload_n 0, 1) := by decide +kernel
theorem dJ6_bitCount_0f7a4_26 : decode cJ6_bitCount_0f7a4 26 = .ok (.iconst 4, 1) := by decide +kernel
theorem dJ6_bitCount_0f7a4_27 : decode cJ6_bitCount_0f7a4 27 = .ok (.iushr, 1) := by decide +kernel
theorem dJ6_bitCount_0f7a4_28 : decode cJ6_bitCount_0f7a4 28 = .ok (.iadd, 1) := by decide +kernel
theorem dJ6_bitCount_0f7a4_29 : decode cJ6_bitCount_0f7a4 29 = .ok (.ldc_w 267, 3) := by decide +kernel
theorem dJ6_bitCount_0f7a4_32 : decode cJ6_bitCount_0f7a4 32 = .ok (.iand, 1) := by decide +kernel
theorem dJ6_bitCount_0f7a4_33 : decode cJ6_bitCount_0f7a4 33 = .ok (.istore_n 0, 1) := by decide +kernel
theorem dJ6_bitCount_0f7a4_34 : decode cJ6_bitCount_0f7a4 34 = .ok (.iload_n 0, 1) := by decide +kernel
theorem dJ6_bitCount_0f7a4_35 : decode cJ6_bitCount_0f7a4 35 = .ok (.iload_n 0, 1) := by decide +kernel
theorem dJ6_bitCount_0f7a4_36 : decode cJ6_bitCount_0f7a4 36 = .ok (.bipush 8, 2) := by decide +kernel
theorem dJ6_bitCount_0f7a4_38 : decode cJ6_bitCount_0f7a4 38 = .ok (.iushr, 1) := by decide +kernel
theorem dJ6_bitCount_0f7a4_39 : decode cJ6_bitCount_0f7a4 39 = .ok (.iadd, 1) := by decide +kernel
theorem dJ6_bitCount_0f7a4_40 : decode cJ6_bitCount_0f7a4 40 = .ok (.istore_n 0, 1) := by decide +kernel
theorem dJ6_bitCount_0f7a4_41 : decode cJ6_bitCount_0f7a4 41 = .ok (.iload_n 0, 1) := by decide +kernel
theorem dJ6_bitCount_0f7a4_42 : decode cJ6_bitCount_0f7a4 42 = .ok (.iload_n 0, 1) := by decide +kernel
theorem dJ6_bitCount_0f7a4_43 : decode cJ6_bitCount_0f7a4 43 = .ok (.bipush 16, 2) := by decide +kernel
theorem dJ6_bitCount_0f7a4_45 : decode cJ6_bitCount_0f7a4 45 = .ok (.iushr, 1) := by decide +kernel
theorem dJ6_bitCount_0f7a4_46 : decode cJ6_bitCount_0f7a4 46 = .ok (.iadd, 1) := by decide +kernel
theorem dJ6_bitCount_0f7a4_47 : decode cJ6_bitCount_0f7a4 47 = .ok (.istore_n 0, 1) := by decide +kernel
theorem dJ6_bitCount_0f7a4_48 : decode cJ6_bitCount_0f7a4 48 = .ok (.iload_n 0, 1) := by decide +kernel
theorem dJ6_bitCount_0f7a4_49 : decode cJ6_bitCount_0f7a4 49 = .ok (.bipush 63, 2) := by decide +kernel
theorem dJ6_bitCount_0f7a4_51 : decode cJ6_bitCount_0f7a4 51 = .ok (.iand, 1) := by decide +kernel
theorem dJ6_bitCount_0f7a4_52 : decode cJ6_bitCount_0f7a4 52 = .ok (.ireturn, 1) := by decide +kernel
theorem dJ13_bitCount_95d88_0 : decode cJ13_bitCount_95d88 0 = .ok (.lload_n 0, 1) := by decide +kernel
theorem dJ13_bitCount_95d88_1 : decode cJ13_bitCount_95d88 1 = .ok (.lload_n 0, 1) := by decide +kernel
theorem dJ13_bitCount_95d88_2 : decode cJ13_bitCount_95d88 2 = .ok (.iconst 1, 1) := by decide +kernel
theorem dJ13_bitCount_95d88_3 : decode cJ13_bitCount_95d88 3 = .ok (.lushr, 1) := by decide +kernel
theorem dJ13_bitCount_95d88_4 : decode cJ13_bitCount_95d88 4 = .ok (.ldc2_w 314, 3) := by decide +kernel
theorem dJ13_bitCount_95d88_7 : decode cJ13_bitCount_95d88 7 = .ok (.land, 1) := by decide +kernel
theorem dJ13_bitCount_95d88_8 : decode cJ13_bitCount_95d88 8 = .ok (.lsub, 1) := by decide +kernel
theorem dJ13_bitCount_95d88_9 : decode cJ13_bitCount_95d88 9 = .ok (.lstore_n 0, 1) := by decide +kernel
theorem dJ13_bitCount_95d88_10 : decode cJ13_bitCount_95d88 10 = .ok (.lload_n 0, 1) := by decide +kernel
theorem dJ13_bitCount_95d88_11 : decode cJ13_bitCount_95d88 11 = .ok (.ldc2_w 316, 3) := by decide +kernel
theorem dJ13_bitCount_95d88_14 : decode cJ13_bitCount_95d88 14 = .ok (.land, 1) := by decide +kernel
theorem dJ13_bitCount_95d88_15 : decode cJ13_bitCount_95d88 15 = .ok (.lload_n 0, 1) := by decide +kernel
theorem dJ13_bitCount_95d88_16 : decode cJ13_bitCount_95d88 16 = .ok (.iconst 2, 1) := by decide +kernel
theorem dJ13_bitCount_95d88_17 : decode cJ13_bitCount_95d88 17 = .ok (.lushr, 1) := by decide +kernel
theorem dJ13_bitCount_95d88_18 : decode cJ13_bitCount_95d88 18 = .ok (.ldc2_w 316, 3) := by decide +kernel
theorem dJ13_bitCount_95d88_21 : decode cJ13_bitCount_95d88 21 = .ok (.land, 1) := by decide +kernel
theorem dJ13_bitCount_95d88_22 : decode cJ13_bitCount_95d88 22 = .ok (.ladd, 1) := by decide +kernel
theorem dJ13_bitCount_95d88_23 : decode cJ13_bitCount_95d88 23 = .ok (.lstore_n 0, 1) := by decide +kernel
theorem dJ13_bitCount_95d88_24 : decode cJ13_bitCount_95d88 24 = .ok (.lload_n 0, 1) := by decide +kernel
theorem dJ13_bitCount_95d88_25 : decode cJ13_bitCount_95d88 25 = .ok (.lload_n 0, 1) := by decide +kernel
theorem dJ13_bitCount_95d88_26 : decode cJ13_bitCount_95d88 26 = .ok (.iconst 4, 1) := by decide +kernel
theorem dJ13_bitCount_95d88_27 : decode cJ13_bitCount_95d88 27 = .ok (.lushr, 1) := by decide +kernel
theorem dJ13_bitCount_95d88_28 : decode cJ13_bitCount_95d88 28 = .ok (.ladd, 1) := by decide +kernel
theorem dJ13_bitCount_95d88_29 : decode cJ13_bitCount_95d88 29 = .ok (.ldc2_w 318, 3) := by decide +kernel
theorem dJ13_bitCount_95d88_32 : decode cJ13_bitCount_95d88 32 = .ok (.land, 1) := by decide +kernel
theorem dJ13_bitCount_95d88_33 : decode cJ13_bitCount_95d88 33 = .ok (.lstore_n 0, 1) := by decide +kernel
theorem dJ13_bitCount_95d88_34 : decode cJ13_bitCount_95d88 34 = .ok (.lload_n 0, 1) := by decide +kernel
theorem dJ13_bitCount_95d88_35 : decode cJ13_bitCount_95d88 35 = .ok (.lload_n 0, 1) := by decide +kernel
theorem dJ13_bitCount_95d88_36 : decode cJ13_bitCount_95d88 36 = .ok (.bipush 8, 2) := by decide +kernel
theorem dJ13_bitCount_95d88_38 : decode cJ13_bitCount_95d88 38 = .ok (.lushr, 1) := by decide +kernel
theorem dJ13_bitCount_95d88_39 : decode cJ13_bitCount_95d88 39 = .ok (.ladd, 1) := by decide +kernel
theorem dJ13_bitCount_95d88_40 : decode cJ13_bitCount_95d88 40 = .ok (.lstore_n 0, 1) := by decide +kernel
theorem dJ13_bitCount_95d88_41 : decode cJ13_bitCount_95d88 41 = .ok (.lload_n 0, 1) := by decide +kernel
theorem dJ13_bitCount_95d88_42 : decode cJ13_bitCount_95d88 42 = .ok (.lload_n 0, 1) := by decide +kernel
theorem dJ13_bitCount_95d88_43 : decode cJ13_bitCount_95d88 43 = .ok (.bipush 16, 2) := by decide +kernel
theorem dJ13_bitCount_95d88_45 : decode cJ13_bitCount_95d88 45 = .ok (.lushr, 1) := by decide +kernel
theorem dJ13_bitCount_95d88_46 : decode cJ13_bitCount_95d88 46 = .ok (.ladd, 1) := by decide +kernel
theorem dJ13_bitCount_95d88_47 : decode cJ13_bitCount_95d88 47 = .ok (.lstore_n 0, 1) := by decide +kernel
theorem dJ13_bitCount_95d88_48 : decode cJ13_bitCount_95d88 48 = .ok (.lload_n 0, 1) := by decide +kernel
theorem dJ13_bitCount_95d88_49 : decode cJ13_bitCount_95d88 49 = .ok (.lload_n 0, 1) := by decide +kernel
theorem dJ13_bitCount_95d88_50 : decode cJ13_bitCount_95d88 50 = .ok (.bipush 32, 2) := by decide +kernel
theorem dJ13_bitCount_95d88_52 : decode cJ13_bitCount_95d88 52 = .ok (.lushr, 1) := by decide +kernel
theorem dJ13_bitCount_95d88_53 : decode cJ13_bitCount_95d88 53 = .ok (.ladd, 1) := by decide +kernel
theorem dJ13_bitCount_95d88_54 : decode cJ13_bitCount_95d88 54 = .ok (.lstore_n 0, 1) := by decide +kernel
theorem dJ13_bitCount_95d88_55 : decode cJ13_bitCount_95d88 55 = .ok (.lload_n 0, 1) := by decide +kernel
theorem dJ13_bitCount_95d88_56 : decode cJ13_bitCount_95d88 56 = .ok (.l2i, 1) := by decide +kernel
theorem dJ13_bitCount_95d88_57 : decode cJ13_bitCount_95d88 57 = .ok (.bipush 127, 2) := by decide +kernel
theorem dJ13_bitCount_95d88_59 : decode cJ13_bitCount_95d88 59 = .ok (.iand, 1) := by decide +kernel
theorem dJ13_bitCount_95d88_60 : decode cJ13_bitCount_95d88 60 = .ok (.ireturn, 1) := by decide +kernel
theorem dJ9_max_7cf53_0 : decode cJ9_max_7cf53 0 = .ok (.iload_n 0, 1) := by decide +kernel
theorem dJ9_max_7cf53_1 : decode cJ9_max_7cf53 1 = .ok (.iload_n 1, 1) := by decide +kernel
theorem dJ9_max_7cf53_2 : decode cJ9_max_7cf53 2 = .ok (.if_icmp .lt 7, 3) := by decide +kernel
theorem dJ9_max_7cf53_5 : decode cJ9_max_7cf53 5 = .ok (.iload_n 0, 1) := by decide +kernel
theorem dJ9_max_7cf53_6 : decode cJ9_max_7cf53 6 = .ok (.goto 4, 3) := by decide +kernel
theorem dJ9_max_7cf53_9 : decode cJ9_max_7cf53 9 = .ok (.iload_n 1, 1) := by decide +kernel
theorem dJ9_max_7cf53_10 : decode cJ9_max_7cf53 10 = .ok (.ireturn, 1) := by decide +kernel
theorem dJ9_min_7cf53_0 : decode cJ9_min_7cf53 0 = .ok (.iload_n 0, 1) := by decide +kernel
theorem dJ9_min_7cf53_1 : decode cJ9_min_7cf53 1 = .ok (.iload_n 1, 1) := by decide +kernel
theorem dJ9_min_7cf53_2 : decode cJ9_min_7cf53 2 = .ok (.if_icmp .gt 7, 3) := by decide +kernel
theorem dJ9_min_7cf53_5 : decode cJ9_min_7cf53 5 = .ok (.iload_n 0, 1) := by decide +kernel
theorem dJ9_min_7cf53_6 : decode cJ9_min_7cf53 6 = .ok (.goto 4, 3) := by decide +kernel
theorem dJ9_min_7cf53_9 : decode cJ9_min_7cf53 9 = .ok (.iload_n 1, 1) := by decide +kernel
theorem dJ9_min_7cf53_10 : decode cJ9_min_7cf53 10 = .ok (.ireturn, 1) := by decide +kernel
theorem dJ0_length_8abf5_0 : decode cJ0_length_8abf5 0 = .ok (.aload_n 0, 1) := by decide +kernel
theorem dJ0_length_8abf5_1 : decode cJ0_length_8abf5 1 = .ok (.getfield 9, 3) := by decide +kernel
theorem dJ0_length_8abf5_4 : decode cJ0_length_8abf5 4 = .ok (.arraylength, 1) := by decide +kernel
theorem dJ0_length_8abf5_5 : decode cJ0_length_8abf5 5 = .ok (.aload_n 0, 1) := by decide +kernel
theorem dJ0_length_8abf5_6 : decode cJ0_length_8abf5 6 = .ok (.invokevirtual 335, 3) := by decide +kernel
theorem dJ0_length_8abf5_9 : decode cJ0_length_8abf5 9 = .ok (.ishr, 1) := by decide +kernel
theorem dJ0_length_8abf5_10 : decode cJ0_length_8abf5 10 = .ok (.ireturn, 1) := by decide +kernel
theorem dJ0_charAt_5068e_0 : decode cJ0_charAt_5068e 0 = .ok (.aload_n 0, 1) := by decide +kernel
theorem dJ0_charAt_5068e_1 : decode cJ0_charAt_5068e 1 = .ok (.invokevirtual 492, 3) := by decide +kernel
theorem dJ0_charAt_5068e_4 : decode cJ0_charAt_5068e 4 = .ok (.ifCond .eq 12, 3) := by decide +kernel
theorem dJ0_charAt_5068e_7 : decode cJ0_charAt_5068e 7 = .ok (.aload_n 0, 1) := by decide +kernel
theorem dJ0_charAt_5068e_8 : decode cJ0_charAt_5068e 8 = .ok (.getfield 9, 3) := by decide +kernel
theorem dJ0_charAt_5068e_11 : decode cJ0_charAt_5068e 11 = .ok (.iload_n 1, 1) := by decide +kernel
theorem dJ0_charAt_5068e_12 : decode cJ0_charAt_5068e 12 = .ok (.invokestatic 495, 3) := by decide +kernel
theorem dJ0_charAt_5068e_15 : decode cJ0_charAt_5068e 15 = .ok (.ireturn, 1) := by decide +kernel
theorem dJ0_charAt_5068e_16 : decode cJ0_charAt_5068e 16 = .ok (.aload_n 0, 1) := by decide +kernel
theorem dJ0_charAt_5068e_17 : decode cJ0_charAt_5068e 17 = .ok (.getfield 9, 3) := by decide +kernel
theorem dJ0_charAt_5068e_20 : decode cJ0_charAt_5068e 20 = .ok (.iload_n 1, 1) := by decide +kernel
theorem dJ0_charAt_5068e_21 : decode cJ0_charAt_5068e 21 = .ok (.invokestatic 498, 3) := by decide +kernel
theorem dJ0_charAt_5068e_24 : decode cJ0_charAt_5068e 24 = .ok (.ireturn, 1) := by decide +kernel
theorem dJ0_coder_7d493_0 : decode cJ0_coder_7d493 0 = .ok (.getstatic 38, 3) := by decide +kernel
theorem dJ0_coder_7d493_3 : decode cJ0_coder_7d493 3 = .ok (.ifCond .eq 10, 3) := by decide +kernel
theorem dJ0_coder_7d493_6 : decode cJ0_coder_7d493 6 = .ok (.aload_n 0, 1) := by decide +kernel
theorem dJ0_coder_7d493_7 : decode cJ0_coder_7d493 7 = .ok (.getfield 15, 3) := by decide +kernel
theorem dJ0_coder_7d493_10 : decode cJ0_coder_7d493 10 = .ok (.goto 4, 3) := by decide +kernel
theorem dJ0_coder_7d493_13 : decode cJ0_coder_7d493 13 = .ok (.iconst 1, 1) := by decide +kernel
theorem dJ0_coder_7d493_14 : decode cJ0_coder_7d493 14 = .ok (.ireturn, 1) := by decide +kernel
theorem dJ0_isLatin1_aae02_0 : decode cJ0_isLatin1_aae02 0 = .ok (.getstatic 38, 3) := by decide +kernel
theorem dJ0_isLatin1_aae02_3 : decode cJ0_isLatin1_aae02 3 = .ok (.ifCond .eq 14, 3) := by decide +kernel
theorem dJ0_isLatin1_aae02_6 : decode cJ0_isLatin1_aae02 6 = .ok (.aload_n 0, 1) := by decide +kernel
theorem dJ0_isLatin1_aae02_7 : decode cJ0_isLatin1_aae02 7 = .ok (.getfield 15, 3) := by decide +kernel
theorem dJ0_isLatin1_aae02_10 : decode cJ0_isLatin1_aae02 10 = .ok (.ifCond .ne 7, 3) := by decide +kernel
theorem dJ0_isLatin1_aae02_13 : decode cJ0_isLatin1_aae02 13 = .ok (.iconst 1, 1) := by decide +kernel
theorem dJ0_isLatin1_aae02_14 : decode cJ0_isLatin1_aae02 14 = .ok (.goto 4, 3) := by decide +kernel
theorem dJ0_isLatin1_aae02_17 : decode cJ0_isLatin1_aae02 17 = .ok (.iconst 0, 1) := by decide +kernel
theorem dJ0_isLatin1_aae02_18 : decode cJ0_isLatin1_aae02 18 = .ok (.ireturn, 1) := by decide +kernel
theorem dJ0_checkIndex_df160_0 : decode cJ0_checkIndex_df160 0 = .ok (.iload_n 0, 1) := by decide +kernel
theorem dJ0_checkIndex_df160_1 : decode cJ0_checkIndex_df160 1 = .ok (.iload_n 1, 1) := by decide +kernel
theorem dJ0_checkIndex_df160_2 : decode cJ0_checkIndex_df160 2 = .ok (.getstatic 1053, 3) := by decide +kernel
theorem dJ0_checkIndex_df160_5 : decode cJ0_checkIndex_df160 5 = .ok (.invokestatic 1059, 3) := by decide +kernel
theorem dJ0_checkIndex_df160_8 : decode cJ0_checkIndex_df160 8 = .ok (.pop, 1) := by decide +kernel
theorem dJ0_checkIndex_df160_9 : decode cJ0_checkIndex_df160 9 = .ok (.return_, 1) := by decide +kernel
theorem dJ1_charAt_3b067_0 : decode cJ1_charAt_3b067 0 = .ok (.iload_n 1, 1) := by decide +kernel
theorem dJ1_charAt_3b067_1 : decode cJ1_charAt_3b067 1 = .ok (.aload_n 0, 1) := by decide +kernel
theorem dJ1_charAt_3b067_2 : decode cJ1_charAt_3b067 2 = .ok (.arraylength, 1) := by decide +kernel
theorem dJ1_charAt_3b067_3 : decode cJ1_charAt_3b067 3 = .ok (.invokestatic 9, 3) := by decide +kernel
theorem dJ1_charAt_3b067_6 : decode cJ1_charAt_3b067 6 = .ok (.aload_n 0, 1) := by decide +kernel
theorem dJ1_charAt_3b067_7 : decode cJ1_charAt_3b067 7 = .ok (.iload_n 1, 1) := by decide +kernel
theorem dJ1_charAt_3b067_8 : decode cJ1_charAt_3b067 8 = .ok (.baload, 1) := by decide +kernel
theorem dJ1_charAt_3b067_9 : decode cJ1_charAt_3b067 9 = .ok (.sipush 255, 3) := by decide +kernel
theorem dJ1_charAt_3b067_12 : decode cJ1_charAt_3b067 12 = .ok (.iand, 1) := by decide +kernel
theorem dJ1_charAt_3b067_13 : decode cJ1_charAt_3b067 13 = .ok (.i2c, 1) := by decide +kernel
theorem dJ1_charAt_3b067_14 : decode cJ1_charAt_3b067 14 = .ok (.ireturn, 1) := by decide +kernel
theorem dJ2_getChar_3b067_0 : decode cJ2_getChar_3b067 0 = .ok (.getstatic 44, 3) := by decide +kernel
theorem dJ2_getChar_3b067_3 : decode cJ2_getChar_3b067 3 = .ok (.ifCond .ne 25, 3) := by decide +kernel
theorem dJ2_getChar_3b067_6 : decode cJ2_getChar_3b067 6 = .ok (.iload_n 1, 1) := by decide +kernel
theorem dJ2_getChar_3b067_7 : decode cJ2_getChar_3b067 7 = .ok (.ifCond .lt 11, 3) := by decide +kernel
theorem dJ2_getChar_3b067_10 : decode cJ2_getChar_3b067 10 = .ok (.iload_n 1, 1) := by decide +kernel
theorem dJ2_getChar_3b067_11 : decode cJ2_getChar_3b067 11 = .ok (.aload_n 0, 1) := by decide +kernel
theorem dJ2_getChar_3b067_12 : decode cJ2_getChar_3b067 12 = .ok (.invokestatic 48, 3) := by decide +kernel
theorem dJ2_getChar_3b067_15 : decode cJ2_getChar_3b067 15 = .ok (.if_icmp .lt 13, 3) := by decide +kernel
theorem dJ2_getChar_3b067_18 : decode cJ2_getChar_3b067 18 = .ok (.new 52, 3) := by decide +kernel
theorem dJ2_getChar_3b067_21 : decode cJ2_getChar_3b067 21 = .ok (.dup, 1) := by decide +kernel
theorem dJ2_getChar_3b067_22 : decode cJ2_getChar_3b067 22 = .ok (.ldc 54, 2) := by decide +kernel
theorem dJ2_getChar_3b067_24 : decode cJ2_getChar_3b067 24 = .ok (.invokespecial 56, 3) := by decide +kernel
theorem dJ2_getChar_3b067_27 : decode cJ2_getChar_3b067 27 = .ok (.athrow, 1) := by decide +kernel
theorem dJ2_getChar_3b067_28 : decode cJ2_getChar_3b067 28 = .ok (.iload_n 1, 1) := by decide +kernel
theorem dJ2_getChar_3b067_29 : decode cJ2_getChar_3b067 29 = .ok (.iconst 1, 1) := by decide +kernel
theorem dJ2_getChar_3b067_30 : decode cJ2_getChar_3b067 30 = .ok (.ishl, 1) := by decide +kernel
theorem dJ2_getChar_3b067_31 : decode cJ2_getChar_3b067 31 = .ok (.istore_n 1, 1) := by decide +kernel
theorem dJ2_getChar_3b067_32 : decode cJ2_getChar_3b067 32 = .ok (.aload_n 0, 1) := by decide +kernel
theorem dJ2_getChar_3b067_33 : decode cJ2_getChar_3b067 33 = .ok (.iload_n 1, 1) := by decide +kernel
theorem dJ2_getChar_3b067_34 : decode cJ2_getChar_3b067 34 = .ok (.iinc 1 1, 3) := by decide +kernel
theorem dJ2_getChar_3b067_37 : decode cJ2_getChar_3b067 37 = .ok (.baload, 1) := by decide +kernel
theorem dJ2_getChar_3b067_38 : decode cJ2_getChar_3b067 38 = .ok (.sipush 255, 3) := by decide +kernel
theorem dJ2_getChar_3b067_41 : decode cJ2_getChar_3b067 41 = .ok (.iand, 1) := by decide +kernel
theorem dJ2_getChar_3b067_42 : decode cJ2_getChar_3b067 42 = .ok (.getstatic 59, 3) := by decide +kernel
theorem dJ2_getChar_3b067_45 : decode cJ2_getChar_3b067 45 = .ok (.ishl, 1) := by decide +kernel
theorem dJ2_getChar_3b067_46 : decode cJ2_getChar_3b067 46 = .ok (.aload_n 0, 1) := by decide +kernel
theorem dJ2_getChar_3b067_47 : decode cJ2_getChar_3b067 47 = .ok (.iload_n 1, 1) := by decide +kernel
theorem dJ2_getChar_3b067_48 : decode cJ2_getChar_3b067 48 = .ok (.baload, 1) := by decide +kernel
theorem dJ2_getChar_3b067_49 : decode cJ2_getChar_3b067 49 = .ok (.sipush 255, 3) := by decide +kernel
theorem dJ2_getChar_3b067_52 : decode cJ2_getChar_3b067 52 = .ok (.iand, 1) := by decide +kernel
theorem dJ2_getChar_3b067_53 : decode cJ2_getChar_3b067 53 = .ok (.getstatic 63, 3) := by decide +kernel
theorem dJ2_getChar_3b067_56 : decode cJ2_getChar_3b067 56 = .ok (.ishl, 1) := by decide +kernel
theorem dJ2_getChar_3b067_57 : decode cJ2_getChar_3b067 57 = .ok (.ior, 1) := by decide +kernel
theorem dJ2_getChar_3b067_58 : decode cJ2_getChar_3b067 58 = .ok (.i2c, 1) := by decide +kernel
theorem dJ2_getChar_3b067_59 : decode cJ2_getChar_3b067 59 = .ok (.ireturn, 1) := by decide +kernel
theorem dJ2_length_9d52b_0 : decode cJ2_length_9d52b 0 = .ok (.aload_n 0, 1) := by decide +kernel
theorem dJ2_length_9d52b_1 : decode cJ2_length_9d52b 1 = .ok (.arraylength, 1) := by decide +kernel
theorem dJ2_length_9d52b_2 : decode cJ2_length_9d52b 2 = .ok (.iconst 1, 1) := by decide +kernel
theorem dJ2_length_9d52b_3 : decode cJ2_length_9d52b 3 = .ok (.ishr, 1) := by decide +kernel
theorem dJ2_length_9d52b_4 : decode cJ2_length_9d52b 4 = .ok (.ireturn, 1) := by decide +kernel
theorem dJ2_charAt_3b067_0 : decode cJ2_charAt_3b067 0 = .ok (.iload_n 1, 1) := by decide +kernel
theorem dJ2_charAt_3b067_1 : decode cJ2_charAt_3b067 1 = .ok (.aload_n 0, 1) := by decide +kernel
theorem dJ2_charAt_3b067_2 : decode cJ2_charAt_3b067 2 = .ok (.invokestatic 67, 3) := by decide +kernel
theorem dJ2_charAt_3b067_5 : decode cJ2_charAt_3b067 5 = .ok (.aload_n 0, 1) := by decide +kernel
theorem dJ2_charAt_3b067_6 : decode cJ2_charAt_3b067 6 = .ok (.iload_n 1, 1) := by decide +kernel
theorem dJ2_charAt_3b067_7 : decode cJ2_charAt_3b067 7 = .ok (.invokestatic 71, 3) := by decide +kernel
theorem dJ2_charAt_3b067_10 : decode cJ2_charAt_3b067 10 = .ok (.ireturn, 1) := by decide +kernel
theorem dJ2_checkIndex_2214a_0 : decode cJ2_checkIndex_2214a 0 = .ok (.iload_n 0, 1) := by decide +kernel
theorem dJ2_checkIndex_2214a_1 : decode cJ2_checkIndex_2214a 1 = .ok (.aload_n 1, 1) := by decide +kernel
theorem dJ2_checkIndex_2214a_2 : decode cJ2_checkIndex_2214a 2 = .ok (.invokestatic 48, 3) := by decide +kernel
theorem dJ2_checkIndex_2214a_5 : decode cJ2_checkIndex_2214a 5 = .ok (.invokestatic 414, 3) := by decide +kernel
theorem dJ2_checkIndex_2214a_8 : decode cJ2_checkIndex_2214a 8 = .ok (.return_, 1) := by decide +kernel
theorem dJ3_checkIndex_8e157_0 : decode cJ3_checkIndex_8e157 0 = .ok (.iload_n 0, 1) := by decide +kernel
theorem dJ3_checkIndex_8e157_1 : decode cJ3_checkIndex_8e157 1 = .ok (.ifCond .lt 8, 3) := by decide +kernel
theorem dJ3_checkIndex_8e157_4 : decode cJ3_checkIndex_8e157 4 = .ok (.iload_n 0, 1) := by decide +kernel
theorem dJ3_checkIndex_8e157_5 : decode cJ3_checkIndex_8e157 5 = .ok (.iload_n 1, 1) := by decide +kernel
theorem dJ3_checkIndex_8e157_6 : decode cJ3_checkIndex_8e157 6 = .ok (.if_icmp .lt 10, 3) := by decide +kernel
theorem dJ3_checkIndex_8e157_9 : decode cJ3_checkIndex_8e157 9 = .ok (.aload_n 2, 1) := by decide +kernel
theorem dJ3_checkIndex_8e157_10 : decode cJ3_checkIndex_8e157 10 = .ok (.iload_n 0, 1) := by decide +kernel
theorem dJ3_checkIndex_8e157_11 : decode cJ3_checkIndex_8e157 11 = .ok (.iload_n 1, 1) := by decide +kernel
theorem dJ3_checkIndex_8e157_12 : decode cJ3_checkIndex_8e157 12 = .ok (.invokestatic 95, 3) := by decide +kernel
theorem dJ3_checkIndex_8e157_15 : decode cJ3_checkIndex_8e157 15 = .ok (.athrow, 1) := by decide +kernel
theorem dJ3_checkIndex_8e157_16 : decode cJ3_checkIndex_8e157 16 = .ok (.iload_n 0, 1) := by decide +kernel
theorem dJ3_checkIndex_8e157_17 : decode cJ3_checkIndex_8e157 17 = .ok (.ireturn, 1) := by decide +kernel
theorem dL_led_0 : decode cL_led 0 = .ok (.aload_n 2, 1) := by decide +kernel
theorem dL_led_1 : decode cL_led 1 = .ok (.iconst 0, 1) := by decide +kernel
theorem dL_led_2 : decode cL_led 2 = .ok (.aload_n 0, 1) := by decide +kernel
theorem dL_led_3 : decode cL_led 3 = .ok (.iload_n 1, 1) := by decide +kernel
theorem dL_led_4 : decode cL_led 4 = .ok (.invokevirtual 7, 3) := by decide +kernel
theorem dL_led_7 : decode cL_led 7 = .ok (.i2l, 1) := by decide +kernel
theorem dL_led_8 : decode cL_led 8 = .ok (.lastore, 1) := by decide +kernel
theorem dL_led_9 : decode cL_led 9 = .ok (.goto 6, 3) := by decide +kernel
theorem dL_led_12 : decode cL_led 12 = .ok (.astore_n 3, 1) := by decide +kernel
theorem dL_led_13 : decode cL_led 13 = .ok (.iconst 1, 1) := by decide +kernel
theorem dL_led_14 : decode cL_led 14 = .ok (.ireturn, 1) := by decide +kernel
theorem dL_led_15 : decode cL_led 15 = .ok (.iconst 0, 1) := by decide +kernel
theorem dL_led_16 : decode cL_led 16 = .ok (.ireturn, 1) := by decide +kernel
theorem dL_law_0 : decode cL_law 0 = .ok (.new 8, 3) := by decide +kernel
theorem dL_law_3 : decode cL_law 3 = .ok (.dup, 1) := by decide +kernel
theorem dL_law_4 : decode cL_law 4 = .ok (.invokespecial 15, 3) := by decide +kernel
theorem dL_law_7 : decode cL_law 7 = .ok (.astore_n 1, 1) := by decide +kernel
theorem dL_law_8 : decode cL_law 8 = .ok (.new 16, 3) := by decide +kernel
theorem dL_law_11 : decode cL_law 11 = .ok (.dup, 1) := by decide +kernel
theorem dL_law_12 : decode cL_law 12 = .ok (.invokespecial 18, 3) := by decide +kernel
theorem dL_law_15 : decode cL_law 15 = .ok (.astore_n 2, 1) := by decide +kernel
theorem dL_law_16 : decode cL_law 16 = .ok (.iconst 1, 1) := by decide +kernel
theorem dL_law_17 : decode cL_law 17 = .ok (.newarray .long, 2) := by decide +kernel
theorem dL_law_19 : decode cL_law 19 = .ok (.astore_n 3, 1) := by decide +kernel
theorem dL_law_20 : decode cL_law 20 = .ok (.iconst 0, 1) := by decide +kernel
theorem dL_law_21 : decode cL_law 21 = .ok (.istore 4, 2) := by decide +kernel
theorem dL_law_23 : decode cL_law 23 = .ok (.iload 4, 2) := by decide +kernel
theorem dL_law_25 : decode cL_law 25 = .ok (.aload_n 0, 1) := by decide +kernel
theorem dL_law_26 : decode cL_law 26 = .ok (.arraylength, 1) := by decide +kernel
theorem dL_law_27 : decode cL_law 27 = .ok (.bipush 6, 2) := by decide +kernel
theorem dL_law_29 : decode cL_law 29 = .ok (.isub, 1) := by decide +kernel
theorem dL_law_30 : decode cL_law 30 = .ok (.if_icmp .gt 1852, 3) := by decide +kernel
theorem dL_law_33 : decode cL_law 33 = .ok (.aload_n 0, 1) := by decide +kernel
theorem dL_law_34 : decode cL_law 34 = .ok (.iload 4, 2) := by decide +kernel
theorem dL_law_36 : decode cL_law 36 = .ok (.iaload, 1) := by decide +kernel
theorem dL_law_37 : decode cL_law 37 = .ok (.bipush 63, 2) := by decide +kernel
theorem dL_law_39 : decode cL_law 39 = .ok (.iand, 1) := by decide +kernel
theorem dL_law_40 : decode cL_law 40 = .ok (.tableswitch 1836 0 52 #[228, 301, 326, 339, 352, 377, 390, 415, 452, 506, 531, 568, 581, 594, 619, 644, 669, 706, 743, 768, 781, 794, 819, 885, 950, 975, 1012, 1025, 1050, 1075, 1100, 1125, 1150, 1175, 1241, 1254, 1291, 1328, 1394, 1431, 1456, 1481, 1506, 1555, 1592, 1629, 1666, 1691, 1704, 1717, 1742, 1798, 1823], 228) := by decide +kernel
theorem dL_law_268 : decode cL_law 268 = .ok (.aload_n 1, 1) := by decide +kernel
theorem dL_law_269 : decode cL_law 269 = .ok (.aload_n 0, 1) := by decide +kernel
theorem dL_law_270 : decode cL_law 270 = .ok (.iload 4, 2) := by decide +kernel
theorem dL_law_272 : decode cL_law 272 = .ok (.iconst 1, 1) := by decide +kernel
theorem dL_law_273 : decode cL_law 273 = .ok (.iadd, 1) := by decide +kernel
theorem dL_law_274 : decode cL_law 274 = .ok (.iaload, 1) := by decide +kernel
theorem dL_law_275 : decode cL_law 275 = .ok (.aload_n 0, 1) := by decide +kernel
theorem dL_law_276 : decode cL_law 276 = .ok (.iload 4, 2) := by decide +kernel
theorem dL_law_278 : decode cL_law 278 = .ok (.iconst 2, 1) := by decide +kernel
theorem dL_law_279 : decode cL_law 279 = .ok (.iadd, 1) := by decide +kernel
theorem dL_law_280 : decode cL_law 280 = .ok (.iaload, 1) := by decide +kernel
theorem dL_law_281 : decode cL_law 281 = .ok (.aload_n 0, 1) := by decide +kernel
theorem dL_law_282 : decode cL_law 282 = .ok (.iload 4, 2) := by decide +kernel
theorem dL_law_284 : decode cL_law 284 = .ok (.iconst 3, 1) := by decide +kernel
theorem dL_law_285 : decode cL_law 285 = .ok (.iadd, 1) := by decide +kernel
theorem dL_law_286 : decode cL_law 286 = .ok (.iaload, 1) := by decide +kernel
theorem dL_law_287 : decode cL_law 287 = .ok (.aload_n 0, 1) := by decide +kernel
theorem dL_law_288 : decode cL_law 288 = .ok (.iload 4, 2) := by decide +kernel
theorem dL_law_290 : decode cL_law 290 = .ok (.iconst 4, 1) := by decide +kernel
theorem dL_law_291 : decode cL_law 291 = .ok (.iadd, 1) := by decide +kernel
theorem dL_law_292 : decode cL_law 292 = .ok (.iaload, 1) := by decide +kernel
theorem dL_law_293 : decode cL_law 293 = .ok (.aload_n 0, 1) := by decide +kernel
theorem dL_law_294 : decode cL_law 294 = .ok (.iload 4, 2) := by decide +kernel
theorem dL_law_296 : decode cL_law 296 = .ok (.iconst 5, 1) := by decide +kernel
theorem dL_law_297 : decode cL_law 297 = .ok (.iadd, 1) := by decide +kernel
theorem dL_law_298 : decode cL_law 298 = .ok (.iaload, 1) := by decide +kernel
theorem dL_law_299 : decode cL_law 299 = .ok (.invokevirtual 19, 3) := by decide +kernel
theorem dL_law_302 : decode cL_law 302 = .ok (.aload_n 2, 1) := by decide +kernel
theorem dL_law_303 : decode cL_law 303 = .ok (.aload_n 0, 1) := by decide +kernel
theorem dL_law_304 : decode cL_law 304 = .ok (.iload 4, 2) := by decide +kernel
theorem dL_law_306 : decode cL_law 306 = .ok (.iconst 1, 1) := by decide +kernel
theorem dL_law_307 : decode cL_law 307 = .ok (.iadd, 1) := by decide +kernel
theorem dL_law_308 : decode cL_law 308 = .ok (.iaload, 1) := by decide +kernel
theorem dL_law_309 : decode cL_law 309 = .ok (.aload_n 0, 1) := by decide +kernel
theorem dL_law_310 : decode cL_law 310 = .ok (.iload 4, 2) := by decide +kernel
theorem dL_law_312 : decode cL_law 312 = .ok (.iconst 2, 1) := by decide +kernel
theorem dL_law_313 : decode cL_law 313 = .ok (.iadd, 1) := by decide +kernel
theorem dL_law_314 : decode cL_law 314 = .ok (.iaload, 1) := by decide +kernel
theorem dL_law_315 : decode cL_law 315 = .ok (.aload_n 0, 1) := by decide +kernel
theorem dL_law_316 : decode cL_law 316 = .ok (.iload 4, 2) := by decide +kernel
theorem dL_law_318 : decode cL_law 318 = .ok (.iconst 3, 1) := by decide +kernel
theorem dL_law_319 : decode cL_law 319 = .ok (.iadd, 1) := by decide +kernel
theorem dL_law_320 : decode cL_law 320 = .ok (.iaload, 1) := by decide +kernel
theorem dL_law_321 : decode cL_law 321 = .ok (.aload_n 0, 1) := by decide +kernel
theorem dL_law_322 : decode cL_law 322 = .ok (.iload 4, 2) := by decide +kernel
theorem dL_law_324 : decode cL_law 324 = .ok (.iconst 4, 1) := by decide +kernel
theorem dL_law_325 : decode cL_law 325 = .ok (.iadd, 1) := by decide +kernel
theorem dL_law_326 : decode cL_law 326 = .ok (.iaload, 1) := by decide +kernel
theorem dL_law_327 : decode cL_law 327 = .ok (.aload_n 0, 1) := by decide +kernel
theorem dL_law_328 : decode cL_law 328 = .ok (.iload 4, 2) := by decide +kernel
theorem dL_law_330 : decode cL_law 330 = .ok (.iconst 5, 1) := by decide +kernel
theorem dL_law_331 : decode cL_law 331 = .ok (.iadd, 1) := by decide +kernel
theorem dL_law_332 : decode cL_law 332 = .ok (.iaload, 1) := by decide +kernel
theorem dL_law_333 : decode cL_law 333 = .ok (.invokevirtual 23, 3) := by decide +kernel
theorem dL_law_336 : decode cL_law 336 = .ok (.if_icmp .eq 1540, 3) := by decide +kernel
theorem dL_law_339 : decode cL_law 339 = .ok (.iconst 0, 1) := by decide +kernel
theorem dL_law_340 : decode cL_law 340 = .ok (.ireturn, 1) := by decide +kernel
theorem dL_law_341 : decode cL_law 341 = .ok (.aload_n 1, 1) := by decide +kernel
theorem dL_law_342 : decode cL_law 342 = .ok (.aload_n 0, 1) := by decide +kernel
theorem dL_law_343 : decode cL_law 343 = .ok (.iload 4, 2) := by decide +kernel
theorem dL_law_345 : decode cL_law 345 = .ok (.iconst 1, 1) := by decide +kernel
theorem dL_law_346 : decode cL_law 346 = .ok (.iadd, 1) := by decide +kernel
theorem dL_law_347 : decode cL_law 347 = .ok (.iaload, 1) := by decide +kernel
theorem dL_law_348 : decode cL_law 348 = .ok (.invokevirtual 24, 3) := by decide +kernel
theorem dL_law_351 : decode cL_law 351 = .ok (.aload_n 2, 1) := by decide +kernel
theorem dL_law_352 : decode cL_law 352 = .ok (.aload_n 0, 1) := by decide +kernel
theorem dL_law_353 : decode cL_law 353 = .ok (.iload 4, 2) := by decide +kernel
theorem dL_law_355 : decode cL_law 355 = .ok (.iconst 1, 1) := by decide +kernel
theorem dL_law_356 : decode cL_law 356 = .ok (.iadd, 1) := by decide +kernel
theorem dL_law_357 : decode cL_law 357 = .ok (.iaload, 1) := by decide +kernel
theorem dL_law_358 : decode cL_law 358 = .ok (.invokevirtual 27, 3) := by decide +kernel
theorem dL_law_361 : decode cL_law 361 = .ok (.if_icmp .eq 1515, 3) := by decide +kernel
theorem dL_law_364 : decode cL_law 364 = .ok (.iconst 0, 1) := by decide +kernel
theorem dL_law_365 : decode cL_law 365 = .ok (.ireturn, 1) := by decide +kernel
theorem dL_law_366 : decode cL_law 366 = .ok (.aload_n 1, 1) := by decide +kernel
theorem dL_law_367 : decode cL_law 367 = .ok (.invokevirtual 28, 3) := by decide +kernel
theorem dL_law_370 : decode cL_law 370 = .ok (.aload_n 2, 1) := by decide +kernel
theorem dL_law_371 : decode cL_law 371 = .ok (.invokevirtual 32, 3) := by decide +kernel
theorem dL_law_374 : decode cL_law 374 = .ok (.if_icmp .eq 1502, 3) := by decide +kernel
theorem dL_law_377 : decode cL_law 377 = .ok (.iconst 0, 1) := by decide +kernel
theorem dL_law_378 : decode cL_law 378 = .ok (.ireturn, 1) := by decide +kernel
theorem dL_law_379 : decode cL_law 379 = .ok (.aload_n 1, 1) := by decide +kernel
theorem dL_law_380 : decode cL_law 380 = .ok (.invokevirtual 33, 3) := by decide +kernel
theorem dL_law_383 : decode cL_law 383 = .ok (.aload_n 2, 1) := by decide +kernel
theorem dL_law_384 : decode cL_law 384 = .ok (.invokevirtual 36, 3) := by decide +kernel
theorem dL_law_387 : decode cL_law 387 = .ok (.if_icmp .eq 1489, 3) := by decide +kernel
theorem dL_law_390 : decode cL_law 390 = .ok (.iconst 0, 1) := by decide +kernel
theorem dL_law_391 : decode cL_law 391 = .ok (.ireturn, 1) := by decide +kernel
theorem dL_law_392 : decode cL_law 392 = .ok (.aload_n 1, 1) := by decide +kernel
theorem dL_law_393 : decode cL_law 393 = .ok (.aload_n 0, 1) := by decide +kernel
theorem dL_law_394 : decode cL_law 394 = .ok (.iload 4, 2) := by decide +kernel
theorem dL_law_396 : decode cL_law 396 = .ok (.iconst 1, 1) := by decide +kernel
theorem dL_law_397 : decode cL_law 397 = .ok (.iadd, 1) := by decide +kernel
theorem dL_law_398 : decode cL_law 398 = .ok (.iaload, 1) := by decide +kernel
theorem dL_law_399 : decode cL_law 399 = .ok (.invokevirtual 37, 3) := by decide +kernel
theorem dL_law_402 : decode cL_law 402 = .ok (.aload_n 2, 1) := by decide +kernel
theorem dL_law_403 : decode cL_law 403 = .ok (.aload_n 0, 1) := by decide +kernel
theorem dL_law_404 : decode cL_law 404 = .ok (.iload 4, 2) := by decide +kernel
theorem dL_law_406 : decode cL_law 406 = .ok (.iconst 1, 1) := by decide +kernel
theorem dL_law_407 : decode cL_law 407 = .ok (.iadd, 1) := by decide +kernel
theorem dL_law_408 : decode cL_law 408 = .ok (.iaload, 1) := by decide +kernel
theorem dL_law_409 : decode cL_law 409 = .ok (.invokevirtual 40, 3) := by decide +kernel
theorem dL_law_412 : decode cL_law 412 = .ok (.if_icmp .eq 1464, 3) := by decide +kernel
theorem dL_law_415 : decode cL_law 415 = .ok (.iconst 0, 1) := by decide +kernel
theorem dL_law_416 : decode cL_law 416 = .ok (.ireturn, 1) := by decide +kernel
theorem dL_law_417 : decode cL_law 417 = .ok (.aload_n 1, 1) := by decide +kernel
theorem dL_law_418 : decode cL_law 418 = .ok (.invokevirtual 41, 3) := by decide +kernel
theorem dL_law_421 : decode cL_law 421 = .ok (.aload_n 2, 1) := by decide +kernel
theorem dL_law_422 : decode cL_law 422 = .ok (.invokevirtual 44, 3) := by decide +kernel
theorem dL_law_425 : decode cL_law 425 = .ok (.if_icmp .eq 1451, 3) := by decide +kernel
theorem dL_law_428 : decode cL_law 428 = .ok (.iconst 0, 1) := by decide +kernel
theorem dL_law_429 : decode cL_law 429 = .ok (.ireturn, 1) := by decide +kernel
theorem dL_law_430 : decode cL_law 430 = .ok (.aload_n 1, 1) := by decide +kernel
theorem dL_law_431 : decode cL_law 431 = .ok (.aload_n 0, 1) := by decide +kernel
theorem dL_law_432 : decode cL_law 432 = .ok (.iload 4, 2) := by decide +kernel
theorem dL_law_434 : decode cL_law 434 = .ok (.iconst 1, 1) := by decide +kernel
theorem dL_law_435 : decode cL_law 435 = .ok (.iadd, 1) := by decide +kernel
theorem dL_law_436 : decode cL_law 436 = .ok (.iaload, 1) := by decide +kernel
theorem dL_law_437 : decode cL_law 437 = .ok (.invokevirtual 45, 3) := by decide +kernel
theorem dL_law_440 : decode cL_law 440 = .ok (.aload_n 2, 1) := by decide +kernel
theorem dL_law_441 : decode cL_law 441 = .ok (.aload_n 0, 1) := by decide +kernel
theorem dL_law_442 : decode cL_law 442 = .ok (.iload 4, 2) := by decide +kernel
theorem dL_law_444 : decode cL_law 444 = .ok (.iconst 1, 1) := by decide +kernel
theorem dL_law_445 : decode cL_law 445 = .ok (.iadd, 1) := by decide +kernel
theorem dL_law_446 : decode cL_law 446 = .ok (.iaload, 1) := by decide +kernel
theorem dL_law_447 : decode cL_law 447 = .ok (.invokevirtual 48, 3) := by decide +kernel
theorem dL_law_450 : decode cL_law 450 = .ok (.if_icmp .eq 1426, 3) := by decide +kernel
theorem dL_law_453 : decode cL_law 453 = .ok (.iconst 0, 1) := by decide +kernel
theorem dL_law_454 : decode cL_law 454 = .ok (.ireturn, 1) := by decide +kernel
theorem dL_law_455 : decode cL_law 455 = .ok (.aload_n 1, 1) := by decide +kernel
theorem dL_law_456 : decode cL_law 456 = .ok (.aload_n 0, 1) := by decide +kernel
theorem dL_law_457 : decode cL_law 457 = .ok (.iload 4, 2) := by decide +kernel
theorem dL_law_459 : decode cL_law 459 = .ok (.iconst 1, 1) := by decide +kernel
theorem dL_law_460 : decode cL_law 460 = .ok (.iadd, 1) := by decide +kernel
theorem dL_law_461 : decode cL_law 461 = .ok (.iaload, 1) := by decide +kernel
theorem dL_law_462 : decode cL_law 462 = .ok (.aload_n 0, 1) := by decide +kernel
theorem dL_law_463 : decode cL_law 463 = .ok (.iload 4, 2) := by decide +kernel
theorem dL_law_465 : decode cL_law 465 = .ok (.iconst 2, 1) := by decide +kernel
theorem dL_law_466 : decode cL_law 466 = .ok (.iadd, 1) := by decide +kernel
theorem dL_law_467 : decode cL_law 467 = .ok (.iaload, 1) := by decide +kernel
theorem dL_law_468 : decode cL_law 468 = .ok (.invokevirtual 49, 3) := by decide +kernel
theorem dL_law_471 : decode cL_law 471 = .ok (.aload_n 2, 1) := by decide +kernel
theorem dL_law_472 : decode cL_law 472 = .ok (.aload_n 0, 1) := by decide +kernel
theorem dL_law_473 : decode cL_law 473 = .ok (.iload 4, 2) := by decide +kernel
theorem dL_law_475 : decode cL_law 475 = .ok (.iconst 1, 1) := by decide +kernel
theorem dL_law_476 : decode cL_law 476 = .ok (.iadd, 1) := by decide +kernel
theorem dL_law_477 : decode cL_law 477 = .ok (.iaload, 1) := by decide +kernel
theorem dL_law_478 : decode cL_law 478 = .ok (.aload_n 0, 1) := by decide +kernel
theorem dL_law_479 : decode cL_law 479 = .ok (.iload 4, 2) := by decide +kernel
theorem dL_law_481 : decode cL_law 481 = .ok (.iconst 2, 1) := by decide +kernel
theorem dL_law_482 : decode cL_law 482 = .ok (.iadd, 1) := by decide +kernel
theorem dL_law_483 : decode cL_law 483 = .ok (.iaload, 1) := by decide +kernel
theorem dL_law_484 : decode cL_law 484 = .ok (.invokevirtual 53, 3) := by decide +kernel
theorem dL_law_487 : decode cL_law 487 = .ok (.if_icmp .eq 1389, 3) := by decide +kernel
theorem dL_law_490 : decode cL_law 490 = .ok (.iconst 0, 1) := by decide +kernel
theorem dL_law_491 : decode cL_law 491 = .ok (.ireturn, 1) := by decide +kernel
theorem dL_law_492 : decode cL_law 492 = .ok (.aload_n 1, 1) := by decide +kernel
theorem dL_law_493 : decode cL_law 493 = .ok (.aload_n 0, 1) := by decide +kernel
theorem dL_law_494 : decode cL_law 494 = .ok (.iload 4, 2) := by decide +kernel
theorem dL_law_496 : decode cL_law 496 = .ok (.iconst 1, 1) := by decide +kernel
theorem dL_law_497 : decode cL_law 497 = .ok (.iadd, 1) := by decide +kernel
theorem dL_law_498 : decode cL_law 498 = .ok (.iaload, 1) := by decide +kernel
theorem dL_law_499 : decode cL_law 499 = .ok (.aload_n 0, 1) := by decide +kernel
theorem dL_law_500 : decode cL_law 500 = .ok (.iload 4, 2) := by decide +kernel
theorem dL_law_502 : decode cL_law 502 = .ok (.iconst 2, 1) := by decide +kernel
theorem dL_law_503 : decode cL_law 503 = .ok (.iadd, 1) := by decide +kernel
theorem dL_law_504 : decode cL_law 504 = .ok (.iaload, 1) := by decide +kernel
theorem dL_law_505 : decode cL_law 505 = .ok (.ifCond .eq 7, 3) := by decide +kernel
theorem dL_law_508 : decode cL_law 508 = .ok (.iconst 1, 1) := by decide +kernel
theorem dL_law_509 : decode cL_law 509 = .ok (.goto 4, 3) := by decide +kernel
theorem dL_law_512 : decode cL_law 512 = .ok (.iconst 0, 1) := by decide +kernel
theorem dL_law_513 : decode cL_law 513 = .ok (.invokevirtual 54, 3) := by decide +kernel
theorem dL_law_516 : decode cL_law 516 = .ok (.aload_n 2, 1) := by decide +kernel
theorem dL_law_517 : decode cL_law 517 = .ok (.aload_n 0, 1) := by decide +kernel
theorem dL_law_518 : decode cL_law 518 = .ok (.iload 4, 2) := by decide +kernel
theorem dL_law_520 : decode cL_law 520 = .ok (.iconst 1, 1) := by decide +kernel
theorem dL_law_521 : decode cL_law 521 = .ok (.iadd, 1) := by decide +kernel
theorem dL_law_522 : decode cL_law 522 = .ok (.iaload, 1) := by decide +kernel
theorem dL_law_523 : decode cL_law 523 = .ok (.aload_n 0, 1) := by decide +kernel
theorem dL_law_524 : decode cL_law 524 = .ok (.iload 4, 2) := by decide +kernel
theorem dL_law_526 : decode cL_law 526 = .ok (.iconst 2, 1) := by decide +kernel
theorem dL_law_527 : decode cL_law 527 = .ok (.iadd, 1) := by decide +kernel
theorem dL_law_528 : decode cL_law 528 = .ok (.iaload, 1) := by decide +kernel
theorem dL_law_529 : decode cL_law 529 = .ok (.ifCond .eq 7, 3) := by decide +kernel
theorem dL_law_532 : decode cL_law 532 = .ok (.iconst 1, 1) := by decide +kernel
theorem dL_law_533 : decode cL_law 533 = .ok (.goto 4, 3) := by decide +kernel
theorem dL_law_536 : decode cL_law 536 = .ok (.iconst 0, 1) := by decide +kernel
theorem dL_law_537 : decode cL_law 537 = .ok (.invokevirtual 58, 3) := by decide +kernel
theorem dL_law_540 : decode cL_law 540 = .ok (.lcmp, 1) := by decide +kernel
theorem dL_law_541 : decode cL_law 541 = .ok (.ifCond .eq 1335, 3) := by decide +kernel
theorem dL_law_544 : decode cL_law 544 = .ok (.iconst 0, 1) := by decide +kernel
theorem dL_law_545 : decode cL_law 545 = .ok (.ireturn, 1) := by decide +kernel
theorem dL_law_546 : decode cL_law 546 = .ok (.aload_n 1, 1) := by decide +kernel
theorem dL_law_547 : decode cL_law 547 = .ok (.aload_n 0, 1) := by decide +kernel
theorem dL_law_548 : decode cL_law 548 = .ok (.iload 4, 2) := by decide +kernel
theorem dL_law_550 : decode cL_law 550 = .ok (.iconst 1, 1) := by decide +kernel
theorem dL_law_551 : decode cL_law 551 = .ok (.iadd, 1) := by decide +kernel
theorem dL_law_552 : decode cL_law 552 = .ok (.iaload, 1) := by decide +kernel
theorem dL_law_553 : decode cL_law 553 = .ok (.invokevirtual 59, 3) := by decide +kernel
theorem dL_law_556 : decode cL_law 556 = .ok (.aload_n 2, 1) := by decide +kernel
theorem dL_law_557 : decode cL_law 557 = .ok (.aload_n 0, 1) := by decide +kernel
theorem dL_law_558 : decode cL_law 558 = .ok (.iload 4, 2) := by decide +kernel
theorem dL_law_560 : decode cL_law 560 = .ok (.iconst 1, 1) := by decide +kernel
theorem dL_law_561 : decode cL_law 561 = .ok (.iadd, 1) := by decide +kernel
theorem dL_law_562 : decode cL_law 562 = .ok (.iaload, 1) := by decide +kernel
theorem dL_law_563 : decode cL_law 563 = .ok (.invokevirtual 62, 3) := by decide +kernel
theorem dL_law_566 : decode cL_law 566 = .ok (.if_icmp .eq 1310, 3) := by decide +kernel
theorem dL_law_569 : decode cL_law 569 = .ok (.iconst 0, 1) := by decide +kernel
theorem dL_law_570 : decode cL_law 570 = .ok (.ireturn, 1) := by decide +kernel
theorem dL_law_571 : decode cL_law 571 = .ok (.aload_n 1, 1) := by decide +kernel
theorem dL_law_572 : decode cL_law 572 = .ok (.aload_n 0, 1) := by decide +kernel
theorem dL_law_573 : decode cL_law 573 = .ok (.iload 4, 2) := by decide +kernel
theorem dL_law_575 : decode cL_law 575 = .ok (.iconst 1, 1) := by decide +kernel
theorem dL_law_576 : decode cL_law 576 = .ok (.iadd, 1) := by decide +kernel
theorem dL_law_577 : decode cL_law 577 = .ok (.iaload, 1) := by decide +kernel
theorem dL_law_578 : decode cL_law 578 = .ok (.aload_n 0, 1) := by decide +kernel
theorem dL_law_579 : decode cL_law 579 = .ok (.iload 4, 2) := by decide +kernel
theorem dL_law_581 : decode cL_law 581 = .ok (.iconst 2, 1) := by decide +kernel
theorem dL_law_582 : decode cL_law 582 = .ok (.iadd, 1) := by decide +kernel
theorem dL_law_583 : decode cL_law 583 = .ok (.iaload, 1) := by decide +kernel
theorem dL_law_584 : decode cL_law 584 = .ok (.invokevirtual 63, 3) := by decide +kernel
theorem dL_law_587 : decode cL_law 587 = .ok (.aload_n 2, 1) := by decide +kernel
theorem dL_law_588 : decode cL_law 588 = .ok (.aload_n 0, 1) := by decide +kernel
theorem dL_law_589 : decode cL_law 589 = .ok (.iload 4, 2) := by decide +kernel
theorem dL_law_591 : decode cL_law 591 = .ok (.iconst 1, 1) := by decide +kernel
theorem dL_law_592 : decode cL_law 592 = .ok (.iadd, 1) := by decide +kernel
theorem dL_law_593 : decode cL_law 593 = .ok (.iaload, 1) := by decide +kernel
theorem dL_law_594 : decode cL_law 594 = .ok (.aload_n 0, 1) := by decide +kernel
theorem dL_law_595 : decode cL_law 595 = .ok (.iload 4, 2) := by decide +kernel
theorem dL_law_597 : decode cL_law 597 = .ok (.iconst 2, 1) := by decide +kernel
theorem dL_law_598 : decode cL_law 598 = .ok (.iadd, 1) := by decide +kernel
theorem dL_law_599 : decode cL_law 599 = .ok (.iaload, 1) := by decide +kernel
theorem dL_law_600 : decode cL_law 600 = .ok (.invokevirtual 66, 3) := by decide +kernel
theorem dL_law_603 : decode cL_law 603 = .ok (.if_icmp .eq 1273, 3) := by decide +kernel
theorem dL_law_606 : decode cL_law 606 = .ok (.iconst 0, 1) := by decide +kernel
theorem dL_law_607 : decode cL_law 607 = .ok (.ireturn, 1) := by decide +kernel
theorem dL_law_608 : decode cL_law 608 = .ok (.aload_n 1, 1) := by decide +kernel
theorem dL_law_609 : decode cL_law 609 = .ok (.invokevirtual 67, 3) := by decide +kernel
theorem dL_law_612 : decode cL_law 612 = .ok (.aload_n 2, 1) := by decide +kernel
theorem dL_law_613 : decode cL_law 613 = .ok (.invokevirtual 70, 3) := by decide +kernel
theorem dL_law_616 : decode cL_law 616 = .ok (.if_icmp .eq 1260, 3) := by decide +kernel
theorem dL_law_619 : decode cL_law 619 = .ok (.iconst 0, 1) := by decide +kernel
theorem dL_law_620 : decode cL_law 620 = .ok (.ireturn, 1) := by decide +kernel
theorem dL_law_621 : decode cL_law 621 = .ok (.aload_n 1, 1) := by decide +kernel
theorem dL_law_622 : decode cL_law 622 = .ok (.invokevirtual 71, 3) := by decide +kernel
theorem dL_law_625 : decode cL_law 625 = .ok (.aload_n 2, 1) := by decide +kernel
theorem dL_law_626 : decode cL_law 626 = .ok (.invokevirtual 74, 3) := by decide +kernel
theorem dL_law_629 : decode cL_law 629 = .ok (.if_icmp .eq 1247, 3) := by decide +kernel
theorem dL_law_632 : decode cL_law 632 = .ok (.iconst 0, 1) := by decide +kernel
theorem dL_law_633 : decode cL_law 633 = .ok (.ireturn, 1) := by decide +kernel
theorem dL_law_634 : decode cL_law 634 = .ok (.aload_n 1, 1) := by decide +kernel
theorem dL_law_635 : decode cL_law 635 = .ok (.aload_n 0, 1) := by decide +kernel
theorem dL_law_636 : decode cL_law 636 = .ok (.iload 4, 2) := by decide +kernel
theorem dL_law_638 : decode cL_law 638 = .ok (.iconst 1, 1) := by decide +kernel
theorem dL_law_639 : decode cL_law 639 = .ok (.iadd, 1) := by decide +kernel
theorem dL_law_640 : decode cL_law 640 = .ok (.iaload, 1) := by decide +kernel
theorem dL_law_641 : decode cL_law 641 = .ok (.invokevirtual 75, 3) := by decide +kernel
theorem dL_law_644 : decode cL_law 644 = .ok (.aload_n 2, 1) := by decide +kernel
theorem dL_law_645 : decode cL_law 645 = .ok (.aload_n 0, 1) := by decide +kernel
theorem dL_law_646 : decode cL_law 646 = .ok (.iload 4, 2) := by decide +kernel
theorem dL_law_648 : decode cL_law 648 = .ok (.iconst 1, 1) := by decide +kernel
theorem dL_law_649 : decode cL_law 649 = .ok (.iadd, 1) := by decide +kernel
theorem dL_law_650 : decode cL_law 650 = .ok (.iaload, 1) := by decide +kernel
theorem dL_law_651 : decode cL_law 651 = .ok (.invokevirtual 78, 3) := by decide +kernel
theorem dL_law_654 : decode cL_law 654 = .ok (.if_icmp .eq 1222, 3) := by decide +kernel
theorem dL_law_657 : decode cL_law 657 = .ok (.iconst 0, 1) := by decide +kernel
theorem dL_law_658 : decode cL_law 658 = .ok (.ireturn, 1) := by decide +kernel
theorem dL_law_659 : decode cL_law 659 = .ok (.aload_n 1, 1) := by decide +kernel
theorem dL_law_660 : decode cL_law 660 = .ok (.aload_n 0, 1) := by decide +kernel
theorem dL_law_661 : decode cL_law 661 = .ok (.iload 4, 2) := by decide +kernel
theorem dL_law_663 : decode cL_law 663 = .ok (.iconst 1, 1) := by decide +kernel
theorem dL_law_664 : decode cL_law 664 = .ok (.iadd, 1) := by decide +kernel
theorem dL_law_665 : decode cL_law 665 = .ok (.iaload, 1) := by decide +kernel
theorem dL_law_666 : decode cL_law 666 = .ok (.invokevirtual 79, 3) := by decide +kernel
theorem dL_law_669 : decode cL_law 669 = .ok (.aload_n 2, 1) := by decide +kernel
theorem dL_law_670 : decode cL_law 670 = .ok (.aload_n 0, 1) := by decide +kernel
theorem dL_law_671 : decode cL_law 671 = .ok (.iload 4, 2) := by decide +kernel
theorem dL_law_673 : decode cL_law 673 = .ok (.iconst 1, 1) := by decide +kernel
theorem dL_law_674 : decode cL_law 674 = .ok (.iadd, 1) := by decide +kernel
theorem dL_law_675 : decode cL_law 675 = .ok (.iaload, 1) := by decide +kernel
theorem dL_law_676 : decode cL_law 676 = .ok (.invokevirtual 82, 3) := by decide +kernel
theorem dL_law_679 : decode cL_law 679 = .ok (.if_icmp .eq 1197, 3) := by decide +kernel
theorem dL_law_682 : decode cL_law 682 = .ok (.iconst 0, 1) := by decide +kernel
theorem dL_law_683 : decode cL_law 683 = .ok (.ireturn, 1) := by decide +kernel
theorem dL_law_684 : decode cL_law 684 = .ok (.aload_n 1, 1) := by decide +kernel
theorem dL_law_685 : decode cL_law 685 = .ok (.aload_n 0, 1) := by decide +kernel
theorem dL_law_686 : decode cL_law 686 = .ok (.iload 4, 2) := by decide +kernel
theorem dL_law_688 : decode cL_law 688 = .ok (.iconst 1, 1) := by decide +kernel
theorem dL_law_689 : decode cL_law 689 = .ok (.iadd, 1) := by decide +kernel
theorem dL_law_690 : decode cL_law 690 = .ok (.iaload, 1) := by decide +kernel
theorem dL_law_691 : decode cL_law 691 = .ok (.invokevirtual 83, 3) := by decide +kernel
theorem dL_law_694 : decode cL_law 694 = .ok (.aload_n 2, 1) := by decide +kernel
theorem dL_law_695 : decode cL_law 695 = .ok (.aload_n 0, 1) := by decide +kernel
theorem dL_law_696 : decode cL_law 696 = .ok (.iload 4, 2) := by decide +kernel
theorem dL_law_698 : decode cL_law 698 = .ok (.iconst 1, 1) := by decide +kernel
theorem dL_law_699 : decode cL_law 699 = .ok (.iadd, 1) := by decide +kernel
theorem dL_law_700 : decode cL_law 700 = .ok (.iaload, 1) := by decide +kernel
theorem dL_law_701 : decode cL_law 701 = .ok (.invokevirtual 86, 3) := by decide +kernel
theorem dL_law_704 : decode cL_law 704 = .ok (.if_icmp .eq 1172, 3) := by decide +kernel
theorem dL_law_707 : decode cL_law 707 = .ok (.iconst 0, 1) := by decide +kernel
theorem dL_law_708 : decode cL_law 708 = .ok (.ireturn, 1) := by decide +kernel
theorem dL_law_709 : decode cL_law 709 = .ok (.aload_n 1, 1) := by decide +kernel
theorem dL_law_710 : decode cL_law 710 = .ok (.aload_n 0, 1) := by decide +kernel
theorem dL_law_711 : decode cL_law 711 = .ok (.iload 4, 2) := by decide +kernel
theorem dL_law_713 : decode cL_law 713 = .ok (.iconst 1, 1) := by decide +kernel
theorem dL_law_714 : decode cL_law 714 = .ok (.iadd, 1) := by decide +kernel
theorem dL_law_715 : decode cL_law 715 = .ok (.iaload, 1) := by decide +kernel
theorem dL_law_716 : decode cL_law 716 = .ok (.aload_n 0, 1) := by decide +kernel
theorem dL_law_717 : decode cL_law 717 = .ok (.iload 4, 2) := by decide +kernel
theorem dL_law_719 : decode cL_law 719 = .ok (.iconst 2, 1) := by decide +kernel
theorem dL_law_720 : decode cL_law 720 = .ok (.iadd, 1) := by decide +kernel
theorem dL_law_721 : decode cL_law 721 = .ok (.iaload, 1) := by decide +kernel
theorem dL_law_722 : decode cL_law 722 = .ok (.invokevirtual 87, 3) := by decide +kernel
theorem dL_law_725 : decode cL_law 725 = .ok (.aload_n 2, 1) := by decide +kernel
theorem dL_law_726 : decode cL_law 726 = .ok (.aload_n 0, 1) := by decide +kernel
theorem dL_law_727 : decode cL_law 727 = .ok (.iload 4, 2) := by decide +kernel
theorem dL_law_729 : decode cL_law 729 = .ok (.iconst 1, 1) := by decide +kernel
theorem dL_law_730 : decode cL_law 730 = .ok (.iadd, 1) := by decide +kernel
theorem dL_law_731 : decode cL_law 731 = .ok (.iaload, 1) := by decide +kernel
theorem dL_law_732 : decode cL_law 732 = .ok (.aload_n 0, 1) := by decide +kernel
theorem dL_law_733 : decode cL_law 733 = .ok (.iload 4, 2) := by decide +kernel
theorem dL_law_735 : decode cL_law 735 = .ok (.iconst 2, 1) := by decide +kernel
theorem dL_law_736 : decode cL_law 736 = .ok (.iadd, 1) := by decide +kernel
theorem dL_law_737 : decode cL_law 737 = .ok (.iaload, 1) := by decide +kernel
theorem dL_law_738 : decode cL_law 738 = .ok (.invokevirtual 90, 3) := by decide +kernel
theorem dL_law_741 : decode cL_law 741 = .ok (.if_icmp .eq 1135, 3) := by decide +kernel
theorem dL_law_744 : decode cL_law 744 = .ok (.iconst 0, 1) := by decide +kernel
theorem dL_law_745 : decode cL_law 745 = .ok (.ireturn, 1) := by decide +kernel
theorem dL_law_746 : decode cL_law 746 = .ok (.aload_n 1, 1) := by decide +kernel
theorem dL_law_747 : decode cL_law 747 = .ok (.aload_n 0, 1) := by decide +kernel
theorem dL_law_748 : decode cL_law 748 = .ok (.iload 4, 2) := by decide +kernel
theorem dL_law_750 : decode cL_law 750 = .ok (.iconst 1, 1) := by decide +kernel
theorem dL_law_751 : decode cL_law 751 = .ok (.iadd, 1) := by decide +kernel
theorem dL_law_752 : decode cL_law 752 = .ok (.iaload, 1) := by decide +kernel
theorem dL_law_753 : decode cL_law 753 = .ok (.aload_n 0, 1) := by decide +kernel
theorem dL_law_754 : decode cL_law 754 = .ok (.iload 4, 2) := by decide +kernel
theorem dL_law_756 : decode cL_law 756 = .ok (.iconst 2, 1) := by decide +kernel
theorem dL_law_757 : decode cL_law 757 = .ok (.iadd, 1) := by decide +kernel
theorem dL_law_758 : decode cL_law 758 = .ok (.iaload, 1) := by decide +kernel
theorem dL_law_759 : decode cL_law 759 = .ok (.invokevirtual 91, 3) := by decide +kernel
theorem dL_law_762 : decode cL_law 762 = .ok (.aload_n 2, 1) := by decide +kernel
theorem dL_law_763 : decode cL_law 763 = .ok (.aload_n 0, 1) := by decide +kernel
theorem dL_law_764 : decode cL_law 764 = .ok (.iload 4, 2) := by decide +kernel
theorem dL_law_766 : decode cL_law 766 = .ok (.iconst 1, 1) := by decide +kernel
theorem dL_law_767 : decode cL_law 767 = .ok (.iadd, 1) := by decide +kernel
theorem dL_law_768 : decode cL_law 768 = .ok (.iaload, 1) := by decide +kernel
theorem dL_law_769 : decode cL_law 769 = .ok (.aload_n 0, 1) := by decide +kernel
theorem dL_law_770 : decode cL_law 770 = .ok (.iload 4, 2) := by decide +kernel
theorem dL_law_772 : decode cL_law 772 = .ok (.iconst 2, 1) := by decide +kernel
theorem dL_law_773 : decode cL_law 773 = .ok (.iadd, 1) := by decide +kernel
theorem dL_law_774 : decode cL_law 774 = .ok (.iaload, 1) := by decide +kernel
theorem dL_law_775 : decode cL_law 775 = .ok (.invokevirtual 94, 3) := by decide +kernel
theorem dL_law_778 : decode cL_law 778 = .ok (.if_icmp .eq 1098, 3) := by decide +kernel
theorem dL_law_781 : decode cL_law 781 = .ok (.iconst 0, 1) := by decide +kernel
theorem dL_law_782 : decode cL_law 782 = .ok (.ireturn, 1) := by decide +kernel
theorem dL_law_783 : decode cL_law 783 = .ok (.aload_n 1, 1) := by decide +kernel
theorem dL_law_784 : decode cL_law 784 = .ok (.aload_n 0, 1) := by decide +kernel
theorem dL_law_785 : decode cL_law 785 = .ok (.iload 4, 2) := by decide +kernel
theorem dL_law_787 : decode cL_law 787 = .ok (.iconst 1, 1) := by decide +kernel
theorem dL_law_788 : decode cL_law 788 = .ok (.iadd, 1) := by decide +kernel
theorem dL_law_789 : decode cL_law 789 = .ok (.iaload, 1) := by decide +kernel
theorem dL_law_790 : decode cL_law 790 = .ok (.invokevirtual 95, 3) := by decide +kernel
theorem dL_law_793 : decode cL_law 793 = .ok (.aload_n 2, 1) := by decide +kernel
theorem dL_law_794 : decode cL_law 794 = .ok (.aload_n 0, 1) := by decide +kernel
theorem dL_law_795 : decode cL_law 795 = .ok (.iload 4, 2) := by decide +kernel
theorem dL_law_797 : decode cL_law 797 = .ok (.iconst 1, 1) := by decide +kernel
theorem dL_law_798 : decode cL_law 798 = .ok (.iadd, 1) := by decide +kernel
theorem dL_law_799 : decode cL_law 799 = .ok (.iaload, 1) := by decide +kernel
theorem dL_law_800 : decode cL_law 800 = .ok (.invokevirtual 98, 3) := by decide +kernel
theorem dL_law_803 : decode cL_law 803 = .ok (.if_icmp .eq 1073, 3) := by decide +kernel
theorem dL_law_806 : decode cL_law 806 = .ok (.iconst 0, 1) := by decide +kernel
theorem dL_law_807 : decode cL_law 807 = .ok (.ireturn, 1) := by decide +kernel
theorem dL_law_808 : decode cL_law 808 = .ok (.aload_n 1, 1) := by decide +kernel
theorem dL_law_809 : decode cL_law 809 = .ok (.invokevirtual 99, 3) := by decide +kernel
theorem dL_law_812 : decode cL_law 812 = .ok (.aload_n 2, 1) := by decide +kernel
theorem dL_law_813 : decode cL_law 813 = .ok (.invokevirtual 102, 3) := by decide +kernel
theorem dL_law_816 : decode cL_law 816 = .ok (.if_icmp .eq 1060, 3) := by decide +kernel
theorem dL_law_819 : decode cL_law 819 = .ok (.iconst 0, 1) := by decide +kernel
theorem dL_law_820 : decode cL_law 820 = .ok (.ireturn, 1) := by decide +kernel
theorem dL_law_821 : decode cL_law 821 = .ok (.aload_n 1, 1) := by decide +kernel
theorem dL_law_822 : decode cL_law 822 = .ok (.invokevirtual 103, 3) := by decide +kernel
theorem dL_law_825 : decode cL_law 825 = .ok (.aload_n 2, 1) := by decide +kernel
theorem dL_law_826 : decode cL_law 826 = .ok (.invokevirtual 106, 3) := by decide +kernel
theorem dL_law_829 : decode cL_law 829 = .ok (.if_icmp .eq 1047, 3) := by decide +kernel
theorem dL_law_832 : decode cL_law 832 = .ok (.iconst 0, 1) := by decide +kernel
theorem dL_law_833 : decode cL_law 833 = .ok (.ireturn, 1) := by decide +kernel
theorem dL_law_834 : decode cL_law 834 = .ok (.aload_n 1, 1) := by decide +kernel
theorem dL_law_835 : decode cL_law 835 = .ok (.aload_n 0, 1) := by decide +kernel
theorem dL_law_836 : decode cL_law 836 = .ok (.iload 4, 2) := by decide +kernel
theorem dL_law_838 : decode cL_law 838 = .ok (.iconst 1, 1) := by decide +kernel
theorem dL_law_839 : decode cL_law 839 = .ok (.iadd, 1) := by decide +kernel
theorem dL_law_840 : decode cL_law 840 = .ok (.iaload, 1) := by decide +kernel
theorem dL_law_841 : decode cL_law 841 = .ok (.invokevirtual 107, 3) := by decide +kernel
theorem dL_law_844 : decode cL_law 844 = .ok (.aload_n 2, 1) := by decide +kernel
theorem dL_law_845 : decode cL_law 845 = .ok (.aload_n 0, 1) := by decide +kernel
theorem dL_law_846 : decode cL_law 846 = .ok (.iload 4, 2) := by decide +kernel
theorem dL_law_848 : decode cL_law 848 = .ok (.iconst 1, 1) := by decide +kernel
theorem dL_law_849 : decode cL_law 849 = .ok (.iadd, 1) := by decide +kernel
theorem dL_law_850 : decode cL_law 850 = .ok (.iaload, 1) := by decide +kernel
theorem dL_law_851 : decode cL_law 851 = .ok (.invokevirtual 110, 3) := by decide +kernel
theorem dL_law_854 : decode cL_law 854 = .ok (.if_icmp .eq 1022, 3) := by decide +kernel
theorem dL_law_857 : decode cL_law 857 = .ok (.iconst 0, 1) := by decide +kernel
theorem dL_law_858 : decode cL_law 858 = .ok (.ireturn, 1) := by decide +kernel
theorem dL_law_859 : decode cL_law 859 = .ok (.aload_n 1, 1) := by decide +kernel
theorem dL_law_860 : decode cL_law 860 = .ok (.aload_n 0, 1) := by decide +kernel
theorem dL_law_861 : decode cL_law 861 = .ok (.iload 4, 2) := by decide +kernel
theorem dL_law_863 : decode cL_law 863 = .ok (.iconst 1, 1) := by decide +kernel
theorem dL_law_864 : decode cL_law 864 = .ok (.iadd, 1) := by decide +kernel
theorem dL_law_865 : decode cL_law 865 = .ok (.iaload, 1) := by decide +kernel
theorem dL_law_866 : decode cL_law 866 = .ok (.aload_n 0, 1) := by decide +kernel
theorem dL_law_867 : decode cL_law 867 = .ok (.iload 4, 2) := by decide +kernel
theorem dL_law_869 : decode cL_law 869 = .ok (.iconst 2, 1) := by decide +kernel
theorem dL_law_870 : decode cL_law 870 = .ok (.iadd, 1) := by decide +kernel
theorem dL_law_871 : decode cL_law 871 = .ok (.iaload, 1) := by decide +kernel
theorem dL_law_872 : decode cL_law 872 = .ok (.aload_n 0, 1) := by decide +kernel
theorem dL_law_873 : decode cL_law 873 = .ok (.iload 4, 2) := by decide +kernel
theorem dL_law_875 : decode cL_law 875 = .ok (.iconst 3, 1) := by decide +kernel
theorem dL_law_876 : decode cL_law 876 = .ok (.iadd, 1) := by decide +kernel
theorem dL_law_877 : decode cL_law 877 = .ok (.iaload, 1) := by decide +kernel
theorem dL_law_878 : decode cL_law 878 = .ok (.ifCond .eq 7, 3) := by decide +kernel
theorem dL_law_881 : decode cL_law 881 = .ok (.iconst 1, 1) := by decide +kernel
theorem dL_law_882 : decode cL_law 882 = .ok (.goto 4, 3) := by decide +kernel
theorem dL_law_885 : decode cL_law 885 = .ok (.iconst 0, 1) := by decide +kernel
theorem dL_law_886 : decode cL_law 886 = .ok (.invokevirtual 111, 3) := by decide +kernel
theorem dL_law_889 : decode cL_law 889 = .ok (.aload_n 2, 1) := by decide +kernel
theorem dL_law_890 : decode cL_law 890 = .ok (.aload_n 0, 1) := by decide +kernel
theorem dL_law_891 : decode cL_law 891 = .ok (.iload 4, 2) := by decide +kernel
theorem dL_law_893 : decode cL_law 893 = .ok (.iconst 1, 1) := by decide +kernel
theorem dL_law_894 : decode cL_law 894 = .ok (.iadd, 1) := by decide +kernel
theorem dL_law_895 : decode cL_law 895 = .ok (.iaload, 1) := by decide +kernel
theorem dL_law_896 : decode cL_law 896 = .ok (.aload_n 0, 1) := by decide +kernel
theorem dL_law_897 : decode cL_law 897 = .ok (.iload 4, 2) := by decide +kernel
theorem dL_law_899 : decode cL_law 899 = .ok (.iconst 2, 1) := by decide +kernel
theorem dL_law_900 : decode cL_law 900 = .ok (.iadd, 1) := by decide +kernel
theorem dL_law_901 : decode cL_law 901 = .ok (.iaload, 1) := by decide +kernel
theorem dL_law_902 : decode cL_law 902 = .ok (.aload_n 0, 1) := by decide +kernel
theorem dL_law_903 : decode cL_law 903 = .ok (.iload 4, 2) := by decide +kernel
theorem dL_law_905 : decode cL_law 905 = .ok (.iconst 3, 1) := by decide +kernel
theorem dL_law_906 : decode cL_law 906 = .ok (.iadd, 1) := by decide +kernel
theorem dL_law_907 : decode cL_law 907 = .ok (.iaload, 1) := by decide +kernel
theorem dL_law_908 : decode cL_law 908 = .ok (.ifCond .eq 7, 3) := by decide +kernel
theorem dL_law_911 : decode cL_law 911 = .ok (.iconst 1, 1) := by decide +kernel
theorem dL_law_912 : decode cL_law 912 = .ok (.goto 4, 3) := by decide +kernel
theorem dL_law_915 : decode cL_law 915 = .ok (.iconst 0, 1) := by decide +kernel
theorem dL_law_916 : decode cL_law 916 = .ok (.invokevirtual 115, 3) := by decide +kernel
theorem dL_law_919 : decode cL_law 919 = .ok (.lcmp, 1) := by decide +kernel
theorem dL_law_920 : decode cL_law 920 = .ok (.ifCond .eq 956, 3) := by decide +kernel
theorem dL_law_923 : decode cL_law 923 = .ok (.iconst 0, 1) := by decide +kernel
theorem dL_law_924 : decode cL_law 924 = .ok (.ireturn, 1) := by decide +kernel
theorem dL_law_925 : decode cL_law 925 = .ok (.aload_n 1, 1) := by decide +kernel
theorem dL_law_926 : decode cL_law 926 = .ok (.aload_n 0, 1) := by decide +kernel
theorem dL_law_927 : decode cL_law 927 = .ok (.iload 4, 2) := by decide +kernel
theorem dL_law_929 : decode cL_law 929 = .ok (.iconst 1, 1) := by decide +kernel
theorem dL_law_930 : decode cL_law 930 = .ok (.iadd, 1) := by decide +kernel
theorem dL_law_931 : decode cL_law 931 = .ok (.iaload, 1) := by decide +kernel
theorem dL_law_932 : decode cL_law 932 = .ok (.aload_n 0, 1) := by decide +kernel
theorem dL_law_933 : decode cL_law 933 = .ok (.iload 4, 2) := by decide +kernel
theorem dL_law_935 : decode cL_law 935 = .ok (.iconst 2, 1) := by decide +kernel
theorem dL_law_936 : decode cL_law 936 = .ok (.iadd, 1) := by decide +kernel
theorem dL_law_937 : decode cL_law 937 = .ok (.iaload, 1) := by decide +kernel
theorem dL_law_938 : decode cL_law 938 = .ok (.aload_n 0, 1) := by decide +kernel
theorem dL_law_939 : decode cL_law 939 = .ok (.iload 4, 2) := by decide +kernel
theorem dL_law_941 : decode cL_law 941 = .ok (.iconst 3, 1) := by decide +kernel
theorem dL_law_942 : decode cL_law 942 = .ok (.iadd, 1) := by decide +kernel
theorem dL_law_943 : decode cL_law 943 = .ok (.iaload, 1) := by decide +kernel
theorem dL_law_944 : decode cL_law 944 = .ok (.ifCond .eq 7, 3) := by decide +kernel
theorem dL_law_947 : decode cL_law 947 = .ok (.iconst 1, 1) := by decide +kernel
theorem dL_law_948 : decode cL_law 948 = .ok (.goto 4, 3) := by decide +kernel
theorem dL_law_951 : decode cL_law 951 = .ok (.iconst 0, 1) := by decide +kernel
theorem dL_law_952 : decode cL_law 952 = .ok (.invokevirtual 116, 3) := by decide +kernel
theorem dL_law_955 : decode cL_law 955 = .ok (.aload_n 2, 1) := by decide +kernel
theorem dL_law_956 : decode cL_law 956 = .ok (.aload_n 0, 1) := by decide +kernel
theorem dL_law_957 : decode cL_law 957 = .ok (.iload 4, 2) := by decide +kernel
theorem dL_law_959 : decode cL_law 959 = .ok (.iconst 1, 1) := by decide +kernel
theorem dL_law_960 : decode cL_law 960 = .ok (.iadd, 1) := by decide +kernel
theorem dL_law_961 : decode cL_law 961 = .ok (.iaload, 1) := by decide +kernel
theorem dL_law_962 : decode cL_law 962 = .ok (.aload_n 0, 1) := by decide +kernel
theorem dL_law_963 : decode cL_law 963 = .ok (.iload 4, 2) := by decide +kernel
theorem dL_law_965 : decode cL_law 965 = .ok (.iconst 2, 1) := by decide +kernel
theorem dL_law_966 : decode cL_law 966 = .ok (.iadd, 1) := by decide +kernel
theorem dL_law_967 : decode cL_law 967 = .ok (.iaload, 1) := by decide +kernel
theorem dL_law_968 : decode cL_law 968 = .ok (.aload_n 0, 1) := by decide +kernel
theorem dL_law_969 : decode cL_law 969 = .ok (.iload 4, 2) := by decide +kernel
theorem dL_law_971 : decode cL_law 971 = .ok (.iconst 3, 1) := by decide +kernel
theorem dL_law_972 : decode cL_law 972 = .ok (.iadd, 1) := by decide +kernel
theorem dL_law_973 : decode cL_law 973 = .ok (.iaload, 1) := by decide +kernel
theorem dL_law_974 : decode cL_law 974 = .ok (.ifCond .eq 7, 3) := by decide +kernel
theorem dL_law_977 : decode cL_law 977 = .ok (.iconst 1, 1) := by decide +kernel
theorem dL_law_978 : decode cL_law 978 = .ok (.goto 4, 3) := by decide +kernel
theorem dL_law_981 : decode cL_law 981 = .ok (.iconst 0, 1) := by decide +kernel
theorem dL_law_982 : decode cL_law 982 = .ok (.invokevirtual 120, 3) := by decide +kernel
theorem dL_law_985 : decode cL_law 985 = .ok (.if_icmp .eq 891, 3) := by decide +kernel
theorem dL_law_988 : decode cL_law 988 = .ok (.iconst 0, 1) := by decide +kernel
theorem dL_law_989 : decode cL_law 989 = .ok (.ireturn, 1) := by decide +kernel
theorem dL_law_990 : decode cL_law 990 = .ok (.aload_n 1, 1) := by decide +kernel
theorem dL_law_991 : decode cL_law 991 = .ok (.aload_n 0, 1) := by decide +kernel
theorem dL_law_992 : decode cL_law 992 = .ok (.iload 4, 2) := by decide +kernel
theorem dL_law_994 : decode cL_law 994 = .ok (.iconst 1, 1) := by decide +kernel
theorem dL_law_995 : decode cL_law 995 = .ok (.iadd, 1) := by decide +kernel
theorem dL_law_996 : decode cL_law 996 = .ok (.iaload, 1) := by decide +kernel
theorem dL_law_997 : decode cL_law 997 = .ok (.invokevirtual 121, 3) := by decide +kernel
theorem dL_law_1000 : decode cL_law 1000 = .ok (.aload_n 2, 1) := by decide +kernel
theorem dL_law_1001 : decode cL_law 1001 = .ok (.aload_n 0, 1) := by decide +kernel
theorem dL_law_1002 : decode cL_law 1002 = .ok (.iload 4, 2) := by decide +kernel
theorem dL_law_1004 : decode cL_law 1004 = .ok (.iconst 1, 1) := by decide +kernel
theorem dL_law_1005 : decode cL_law 1005 = .ok (.iadd, 1) := by decide +kernel
theorem dL_law_1006 : decode cL_law 1006 = .ok (.iaload, 1) := by decide +kernel
theorem dL_law_1007 : decode cL_law 1007 = .ok (.invokevirtual 124, 3) := by decide +kernel
theorem dL_law_1010 : decode cL_law 1010 = .ok (.if_icmp .eq 866, 3) := by decide +kernel
theorem dL_law_1013 : decode cL_law 1013 = .ok (.iconst 0, 1) := by decide +kernel
theorem dL_law_1014 : decode cL_law 1014 = .ok (.ireturn, 1) := by decide +kernel
theorem dL_law_1015 : decode cL_law 1015 = .ok (.aload_n 1, 1) := by decide +kernel
theorem dL_law_1016 : decode cL_law 1016 = .ok (.aload_n 0, 1) := by decide +kernel
theorem dL_law_1017 : decode cL_law 1017 = .ok (.iload 4, 2) := by decide +kernel
theorem dL_law_1019 : decode cL_law 1019 = .ok (.iconst 1, 1) := by decide +kernel
theorem dL_law_1020 : decode cL_law 1020 = .ok (.iadd, 1) := by decide +kernel
theorem dL_law_1021 : decode cL_law 1021 = .ok (.iaload, 1) := by decide +kernel
theorem dL_law_1022 : decode cL_law 1022 = .ok (.aload_n 0, 1) := by decide +kernel
theorem dL_law_1023 : decode cL_law 1023 = .ok (.iload 4, 2) := by decide +kernel
theorem dL_law_1025 : decode cL_law 1025 = .ok (.iconst 2, 1) := by decide +kernel
theorem dL_law_1026 : decode cL_law 1026 = .ok (.iadd, 1) := by decide +kernel
theorem dL_law_1027 : decode cL_law 1027 = .ok (.iaload, 1) := by decide +kernel
theorem dL_law_1028 : decode cL_law 1028 = .ok (.invokevirtual 125, 3) := by decide +kernel
theorem dL_law_1031 : decode cL_law 1031 = .ok (.aload_n 2, 1) := by decide +kernel
theorem dL_law_1032 : decode cL_law 1032 = .ok (.aload_n 0, 1) := by decide +kernel
theorem dL_law_1033 : decode cL_law 1033 = .ok (.iload 4, 2) := by decide +kernel
theorem dL_law_1035 : decode cL_law 1035 = .ok (.iconst 1, 1) := by decide +kernel
theorem dL_law_1036 : decode cL_law 1036 = .ok (.iadd, 1) := by decide +kernel
theorem dL_law_1037 : decode cL_law 1037 = .ok (.iaload, 1) := by decide +kernel
theorem dL_law_1038 : decode cL_law 1038 = .ok (.aload_n 0, 1) := by decide +kernel
theorem dL_law_1039 : decode cL_law 1039 = .ok (.iload 4, 2) := by decide +kernel
theorem dL_law_1041 : decode cL_law 1041 = .ok (.iconst 2, 1) := by decide +kernel
theorem dL_law_1042 : decode cL_law 1042 = .ok (.iadd, 1) := by decide +kernel
theorem dL_law_1043 : decode cL_law 1043 = .ok (.iaload, 1) := by decide +kernel
theorem dL_law_1044 : decode cL_law 1044 = .ok (.invokevirtual 128, 3) := by decide +kernel
theorem dL_law_1047 : decode cL_law 1047 = .ok (.if_icmp .eq 829, 3) := by decide +kernel
theorem dL_law_1050 : decode cL_law 1050 = .ok (.iconst 0, 1) := by decide +kernel
theorem dL_law_1051 : decode cL_law 1051 = .ok (.ireturn, 1) := by decide +kernel
theorem dL_law_1052 : decode cL_law 1052 = .ok (.aload_n 1, 1) := by decide +kernel
theorem dL_law_1053 : decode cL_law 1053 = .ok (.invokevirtual 129, 3) := by decide +kernel
theorem dL_law_1056 : decode cL_law 1056 = .ok (.aload_n 2, 1) := by decide +kernel
theorem dL_law_1057 : decode cL_law 1057 = .ok (.invokevirtual 132, 3) := by decide +kernel
theorem dL_law_1060 : decode cL_law 1060 = .ok (.if_icmp .eq 816, 3) := by decide +kernel
theorem dL_law_1063 : decode cL_law 1063 = .ok (.iconst 0, 1) := by decide +kernel
theorem dL_law_1064 : decode cL_law 1064 = .ok (.ireturn, 1) := by decide +kernel
theorem dL_law_1065 : decode cL_law 1065 = .ok (.aload_n 1, 1) := by decide +kernel
theorem dL_law_1066 : decode cL_law 1066 = .ok (.aload_n 0, 1) := by decide +kernel
theorem dL_law_1067 : decode cL_law 1067 = .ok (.iload 4, 2) := by decide +kernel
theorem dL_law_1069 : decode cL_law 1069 = .ok (.iconst 1, 1) := by decide +kernel
theorem dL_law_1070 : decode cL_law 1070 = .ok (.iadd, 1) := by decide +kernel
theorem dL_law_1071 : decode cL_law 1071 = .ok (.iaload, 1) := by decide +kernel
theorem dL_law_1072 : decode cL_law 1072 = .ok (.invokevirtual 133, 3) := by decide +kernel
theorem dL_law_1075 : decode cL_law 1075 = .ok (.aload_n 2, 1) := by decide +kernel
theorem dL_law_1076 : decode cL_law 1076 = .ok (.aload_n 0, 1) := by decide +kernel
theorem dL_law_1077 : decode cL_law 1077 = .ok (.iload 4, 2) := by decide +kernel
theorem dL_law_1079 : decode cL_law 1079 = .ok (.iconst 1, 1) := by decide +kernel
theorem dL_law_1080 : decode cL_law 1080 = .ok (.iadd, 1) := by decide +kernel
theorem dL_law_1081 : decode cL_law 1081 = .ok (.iaload, 1) := by decide +kernel
theorem dL_law_1082 : decode cL_law 1082 = .ok (.invokevirtual 136, 3) := by decide +kernel
theorem dL_law_1085 : decode cL_law 1085 = .ok (.if_icmp .eq 791, 3) := by decide +kernel
theorem dL_law_1088 : decode cL_law 1088 = .ok (.iconst 0, 1) := by decide +kernel
theorem dL_law_1089 : decode cL_law 1089 = .ok (.ireturn, 1) := by decide +kernel
theorem dL_law_1090 : decode cL_law 1090 = .ok (.aload_n 1, 1) := by decide +kernel
theorem dL_law_1091 : decode cL_law 1091 = .ok (.aload_n 0, 1) := by decide +kernel
theorem dL_law_1092 : decode cL_law 1092 = .ok (.iload 4, 2) := by decide +kernel
theorem dL_law_1094 : decode cL_law 1094 = .ok (.iconst 1, 1) := by decide +kernel
theorem dL_law_1095 : decode cL_law 1095 = .ok (.iadd, 1) := by decide +kernel
theorem dL_law_1096 : decode cL_law 1096 = .ok (.iaload, 1) := by decide +kernel
theorem dL_law_1097 : decode cL_law 1097 = .ok (.invokevirtual 137, 3) := by decide +kernel
theorem dL_law_1100 : decode cL_law 1100 = .ok (.aload_n 2, 1) := by decide +kernel
theorem dL_law_1101 : decode cL_law 1101 = .ok (.aload_n 0, 1) := by decide +kernel
theorem dL_law_1102 : decode cL_law 1102 = .ok (.iload 4, 2) := by decide +kernel
theorem dL_law_1104 : decode cL_law 1104 = .ok (.iconst 1, 1) := by decide +kernel
theorem dL_law_1105 : decode cL_law 1105 = .ok (.iadd, 1) := by decide +kernel
theorem dL_law_1106 : decode cL_law 1106 = .ok (.iaload, 1) := by decide +kernel
theorem dL_law_1107 : decode cL_law 1107 = .ok (.invokevirtual 140, 3) := by decide +kernel
theorem dL_law_1110 : decode cL_law 1110 = .ok (.if_icmp .eq 766, 3) := by decide +kernel
theorem dL_law_1113 : decode cL_law 1113 = .ok (.iconst 0, 1) := by decide +kernel
theorem dL_law_1114 : decode cL_law 1114 = .ok (.ireturn, 1) := by decide +kernel
theorem dL_law_1115 : decode cL_law 1115 = .ok (.aload_n 1, 1) := by decide +kernel
theorem dL_law_1116 : decode cL_law 1116 = .ok (.aload_n 0, 1) := by decide +kernel
theorem dL_law_1117 : decode cL_law 1117 = .ok (.iload 4, 2) := by decide +kernel
theorem dL_law_1119 : decode cL_law 1119 = .ok (.iconst 1, 1) := by decide +kernel
theorem dL_law_1120 : decode cL_law 1120 = .ok (.iadd, 1) := by decide +kernel
theorem dL_law_1121 : decode cL_law 1121 = .ok (.iaload, 1) := by decide +kernel
theorem dL_law_1122 : decode cL_law 1122 = .ok (.invokevirtual 141, 3) := by decide +kernel
theorem dL_law_1125 : decode cL_law 1125 = .ok (.aload_n 2, 1) := by decide +kernel
theorem dL_law_1126 : decode cL_law 1126 = .ok (.aload_n 0, 1) := by decide +kernel
theorem dL_law_1127 : decode cL_law 1127 = .ok (.iload 4, 2) := by decide +kernel
theorem dL_law_1129 : decode cL_law 1129 = .ok (.iconst 1, 1) := by decide +kernel
theorem dL_law_1130 : decode cL_law 1130 = .ok (.iadd, 1) := by decide +kernel
theorem dL_law_1131 : decode cL_law 1131 = .ok (.iaload, 1) := by decide +kernel
theorem dL_law_1132 : decode cL_law 1132 = .ok (.invokevirtual 144, 3) := by decide +kernel
theorem dL_law_1135 : decode cL_law 1135 = .ok (.if_icmp .eq 741, 3) := by decide +kernel
theorem dL_law_1138 : decode cL_law 1138 = .ok (.iconst 0, 1) := by decide +kernel
theorem dL_law_1139 : decode cL_law 1139 = .ok (.ireturn, 1) := by decide +kernel
theorem dL_law_1140 : decode cL_law 1140 = .ok (.aload_n 1, 1) := by decide +kernel
theorem dL_law_1141 : decode cL_law 1141 = .ok (.aload_n 0, 1) := by decide +kernel
theorem dL_law_1142 : decode cL_law 1142 = .ok (.iload 4, 2) := by decide +kernel
theorem dL_law_1144 : decode cL_law 1144 = .ok (.iconst 1, 1) := by decide +kernel
theorem dL_law_1145 : decode cL_law 1145 = .ok (.iadd, 1) := by decide +kernel
theorem dL_law_1146 : decode cL_law 1146 = .ok (.iaload, 1) := by decide +kernel
theorem dL_law_1147 : decode cL_law 1147 = .ok (.invokevirtual 145, 3) := by decide +kernel
theorem dL_law_1150 : decode cL_law 1150 = .ok (.aload_n 2, 1) := by decide +kernel
theorem dL_law_1151 : decode cL_law 1151 = .ok (.aload_n 0, 1) := by decide +kernel
theorem dL_law_1152 : decode cL_law 1152 = .ok (.iload 4, 2) := by decide +kernel
theorem dL_law_1154 : decode cL_law 1154 = .ok (.iconst 1, 1) := by decide +kernel
theorem dL_law_1155 : decode cL_law 1155 = .ok (.iadd, 1) := by decide +kernel
theorem dL_law_1156 : decode cL_law 1156 = .ok (.iaload, 1) := by decide +kernel
theorem dL_law_1157 : decode cL_law 1157 = .ok (.invokevirtual 148, 3) := by decide +kernel
theorem dL_law_1160 : decode cL_law 1160 = .ok (.if_icmp .eq 716, 3) := by decide +kernel
theorem dL_law_1163 : decode cL_law 1163 = .ok (.iconst 0, 1) := by decide +kernel
theorem dL_law_1164 : decode cL_law 1164 = .ok (.ireturn, 1) := by decide +kernel
theorem dL_law_1165 : decode cL_law 1165 = .ok (.aload_n 1, 1) := by decide +kernel
theorem dL_law_1166 : decode cL_law 1166 = .ok (.aload_n 0, 1) := by decide +kernel
theorem dL_law_1167 : decode cL_law 1167 = .ok (.iload 4, 2) := by decide +kernel
theorem dL_law_1169 : decode cL_law 1169 = .ok (.iconst 1, 1) := by decide +kernel
theorem dL_law_1170 : decode cL_law 1170 = .ok (.iadd, 1) := by decide +kernel
theorem dL_law_1171 : decode cL_law 1171 = .ok (.iaload, 1) := by decide +kernel
theorem dL_law_1172 : decode cL_law 1172 = .ok (.invokevirtual 149, 3) := by decide +kernel
theorem dL_law_1175 : decode cL_law 1175 = .ok (.aload_n 2, 1) := by decide +kernel
theorem dL_law_1176 : decode cL_law 1176 = .ok (.aload_n 0, 1) := by decide +kernel
theorem dL_law_1177 : decode cL_law 1177 = .ok (.iload 4, 2) := by decide +kernel
theorem dL_law_1179 : decode cL_law 1179 = .ok (.iconst 1, 1) := by decide +kernel
theorem dL_law_1180 : decode cL_law 1180 = .ok (.iadd, 1) := by decide +kernel
theorem dL_law_1181 : decode cL_law 1181 = .ok (.iaload, 1) := by decide +kernel
theorem dL_law_1182 : decode cL_law 1182 = .ok (.invokevirtual 152, 3) := by decide +kernel
theorem dL_law_1185 : decode cL_law 1185 = .ok (.if_icmp .eq 691, 3) := by decide +kernel
theorem dL_law_1188 : decode cL_law 1188 = .ok (.iconst 0, 1) := by decide +kernel
theorem dL_law_1189 : decode cL_law 1189 = .ok (.ireturn, 1) := by decide +kernel
theorem dL_law_1190 : decode cL_law 1190 = .ok (.aload_n 1, 1) := by decide +kernel
theorem dL_law_1191 : decode cL_law 1191 = .ok (.aload_n 0, 1) := by decide +kernel
theorem dL_law_1192 : decode cL_law 1192 = .ok (.iload 4, 2) := by decide +kernel
theorem dL_law_1194 : decode cL_law 1194 = .ok (.iconst 1, 1) := by decide +kernel
theorem dL_law_1195 : decode cL_law 1195 = .ok (.iadd, 1) := by decide +kernel
theorem dL_law_1196 : decode cL_law 1196 = .ok (.iaload, 1) := by decide +kernel
theorem dL_law_1197 : decode cL_law 1197 = .ok (.invokevirtual 153, 3) := by decide +kernel
theorem dL_law_1200 : decode cL_law 1200 = .ok (.aload_n 2, 1) := by decide +kernel
theorem dL_law_1201 : decode cL_law 1201 = .ok (.aload_n 0, 1) := by decide +kernel
theorem dL_law_1202 : decode cL_law 1202 = .ok (.iload 4, 2) := by decide +kernel
theorem dL_law_1204 : decode cL_law 1204 = .ok (.iconst 1, 1) := by decide +kernel
theorem dL_law_1205 : decode cL_law 1205 = .ok (.iadd, 1) := by decide +kernel
theorem dL_law_1206 : decode cL_law 1206 = .ok (.iaload, 1) := by decide +kernel
theorem dL_law_1207 : decode cL_law 1207 = .ok (.invokevirtual 156, 3) := by decide +kernel
theorem dL_law_1210 : decode cL_law 1210 = .ok (.if_icmp .eq 666, 3) := by decide +kernel
theorem dL_law_1213 : decode cL_law 1213 = .ok (.iconst 0, 1) := by decide +kernel
theorem dL_law_1214 : decode cL_law 1214 = .ok (.ireturn, 1) := by decide +kernel
theorem dL_law_1215 : decode cL_law 1215 = .ok (.aload_n 1, 1) := by decide +kernel
theorem dL_law_1216 : decode cL_law 1216 = .ok (.aload_n 0, 1) := by decide +kernel
theorem dL_law_1217 : decode cL_law 1217 = .ok (.iload 4, 2) := by decide +kernel
theorem dL_law_1219 : decode cL_law 1219 = .ok (.iconst 1, 1) := by decide +kernel
theorem dL_law_1220 : decode cL_law 1220 = .ok (.iadd, 1) := by decide +kernel
theorem dL_law_1221 : decode cL_law 1221 = .ok (.iaload, 1) := by decide +kernel
theorem dL_law_1222 : decode cL_law 1222 = .ok (.aload_n 0, 1) := by decide +kernel
theorem dL_law_1223 : decode cL_law 1223 = .ok (.iload 4, 2) := by decide +kernel
theorem dL_law_1225 : decode cL_law 1225 = .ok (.iconst 2, 1) := by decide +kernel
theorem dL_law_1226 : decode cL_law 1226 = .ok (.iadd, 1) := by decide +kernel
theorem dL_law_1227 : decode cL_law 1227 = .ok (.iaload, 1) := by decide +kernel
theorem dL_law_1228 : decode cL_law 1228 = .ok (.aload_n 0, 1) := by decide +kernel
theorem dL_law_1229 : decode cL_law 1229 = .ok (.iload 4, 2) := by decide +kernel
theorem dL_law_1231 : decode cL_law 1231 = .ok (.iconst 3, 1) := by decide +kernel
theorem dL_law_1232 : decode cL_law 1232 = .ok (.iadd, 1) := by decide +kernel
theorem dL_law_1233 : decode cL_law 1233 = .ok (.iaload, 1) := by decide +kernel
theorem dL_law_1234 : decode cL_law 1234 = .ok (.ifCond .eq 7, 3) := by decide +kernel
theorem dL_law_1237 : decode cL_law 1237 = .ok (.iconst 1, 1) := by decide +kernel
theorem dL_law_1238 : decode cL_law 1238 = .ok (.goto 4, 3) := by decide +kernel
theorem dL_law_1241 : decode cL_law 1241 = .ok (.iconst 0, 1) := by decide +kernel
theorem dL_law_1242 : decode cL_law 1242 = .ok (.invokevirtual 157, 3) := by decide +kernel
theorem dL_law_1245 : decode cL_law 1245 = .ok (.aload_n 2, 1) := by decide +kernel
theorem dL_law_1246 : decode cL_law 1246 = .ok (.aload_n 0, 1) := by decide +kernel
theorem dL_law_1247 : decode cL_law 1247 = .ok (.iload 4, 2) := by decide +kernel
theorem dL_law_1249 : decode cL_law 1249 = .ok (.iconst 1, 1) := by decide +kernel
theorem dL_law_1250 : decode cL_law 1250 = .ok (.iadd, 1) := by decide +kernel
theorem dL_law_1251 : decode cL_law 1251 = .ok (.iaload, 1) := by decide +kernel
theorem dL_law_1252 : decode cL_law 1252 = .ok (.aload_n 0, 1) := by decide +kernel
theorem dL_law_1253 : decode cL_law 1253 = .ok (.iload 4, 2) := by decide +kernel
theorem dL_law_1255 : decode cL_law 1255 = .ok (.iconst 2, 1) := by decide +kernel
theorem dL_law_1256 : decode cL_law 1256 = .ok (.iadd, 1) := by decide +kernel
theorem dL_law_1257 : decode cL_law 1257 = .ok (.iaload, 1) := by decide +kernel
theorem dL_law_1258 : decode cL_law 1258 = .ok (.aload_n 0, 1) := by decide +kernel
theorem dL_law_1259 : decode cL_law 1259 = .ok (.iload 4, 2) := by decide +kernel
theorem dL_law_1261 : decode cL_law 1261 = .ok (.iconst 3, 1) := by decide +kernel
theorem dL_law_1262 : decode cL_law 1262 = .ok (.iadd, 1) := by decide +kernel
theorem dL_law_1263 : decode cL_law 1263 = .ok (.iaload, 1) := by decide +kernel
theorem dL_law_1264 : decode cL_law 1264 = .ok (.ifCond .eq 7, 3) := by decide +kernel
theorem dL_law_1267 : decode cL_law 1267 = .ok (.iconst 1, 1) := by decide +kernel
theorem dL_law_1268 : decode cL_law 1268 = .ok (.goto 4, 3) := by decide +kernel
theorem dL_law_1271 : decode cL_law 1271 = .ok (.iconst 0, 1) := by decide +kernel
theorem dL_law_1272 : decode cL_law 1272 = .ok (.invokevirtual 160, 3) := by decide +kernel
theorem dL_law_1275 : decode cL_law 1275 = .ok (.lcmp, 1) := by decide +kernel
theorem dL_law_1276 : decode cL_law 1276 = .ok (.ifCond .eq 600, 3) := by decide +kernel
theorem dL_law_1279 : decode cL_law 1279 = .ok (.iconst 0, 1) := by decide +kernel
theorem dL_law_1280 : decode cL_law 1280 = .ok (.ireturn, 1) := by decide +kernel
theorem dL_law_1281 : decode cL_law 1281 = .ok (.aload_n 1, 1) := by decide +kernel
theorem dL_law_1282 : decode cL_law 1282 = .ok (.invokevirtual 161, 3) := by decide +kernel
theorem dL_law_1285 : decode cL_law 1285 = .ok (.aload_n 2, 1) := by decide +kernel
theorem dL_law_1286 : decode cL_law 1286 = .ok (.invokevirtual 164, 3) := by decide +kernel
theorem dL_law_1289 : decode cL_law 1289 = .ok (.if_icmp .eq 587, 3) := by decide +kernel
theorem dL_law_1292 : decode cL_law 1292 = .ok (.iconst 0, 1) := by decide +kernel
theorem dL_law_1293 : decode cL_law 1293 = .ok (.ireturn, 1) := by decide +kernel
theorem dL_law_1294 : decode cL_law 1294 = .ok (.aload_n 1, 1) := by decide +kernel
theorem dL_law_1295 : decode cL_law 1295 = .ok (.aload_n 0, 1) := by decide +kernel
theorem dL_law_1296 : decode cL_law 1296 = .ok (.iload 4, 2) := by decide +kernel
theorem dL_law_1298 : decode cL_law 1298 = .ok (.iconst 1, 1) := by decide +kernel
theorem dL_law_1299 : decode cL_law 1299 = .ok (.iadd, 1) := by decide +kernel
theorem dL_law_1300 : decode cL_law 1300 = .ok (.iaload, 1) := by decide +kernel
theorem dL_law_1301 : decode cL_law 1301 = .ok (.aload_n 0, 1) := by decide +kernel
theorem dL_law_1302 : decode cL_law 1302 = .ok (.iload 4, 2) := by decide +kernel
theorem dL_law_1304 : decode cL_law 1304 = .ok (.iconst 2, 1) := by decide +kernel
theorem dL_law_1305 : decode cL_law 1305 = .ok (.iadd, 1) := by decide +kernel
theorem dL_law_1306 : decode cL_law 1306 = .ok (.iaload, 1) := by decide +kernel
theorem dL_law_1307 : decode cL_law 1307 = .ok (.invokevirtual 165, 3) := by decide +kernel
theorem dL_law_1310 : decode cL_law 1310 = .ok (.aload_n 2, 1) := by decide +kernel
theorem dL_law_1311 : decode cL_law 1311 = .ok (.aload_n 0, 1) := by decide +kernel
theorem dL_law_1312 : decode cL_law 1312 = .ok (.iload 4, 2) := by decide +kernel
theorem dL_law_1314 : decode cL_law 1314 = .ok (.iconst 1, 1) := by decide +kernel
theorem dL_law_1315 : decode cL_law 1315 = .ok (.iadd, 1) := by decide +kernel
theorem dL_law_1316 : decode cL_law 1316 = .ok (.iaload, 1) := by decide +kernel
theorem dL_law_1317 : decode cL_law 1317 = .ok (.aload_n 0, 1) := by decide +kernel
theorem dL_law_1318 : decode cL_law 1318 = .ok (.iload 4, 2) := by decide +kernel
theorem dL_law_1320 : decode cL_law 1320 = .ok (.iconst 2, 1) := by decide +kernel
theorem dL_law_1321 : decode cL_law 1321 = .ok (.iadd, 1) := by decide +kernel
theorem dL_law_1322 : decode cL_law 1322 = .ok (.iaload, 1) := by decide +kernel
theorem dL_law_1323 : decode cL_law 1323 = .ok (.invokevirtual 168, 3) := by decide +kernel
theorem dL_law_1326 : decode cL_law 1326 = .ok (.if_icmp .eq 550, 3) := by decide +kernel
theorem dL_law_1329 : decode cL_law 1329 = .ok (.iconst 0, 1) := by decide +kernel
theorem dL_law_1330 : decode cL_law 1330 = .ok (.ireturn, 1) := by decide +kernel
theorem dL_law_1331 : decode cL_law 1331 = .ok (.aload_n 1, 1) := by decide +kernel
theorem dL_law_1332 : decode cL_law 1332 = .ok (.aload_n 0, 1) := by decide +kernel
theorem dL_law_1333 : decode cL_law 1333 = .ok (.iload 4, 2) := by decide +kernel
theorem dL_law_1335 : decode cL_law 1335 = .ok (.iconst 1, 1) := by decide +kernel
theorem dL_law_1336 : decode cL_law 1336 = .ok (.iadd, 1) := by decide +kernel
theorem dL_law_1337 : decode cL_law 1337 = .ok (.iaload, 1) := by decide +kernel
theorem dL_law_1338 : decode cL_law 1338 = .ok (.aload_n 0, 1) := by decide +kernel
theorem dL_law_1339 : decode cL_law 1339 = .ok (.iload 4, 2) := by decide +kernel
theorem dL_law_1341 : decode cL_law 1341 = .ok (.iconst 2, 1) := by decide +kernel
theorem dL_law_1342 : decode cL_law 1342 = .ok (.iadd, 1) := by decide +kernel
theorem dL_law_1343 : decode cL_law 1343 = .ok (.iaload, 1) := by decide +kernel
theorem dL_law_1344 : decode cL_law 1344 = .ok (.invokevirtual 169, 3) := by decide +kernel
theorem dL_law_1347 : decode cL_law 1347 = .ok (.aload_n 2, 1) := by decide +kernel
theorem dL_law_1348 : decode cL_law 1348 = .ok (.aload_n 0, 1) := by decide +kernel
theorem dL_law_1349 : decode cL_law 1349 = .ok (.iload 4, 2) := by decide +kernel
theorem dL_law_1351 : decode cL_law 1351 = .ok (.iconst 1, 1) := by decide +kernel
theorem dL_law_1352 : decode cL_law 1352 = .ok (.iadd, 1) := by decide +kernel
theorem dL_law_1353 : decode cL_law 1353 = .ok (.iaload, 1) := by decide +kernel
theorem dL_law_1354 : decode cL_law 1354 = .ok (.aload_n 0, 1) := by decide +kernel
theorem dL_law_1355 : decode cL_law 1355 = .ok (.iload 4, 2) := by decide +kernel
theorem dL_law_1357 : decode cL_law 1357 = .ok (.iconst 2, 1) := by decide +kernel
theorem dL_law_1358 : decode cL_law 1358 = .ok (.iadd, 1) := by decide +kernel
theorem dL_law_1359 : decode cL_law 1359 = .ok (.iaload, 1) := by decide +kernel
theorem dL_law_1360 : decode cL_law 1360 = .ok (.invokevirtual 172, 3) := by decide +kernel
theorem dL_law_1363 : decode cL_law 1363 = .ok (.if_icmp .eq 513, 3) := by decide +kernel
theorem dL_law_1366 : decode cL_law 1366 = .ok (.iconst 0, 1) := by decide +kernel
theorem dL_law_1367 : decode cL_law 1367 = .ok (.ireturn, 1) := by decide +kernel
theorem dL_law_1368 : decode cL_law 1368 = .ok (.aload_n 1, 1) := by decide +kernel
theorem dL_law_1369 : decode cL_law 1369 = .ok (.aload_n 0, 1) := by decide +kernel
theorem dL_law_1370 : decode cL_law 1370 = .ok (.iload 4, 2) := by decide +kernel
theorem dL_law_1372 : decode cL_law 1372 = .ok (.iconst 1, 1) := by decide +kernel
theorem dL_law_1373 : decode cL_law 1373 = .ok (.iadd, 1) := by decide +kernel
theorem dL_law_1374 : decode cL_law 1374 = .ok (.iaload, 1) := by decide +kernel
theorem dL_law_1375 : decode cL_law 1375 = .ok (.aload_n 0, 1) := by decide +kernel
theorem dL_law_1376 : decode cL_law 1376 = .ok (.iload 4, 2) := by decide +kernel
theorem dL_law_1378 : decode cL_law 1378 = .ok (.iconst 2, 1) := by decide +kernel
theorem dL_law_1379 : decode cL_law 1379 = .ok (.iadd, 1) := by decide +kernel
theorem dL_law_1380 : decode cL_law 1380 = .ok (.iaload, 1) := by decide +kernel
theorem dL_law_1381 : decode cL_law 1381 = .ok (.aload_n 0, 1) := by decide +kernel
theorem dL_law_1382 : decode cL_law 1382 = .ok (.iload 4, 2) := by decide +kernel
theorem dL_law_1384 : decode cL_law 1384 = .ok (.iconst 3, 1) := by decide +kernel
theorem dL_law_1385 : decode cL_law 1385 = .ok (.iadd, 1) := by decide +kernel
theorem dL_law_1386 : decode cL_law 1386 = .ok (.iaload, 1) := by decide +kernel
theorem dL_law_1387 : decode cL_law 1387 = .ok (.ifCond .eq 7, 3) := by decide +kernel
theorem dL_law_1390 : decode cL_law 1390 = .ok (.iconst 1, 1) := by decide +kernel
theorem dL_law_1391 : decode cL_law 1391 = .ok (.goto 4, 3) := by decide +kernel
theorem dL_law_1394 : decode cL_law 1394 = .ok (.iconst 0, 1) := by decide +kernel
theorem dL_law_1395 : decode cL_law 1395 = .ok (.invokevirtual 173, 3) := by decide +kernel
theorem dL_law_1398 : decode cL_law 1398 = .ok (.aload_n 2, 1) := by decide +kernel
theorem dL_law_1399 : decode cL_law 1399 = .ok (.aload_n 0, 1) := by decide +kernel
theorem dL_law_1400 : decode cL_law 1400 = .ok (.iload 4, 2) := by decide +kernel
theorem dL_law_1402 : decode cL_law 1402 = .ok (.iconst 1, 1) := by decide +kernel
theorem dL_law_1403 : decode cL_law 1403 = .ok (.iadd, 1) := by decide +kernel
theorem dL_law_1404 : decode cL_law 1404 = .ok (.iaload, 1) := by decide +kernel
theorem dL_law_1405 : decode cL_law 1405 = .ok (.aload_n 0, 1) := by decide +kernel
theorem dL_law_1406 : decode cL_law 1406 = .ok (.iload 4, 2) := by decide +kernel
theorem dL_law_1408 : decode cL_law 1408 = .ok (.iconst 2, 1) := by decide +kernel
theorem dL_law_1409 : decode cL_law 1409 = .ok (.iadd, 1) := by decide +kernel
theorem dL_law_1410 : decode cL_law 1410 = .ok (.iaload, 1) := by decide +kernel
theorem dL_law_1411 : decode cL_law 1411 = .ok (.aload_n 0, 1) := by decide +kernel
theorem dL_law_1412 : decode cL_law 1412 = .ok (.iload 4, 2) := by decide +kernel
theorem dL_law_1414 : decode cL_law 1414 = .ok (.iconst 3, 1) := by decide +kernel
theorem dL_law_1415 : decode cL_law 1415 = .ok (.iadd, 1) := by decide +kernel
theorem dL_law_1416 : decode cL_law 1416 = .ok (.iaload, 1) := by decide +kernel
theorem dL_law_1417 : decode cL_law 1417 = .ok (.ifCond .eq 7, 3) := by decide +kernel
theorem dL_law_1420 : decode cL_law 1420 = .ok (.iconst 1, 1) := by decide +kernel
theorem dL_law_1421 : decode cL_law 1421 = .ok (.goto 4, 3) := by decide +kernel
theorem dL_law_1424 : decode cL_law 1424 = .ok (.iconst 0, 1) := by decide +kernel
theorem dL_law_1425 : decode cL_law 1425 = .ok (.invokevirtual 176, 3) := by decide +kernel
theorem dL_law_1428 : decode cL_law 1428 = .ok (.lcmp, 1) := by decide +kernel
theorem dL_law_1429 : decode cL_law 1429 = .ok (.ifCond .eq 447, 3) := by decide +kernel
theorem dL_law_1432 : decode cL_law 1432 = .ok (.iconst 0, 1) := by decide +kernel
theorem dL_law_1433 : decode cL_law 1433 = .ok (.ireturn, 1) := by decide +kernel
theorem dL_law_1434 : decode cL_law 1434 = .ok (.aload_n 1, 1) := by decide +kernel
theorem dL_law_1435 : decode cL_law 1435 = .ok (.aload_n 0, 1) := by decide +kernel
theorem dL_law_1436 : decode cL_law 1436 = .ok (.iload 4, 2) := by decide +kernel
theorem dL_law_1438 : decode cL_law 1438 = .ok (.iconst 1, 1) := by decide +kernel
theorem dL_law_1439 : decode cL_law 1439 = .ok (.iadd, 1) := by decide +kernel
theorem dL_law_1440 : decode cL_law 1440 = .ok (.iaload, 1) := by decide +kernel
theorem dL_law_1441 : decode cL_law 1441 = .ok (.aload_n 0, 1) := by decide +kernel
theorem dL_law_1442 : decode cL_law 1442 = .ok (.iload 4, 2) := by decide +kernel
theorem dL_law_1444 : decode cL_law 1444 = .ok (.iconst 2, 1) := by decide +kernel
theorem dL_law_1445 : decode cL_law 1445 = .ok (.iadd, 1) := by decide +kernel
theorem dL_law_1446 : decode cL_law 1446 = .ok (.iaload, 1) := by decide +kernel
theorem dL_law_1447 : decode cL_law 1447 = .ok (.invokevirtual 177, 3) := by decide +kernel
theorem dL_law_1450 : decode cL_law 1450 = .ok (.aload_n 2, 1) := by decide +kernel
theorem dL_law_1451 : decode cL_law 1451 = .ok (.aload_n 0, 1) := by decide +kernel
theorem dL_law_1452 : decode cL_law 1452 = .ok (.iload 4, 2) := by decide +kernel
theorem dL_law_1454 : decode cL_law 1454 = .ok (.iconst 1, 1) := by decide +kernel
theorem dL_law_1455 : decode cL_law 1455 = .ok (.iadd, 1) := by decide +kernel
theorem dL_law_1456 : decode cL_law 1456 = .ok (.iaload, 1) := by decide +kernel
theorem dL_law_1457 : decode cL_law 1457 = .ok (.aload_n 0, 1) := by decide +kernel
theorem dL_law_1458 : decode cL_law 1458 = .ok (.iload 4, 2) := by decide +kernel
theorem dL_law_1460 : decode cL_law 1460 = .ok (.iconst 2, 1) := by decide +kernel
theorem dL_law_1461 : decode cL_law 1461 = .ok (.iadd, 1) := by decide +kernel
theorem dL_law_1462 : decode cL_law 1462 = .ok (.iaload, 1) := by decide +kernel
theorem dL_law_1463 : decode cL_law 1463 = .ok (.invokevirtual 180, 3) := by decide +kernel
theorem dL_law_1466 : decode cL_law 1466 = .ok (.if_icmp .eq 410, 3) := by decide +kernel
theorem dL_law_1469 : decode cL_law 1469 = .ok (.iconst 0, 1) := by decide +kernel
theorem dL_law_1470 : decode cL_law 1470 = .ok (.ireturn, 1) := by decide +kernel
theorem dL_law_1471 : decode cL_law 1471 = .ok (.aload_n 1, 1) := by decide +kernel
theorem dL_law_1472 : decode cL_law 1472 = .ok (.aload_n 0, 1) := by decide +kernel
theorem dL_law_1473 : decode cL_law 1473 = .ok (.iload 4, 2) := by decide +kernel
theorem dL_law_1475 : decode cL_law 1475 = .ok (.iconst 1, 1) := by decide +kernel
theorem dL_law_1476 : decode cL_law 1476 = .ok (.iadd, 1) := by decide +kernel
theorem dL_law_1477 : decode cL_law 1477 = .ok (.iaload, 1) := by decide +kernel
theorem dL_law_1478 : decode cL_law 1478 = .ok (.invokevirtual 181, 3) := by decide +kernel
theorem dL_law_1481 : decode cL_law 1481 = .ok (.aload_n 2, 1) := by decide +kernel
theorem dL_law_1482 : decode cL_law 1482 = .ok (.aload_n 0, 1) := by decide +kernel
theorem dL_law_1483 : decode cL_law 1483 = .ok (.iload 4, 2) := by decide +kernel
theorem dL_law_1485 : decode cL_law 1485 = .ok (.iconst 1, 1) := by decide +kernel
theorem dL_law_1486 : decode cL_law 1486 = .ok (.iadd, 1) := by decide +kernel
theorem dL_law_1487 : decode cL_law 1487 = .ok (.iaload, 1) := by decide +kernel
theorem dL_law_1488 : decode cL_law 1488 = .ok (.invokevirtual 184, 3) := by decide +kernel
theorem dL_law_1491 : decode cL_law 1491 = .ok (.if_icmp .eq 385, 3) := by decide +kernel
theorem dL_law_1494 : decode cL_law 1494 = .ok (.iconst 0, 1) := by decide +kernel
theorem dL_law_1495 : decode cL_law 1495 = .ok (.ireturn, 1) := by decide +kernel
theorem dL_law_1496 : decode cL_law 1496 = .ok (.aload_n 1, 1) := by decide +kernel
theorem dL_law_1497 : decode cL_law 1497 = .ok (.aload_n 0, 1) := by decide +kernel
theorem dL_law_1498 : decode cL_law 1498 = .ok (.iload 4, 2) := by decide +kernel
theorem dL_law_1500 : decode cL_law 1500 = .ok (.iconst 1, 1) := by decide +kernel
theorem dL_law_1501 : decode cL_law 1501 = .ok (.iadd, 1) := by decide +kernel
theorem dL_law_1502 : decode cL_law 1502 = .ok (.iaload, 1) := by decide +kernel
theorem dL_law_1503 : decode cL_law 1503 = .ok (.invokevirtual 185, 3) := by decide +kernel
theorem dL_law_1506 : decode cL_law 1506 = .ok (.aload_n 2, 1) := by decide +kernel
theorem dL_law_1507 : decode cL_law 1507 = .ok (.aload_n 0, 1) := by decide +kernel
theorem dL_law_1508 : decode cL_law 1508 = .ok (.iload 4, 2) := by decide +kernel
theorem dL_law_1510 : decode cL_law 1510 = .ok (.iconst 1, 1) := by decide +kernel
theorem dL_law_1511 : decode cL_law 1511 = .ok (.iadd, 1) := by decide +kernel
theorem dL_law_1512 : decode cL_law 1512 = .ok (.iaload, 1) := by decide +kernel
theorem dL_law_1513 : decode cL_law 1513 = .ok (.invokevirtual 188, 3) := by decide +kernel
theorem dL_law_1516 : decode cL_law 1516 = .ok (.if_icmp .eq 360, 3) := by decide +kernel
theorem dL_law_1519 : decode cL_law 1519 = .ok (.iconst 0, 1) := by decide +kernel
theorem dL_law_1520 : decode cL_law 1520 = .ok (.ireturn, 1) := by decide +kernel
theorem dL_law_1521 : decode cL_law 1521 = .ok (.aload_n 1, 1) := by decide +kernel
theorem dL_law_1522 : decode cL_law 1522 = .ok (.aload_n 0, 1) := by decide +kernel
theorem dL_law_1523 : decode cL_law 1523 = .ok (.iload 4, 2) := by decide +kernel
theorem dL_law_1525 : decode cL_law 1525 = .ok (.iconst 1, 1) := by decide +kernel
theorem dL_law_1526 : decode cL_law 1526 = .ok (.iadd, 1) := by decide +kernel
theorem dL_law_1527 : decode cL_law 1527 = .ok (.iaload, 1) := by decide +kernel
theorem dL_law_1528 : decode cL_law 1528 = .ok (.invokevirtual 189, 3) := by decide +kernel
theorem dL_law_1531 : decode cL_law 1531 = .ok (.aload_n 2, 1) := by decide +kernel
theorem dL_law_1532 : decode cL_law 1532 = .ok (.aload_n 0, 1) := by decide +kernel
theorem dL_law_1533 : decode cL_law 1533 = .ok (.iload 4, 2) := by decide +kernel
theorem dL_law_1535 : decode cL_law 1535 = .ok (.iconst 1, 1) := by decide +kernel
theorem dL_law_1536 : decode cL_law 1536 = .ok (.iadd, 1) := by decide +kernel
theorem dL_law_1537 : decode cL_law 1537 = .ok (.iaload, 1) := by decide +kernel
theorem dL_law_1538 : decode cL_law 1538 = .ok (.invokevirtual 192, 3) := by decide +kernel
theorem dL_law_1541 : decode cL_law 1541 = .ok (.if_icmp .eq 335, 3) := by decide +kernel
theorem dL_law_1544 : decode cL_law 1544 = .ok (.iconst 0, 1) := by decide +kernel
theorem dL_law_1545 : decode cL_law 1545 = .ok (.ireturn, 1) := by decide +kernel
theorem dL_law_1546 : decode cL_law 1546 = .ok (.aload_n 1, 1) := by decide +kernel
theorem dL_law_1547 : decode cL_law 1547 = .ok (.aload_n 0, 1) := by decide +kernel
theorem dL_law_1548 : decode cL_law 1548 = .ok (.iload 4, 2) := by decide +kernel
theorem dL_law_1550 : decode cL_law 1550 = .ok (.iconst 1, 1) := by decide +kernel
theorem dL_law_1551 : decode cL_law 1551 = .ok (.iadd, 1) := by decide +kernel
theorem dL_law_1552 : decode cL_law 1552 = .ok (.iaload, 1) := by decide +kernel
theorem dL_law_1553 : decode cL_law 1553 = .ok (.aload_n 0, 1) := by decide +kernel
theorem dL_law_1554 : decode cL_law 1554 = .ok (.iload 4, 2) := by decide +kernel
theorem dL_law_1556 : decode cL_law 1556 = .ok (.iconst 2, 1) := by decide +kernel
theorem dL_law_1557 : decode cL_law 1557 = .ok (.iadd, 1) := by decide +kernel
theorem dL_law_1558 : decode cL_law 1558 = .ok (.iaload, 1) := by decide +kernel
theorem dL_law_1559 : decode cL_law 1559 = .ok (.aload_n 0, 1) := by decide +kernel
theorem dL_law_1560 : decode cL_law 1560 = .ok (.iload 4, 2) := by decide +kernel
theorem dL_law_1562 : decode cL_law 1562 = .ok (.iconst 3, 1) := by decide +kernel
theorem dL_law_1563 : decode cL_law 1563 = .ok (.iadd, 1) := by decide +kernel
theorem dL_law_1564 : decode cL_law 1564 = .ok (.iaload, 1) := by decide +kernel
theorem dL_law_1565 : decode cL_law 1565 = .ok (.invokevirtual 193, 3) := by decide +kernel
theorem dL_law_1568 : decode cL_law 1568 = .ok (.aload_n 2, 1) := by decide +kernel
theorem dL_law_1569 : decode cL_law 1569 = .ok (.aload_n 0, 1) := by decide +kernel
theorem dL_law_1570 : decode cL_law 1570 = .ok (.iload 4, 2) := by decide +kernel
theorem dL_law_1572 : decode cL_law 1572 = .ok (.iconst 1, 1) := by decide +kernel
theorem dL_law_1573 : decode cL_law 1573 = .ok (.iadd, 1) := by decide +kernel
theorem dL_law_1574 : decode cL_law 1574 = .ok (.iaload, 1) := by decide +kernel
theorem dL_law_1575 : decode cL_law 1575 = .ok (.aload_n 0, 1) := by decide +kernel
theorem dL_law_1576 : decode cL_law 1576 = .ok (.iload 4, 2) := by decide +kernel
theorem dL_law_1578 : decode cL_law 1578 = .ok (.iconst 2, 1) := by decide +kernel
theorem dL_law_1579 : decode cL_law 1579 = .ok (.iadd, 1) := by decide +kernel
theorem dL_law_1580 : decode cL_law 1580 = .ok (.iaload, 1) := by decide +kernel
theorem dL_law_1581 : decode cL_law 1581 = .ok (.aload_n 0, 1) := by decide +kernel
theorem dL_law_1582 : decode cL_law 1582 = .ok (.iload 4, 2) := by decide +kernel
theorem dL_law_1584 : decode cL_law 1584 = .ok (.iconst 3, 1) := by decide +kernel
theorem dL_law_1585 : decode cL_law 1585 = .ok (.iadd, 1) := by decide +kernel
theorem dL_law_1586 : decode cL_law 1586 = .ok (.iaload, 1) := by decide +kernel
theorem dL_law_1587 : decode cL_law 1587 = .ok (.invokevirtual 197, 3) := by decide +kernel
theorem dL_law_1590 : decode cL_law 1590 = .ok (.if_icmp .eq 286, 3) := by decide +kernel
theorem dL_law_1593 : decode cL_law 1593 = .ok (.iconst 0, 1) := by decide +kernel
theorem dL_law_1594 : decode cL_law 1594 = .ok (.ireturn, 1) := by decide +kernel
theorem dL_law_1595 : decode cL_law 1595 = .ok (.aload_n 1, 1) := by decide +kernel
theorem dL_law_1596 : decode cL_law 1596 = .ok (.aload_n 0, 1) := by decide +kernel
theorem dL_law_1597 : decode cL_law 1597 = .ok (.iload 4, 2) := by decide +kernel
theorem dL_law_1599 : decode cL_law 1599 = .ok (.iconst 1, 1) := by decide +kernel
theorem dL_law_1600 : decode cL_law 1600 = .ok (.iadd, 1) := by decide +kernel
theorem dL_law_1601 : decode cL_law 1601 = .ok (.iaload, 1) := by decide +kernel
theorem dL_law_1602 : decode cL_law 1602 = .ok (.aload_n 0, 1) := by decide +kernel
theorem dL_law_1603 : decode cL_law 1603 = .ok (.iload 4, 2) := by decide +kernel
theorem dL_law_1605 : decode cL_law 1605 = .ok (.iconst 2, 1) := by decide +kernel
theorem dL_law_1606 : decode cL_law 1606 = .ok (.iadd, 1) := by decide +kernel
theorem dL_law_1607 : decode cL_law 1607 = .ok (.iaload, 1) := by decide +kernel
theorem dL_law_1608 : decode cL_law 1608 = .ok (.invokevirtual 198, 3) := by decide +kernel
theorem dL_law_1611 : decode cL_law 1611 = .ok (.aload_n 2, 1) := by decide +kernel
theorem dL_law_1612 : decode cL_law 1612 = .ok (.aload_n 0, 1) := by decide +kernel
theorem dL_law_1613 : decode cL_law 1613 = .ok (.iload 4, 2) := by decide +kernel
theorem dL_law_1615 : decode cL_law 1615 = .ok (.iconst 1, 1) := by decide +kernel
theorem dL_law_1616 : decode cL_law 1616 = .ok (.iadd, 1) := by decide +kernel
theorem dL_law_1617 : decode cL_law 1617 = .ok (.iaload, 1) := by decide +kernel
theorem dL_law_1618 : decode cL_law 1618 = .ok (.aload_n 0, 1) := by decide +kernel
theorem dL_law_1619 : decode cL_law 1619 = .ok (.iload 4, 2) := by decide +kernel
theorem dL_law_1621 : decode cL_law 1621 = .ok (.iconst 2, 1) := by decide +kernel
theorem dL_law_1622 : decode cL_law 1622 = .ok (.iadd, 1) := by decide +kernel
theorem dL_law_1623 : decode cL_law 1623 = .ok (.iaload, 1) := by decide +kernel
theorem dL_law_1624 : decode cL_law 1624 = .ok (.invokevirtual 201, 3) := by decide +kernel
theorem dL_law_1627 : decode cL_law 1627 = .ok (.if_icmp .eq 249, 3) := by decide +kernel
theorem dL_law_1630 : decode cL_law 1630 = .ok (.iconst 0, 1) := by decide +kernel
theorem dL_law_1631 : decode cL_law 1631 = .ok (.ireturn, 1) := by decide +kernel
theorem dL_law_1632 : decode cL_law 1632 = .ok (.aload_n 1, 1) := by decide +kernel
theorem dL_law_1633 : decode cL_law 1633 = .ok (.aload_n 0, 1) := by decide +kernel
theorem dL_law_1634 : decode cL_law 1634 = .ok (.iload 4, 2) := by decide +kernel
theorem dL_law_1636 : decode cL_law 1636 = .ok (.iconst 1, 1) := by decide +kernel
theorem dL_law_1637 : decode cL_law 1637 = .ok (.iadd, 1) := by decide +kernel
theorem dL_law_1638 : decode cL_law 1638 = .ok (.iaload, 1) := by decide +kernel
theorem dL_law_1639 : decode cL_law 1639 = .ok (.aload_n 0, 1) := by decide +kernel
theorem dL_law_1640 : decode cL_law 1640 = .ok (.iload 4, 2) := by decide +kernel
theorem dL_law_1642 : decode cL_law 1642 = .ok (.iconst 2, 1) := by decide +kernel
theorem dL_law_1643 : decode cL_law 1643 = .ok (.iadd, 1) := by decide +kernel
theorem dL_law_1644 : decode cL_law 1644 = .ok (.iaload, 1) := by decide +kernel
theorem dL_law_1645 : decode cL_law 1645 = .ok (.invokevirtual 202, 3) := by decide +kernel
theorem dL_law_1648 : decode cL_law 1648 = .ok (.aload_n 2, 1) := by decide +kernel
theorem dL_law_1649 : decode cL_law 1649 = .ok (.aload_n 0, 1) := by decide +kernel
theorem dL_law_1650 : decode cL_law 1650 = .ok (.iload 4, 2) := by decide +kernel
theorem dL_law_1652 : decode cL_law 1652 = .ok (.iconst 1, 1) := by decide +kernel
theorem dL_law_1653 : decode cL_law 1653 = .ok (.iadd, 1) := by decide +kernel
theorem dL_law_1654 : decode cL_law 1654 = .ok (.iaload, 1) := by decide +kernel
theorem dL_law_1655 : decode cL_law 1655 = .ok (.aload_n 0, 1) := by decide +kernel
theorem dL_law_1656 : decode cL_law 1656 = .ok (.iload 4, 2) := by decide +kernel
theorem dL_law_1658 : decode cL_law 1658 = .ok (.iconst 2, 1) := by decide +kernel
theorem dL_law_1659 : decode cL_law 1659 = .ok (.iadd, 1) := by decide +kernel
theorem dL_law_1660 : decode cL_law 1660 = .ok (.iaload, 1) := by decide +kernel
theorem dL_law_1661 : decode cL_law 1661 = .ok (.invokevirtual 205, 3) := by decide +kernel
theorem dL_law_1664 : decode cL_law 1664 = .ok (.if_icmp .eq 212, 3) := by decide +kernel
theorem dL_law_1667 : decode cL_law 1667 = .ok (.iconst 0, 1) := by decide +kernel
theorem dL_law_1668 : decode cL_law 1668 = .ok (.ireturn, 1) := by decide +kernel
theorem dL_law_1669 : decode cL_law 1669 = .ok (.aload_n 1, 1) := by decide +kernel
theorem dL_law_1670 : decode cL_law 1670 = .ok (.aload_n 0, 1) := by decide +kernel
theorem dL_law_1671 : decode cL_law 1671 = .ok (.iload 4, 2) := by decide +kernel
theorem dL_law_1673 : decode cL_law 1673 = .ok (.iconst 1, 1) := by decide +kernel
theorem dL_law_1674 : decode cL_law 1674 = .ok (.iadd, 1) := by decide +kernel
theorem dL_law_1675 : decode cL_law 1675 = .ok (.iaload, 1) := by decide +kernel
theorem dL_law_1676 : decode cL_law 1676 = .ok (.aload_n 0, 1) := by decide +kernel
theorem dL_law_1677 : decode cL_law 1677 = .ok (.iload 4, 2) := by decide +kernel
theorem dL_law_1679 : decode cL_law 1679 = .ok (.iconst 2, 1) := by decide +kernel
theorem dL_law_1680 : decode cL_law 1680 = .ok (.iadd, 1) := by decide +kernel
theorem dL_law_1681 : decode cL_law 1681 = .ok (.iaload, 1) := by decide +kernel
theorem dL_law_1682 : decode cL_law 1682 = .ok (.invokevirtual 206, 3) := by decide +kernel
theorem dL_law_1685 : decode cL_law 1685 = .ok (.aload_n 2, 1) := by decide +kernel
theorem dL_law_1686 : decode cL_law 1686 = .ok (.aload_n 0, 1) := by decide +kernel
theorem dL_law_1687 : decode cL_law 1687 = .ok (.iload 4, 2) := by decide +kernel
theorem dL_law_1689 : decode cL_law 1689 = .ok (.iconst 1, 1) := by decide +kernel
theorem dL_law_1690 : decode cL_law 1690 = .ok (.iadd, 1) := by decide +kernel
theorem dL_law_1691 : decode cL_law 1691 = .ok (.iaload, 1) := by decide +kernel
theorem dL_law_1692 : decode cL_law 1692 = .ok (.aload_n 0, 1) := by decide +kernel
theorem dL_law_1693 : decode cL_law 1693 = .ok (.iload 4, 2) := by decide +kernel
theorem dL_law_1695 : decode cL_law 1695 = .ok (.iconst 2, 1) := by decide +kernel
theorem dL_law_1696 : decode cL_law 1696 = .ok (.iadd, 1) := by decide +kernel
theorem dL_law_1697 : decode cL_law 1697 = .ok (.iaload, 1) := by decide +kernel
theorem dL_law_1698 : decode cL_law 1698 = .ok (.invokevirtual 210, 3) := by decide +kernel
theorem dL_law_1701 : decode cL_law 1701 = .ok (.if_icmp .eq 175, 3) := by decide +kernel
theorem dL_law_1704 : decode cL_law 1704 = .ok (.iconst 0, 1) := by decide +kernel
theorem dL_law_1705 : decode cL_law 1705 = .ok (.ireturn, 1) := by decide +kernel
theorem dL_law_1706 : decode cL_law 1706 = .ok (.aload_n 1, 1) := by decide +kernel
theorem dL_law_1707 : decode cL_law 1707 = .ok (.aload_n 0, 1) := by decide +kernel
theorem dL_law_1708 : decode cL_law 1708 = .ok (.iload 4, 2) := by decide +kernel
theorem dL_law_1710 : decode cL_law 1710 = .ok (.iconst 1, 1) := by decide +kernel
theorem dL_law_1711 : decode cL_law 1711 = .ok (.iadd, 1) := by decide +kernel
theorem dL_law_1712 : decode cL_law 1712 = .ok (.iaload, 1) := by decide +kernel
theorem dL_law_1713 : decode cL_law 1713 = .ok (.invokevirtual 211, 3) := by decide +kernel
theorem dL_law_1716 : decode cL_law 1716 = .ok (.aload_n 2, 1) := by decide +kernel
theorem dL_law_1717 : decode cL_law 1717 = .ok (.aload_n 0, 1) := by decide +kernel
theorem dL_law_1718 : decode cL_law 1718 = .ok (.iload 4, 2) := by decide +kernel
theorem dL_law_1720 : decode cL_law 1720 = .ok (.iconst 1, 1) := by decide +kernel
theorem dL_law_1721 : decode cL_law 1721 = .ok (.iadd, 1) := by decide +kernel
theorem dL_law_1722 : decode cL_law 1722 = .ok (.iaload, 1) := by decide +kernel
theorem dL_law_1723 : decode cL_law 1723 = .ok (.invokevirtual 214, 3) := by decide +kernel
theorem dL_law_1726 : decode cL_law 1726 = .ok (.if_icmp .eq 150, 3) := by decide +kernel
theorem dL_law_1729 : decode cL_law 1729 = .ok (.iconst 0, 1) := by decide +kernel
theorem dL_law_1730 : decode cL_law 1730 = .ok (.ireturn, 1) := by decide +kernel
theorem dL_law_1731 : decode cL_law 1731 = .ok (.aload_n 1, 1) := by decide +kernel
theorem dL_law_1732 : decode cL_law 1732 = .ok (.invokevirtual 215, 3) := by decide +kernel
theorem dL_law_1735 : decode cL_law 1735 = .ok (.aload_n 2, 1) := by decide +kernel
theorem dL_law_1736 : decode cL_law 1736 = .ok (.invokevirtual 219, 3) := by decide +kernel
theorem dL_law_1739 : decode cL_law 1739 = .ok (.if_icmp .eq 137, 3) := by decide +kernel
theorem dL_law_1742 : decode cL_law 1742 = .ok (.iconst 0, 1) := by decide +kernel
theorem dL_law_1743 : decode cL_law 1743 = .ok (.ireturn, 1) := by decide +kernel
theorem dL_law_1744 : decode cL_law 1744 = .ok (.aload_n 1, 1) := by decide +kernel
theorem dL_law_1745 : decode cL_law 1745 = .ok (.invokevirtual 220, 3) := by decide +kernel
theorem dL_law_1748 : decode cL_law 1748 = .ok (.aload_n 2, 1) := by decide +kernel
theorem dL_law_1749 : decode cL_law 1749 = .ok (.invokevirtual 223, 3) := by decide +kernel
theorem dL_law_1752 : decode cL_law 1752 = .ok (.if_icmp .eq 124, 3) := by decide +kernel
theorem dL_law_1755 : decode cL_law 1755 = .ok (.iconst 0, 1) := by decide +kernel
theorem dL_law_1756 : decode cL_law 1756 = .ok (.ireturn, 1) := by decide +kernel
theorem dL_law_1757 : decode cL_law 1757 = .ok (.aload_n 1, 1) := by decide +kernel
theorem dL_law_1758 : decode cL_law 1758 = .ok (.aload_n 0, 1) := by decide +kernel
theorem dL_law_1759 : decode cL_law 1759 = .ok (.iload 4, 2) := by decide +kernel
theorem dL_law_1761 : decode cL_law 1761 = .ok (.iconst 1, 1) := by decide +kernel
theorem dL_law_1762 : decode cL_law 1762 = .ok (.iadd, 1) := by decide +kernel
theorem dL_law_1763 : decode cL_law 1763 = .ok (.iaload, 1) := by decide +kernel
theorem dL_law_1764 : decode cL_law 1764 = .ok (.invokevirtual 224, 3) := by decide +kernel
theorem dL_law_1767 : decode cL_law 1767 = .ok (.aload_n 2, 1) := by decide +kernel
theorem dL_law_1768 : decode cL_law 1768 = .ok (.aload_n 0, 1) := by decide +kernel
theorem dL_law_1769 : decode cL_law 1769 = .ok (.iload 4, 2) := by decide +kernel
theorem dL_law_1771 : decode cL_law 1771 = .ok (.iconst 1, 1) := by decide +kernel
theorem dL_law_1772 : decode cL_law 1772 = .ok (.iadd, 1) := by decide +kernel
theorem dL_law_1773 : decode cL_law 1773 = .ok (.iaload, 1) := by decide +kernel
theorem dL_law_1774 : decode cL_law 1774 = .ok (.invokevirtual 228, 3) := by decide +kernel
theorem dL_law_1777 : decode cL_law 1777 = .ok (.if_icmp .eq 99, 3) := by decide +kernel
theorem dL_law_1780 : decode cL_law 1780 = .ok (.iconst 0, 1) := by decide +kernel
theorem dL_law_1781 : decode cL_law 1781 = .ok (.ireturn, 1) := by decide +kernel
theorem dL_law_1782 : decode cL_law 1782 = .ok (.aload_n 1, 1) := by decide +kernel
theorem dL_law_1783 : decode cL_law 1783 = .ok (.aload_n 0, 1) := by decide +kernel
theorem dL_law_1784 : decode cL_law 1784 = .ok (.iload 4, 2) := by decide +kernel
theorem dL_law_1786 : decode cL_law 1786 = .ok (.iconst 1, 1) := by decide +kernel
theorem dL_law_1787 : decode cL_law 1787 = .ok (.iadd, 1) := by decide +kernel
theorem dL_law_1788 : decode cL_law 1788 = .ok (.iaload, 1) := by decide +kernel
theorem dL_law_1789 : decode cL_law 1789 = .ok (.aload_n 3, 1) := by decide +kernel
theorem dL_law_1790 : decode cL_law 1790 = .ok (.invokestatic 229, 3) := by decide +kernel
theorem dL_law_1793 : decode cL_law 1793 = .ok (.istore 5, 2) := by decide +kernel
theorem dL_law_1795 : decode cL_law 1795 = .ok (.aload_n 2, 1) := by decide +kernel
theorem dL_law_1796 : decode cL_law 1796 = .ok (.aload_n 0, 1) := by decide +kernel
theorem dL_law_1797 : decode cL_law 1797 = .ok (.iload 4, 2) := by decide +kernel
theorem dL_law_1799 : decode cL_law 1799 = .ok (.iconst 1, 1) := by decide +kernel
theorem dL_law_1800 : decode cL_law 1800 = .ok (.iadd, 1) := by decide +kernel
