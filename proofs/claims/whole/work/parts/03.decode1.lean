theorem dX5_turnNextFactor_12 : decode cX5_turnNextFactor 12 = .ok (.getfield 257, 3) := by decide +kernel
theorem dX5_turnNextFactor_15 : decode cX5_turnNextFactor 15 = .ok (.aload_n 0, 1) := by decide +kernel
theorem dX5_turnNextFactor_16 : decode cX5_turnNextFactor 16 = .ok (.getfield 33, 3) := by decide +kernel
theorem dX5_turnNextFactor_19 : decode cX5_turnNextFactor 19 = .ok (.aload_n 0, 1) := by decide +kernel
theorem dX5_turnNextFactor_20 : decode cX5_turnNextFactor 20 = .ok (.getfield 257, 3) := by decide +kernel
theorem dX5_turnNextFactor_23 : decode cX5_turnNextFactor 23 = .ok (.baload, 1) := by decide +kernel
theorem dX5_turnNextFactor_24 : decode cX5_turnNextFactor 24 = .ok (.ifCond .ne 7, 3) := by decide +kernel
theorem dX5_turnNextFactor_27 : decode cX5_turnNextFactor 27 = .ok (.iconst 1, 1) := by decide +kernel
theorem dX5_turnNextFactor_28 : decode cX5_turnNextFactor 28 = .ok (.goto 4, 3) := by decide +kernel
theorem dX5_turnNextFactor_31 : decode cX5_turnNextFactor 31 = .ok (.iconst 0, 1) := by decide +kernel
theorem dX5_turnNextFactor_32 : decode cX5_turnNextFactor 32 = .ok (.bastore, 1) := by decide +kernel
theorem dX5_turnNextFactor_33 : decode cX5_turnNextFactor 33 = .ok (.return_, 1) := by decide +kernel
theorem dX5_joinFactor_0 : decode cX5_joinFactor 0 = .ok (.aload_n 0, 1) := by decide +kernel
theorem dX5_joinFactor_1 : decode cX5_joinFactor 1 = .ok (.invokevirtual 278, 3) := by decide +kernel
theorem dX5_joinFactor_4 : decode cX5_joinFactor 4 = .ok (.ifCond .eq 46, 3) := by decide +kernel
theorem dX5_joinFactor_7 : decode cX5_joinFactor 7 = .ok (.aload_n 0, 1) := by decide +kernel
theorem dX5_joinFactor_8 : decode cX5_joinFactor 8 = .ok (.getfield 30, 3) := by decide +kernel
theorem dX5_joinFactor_11 : decode cX5_joinFactor 11 = .ok (.aload_n 0, 1) := by decide +kernel
theorem dX5_joinFactor_12 : decode cX5_joinFactor 12 = .ok (.getfield 257, 3) := by decide +kernel
theorem dX5_joinFactor_15 : decode cX5_joinFactor 15 = .ok (.dup2, 1) := by decide +kernel
theorem dX5_joinFactor_16 : decode cX5_joinFactor 16 = .ok (.laload, 1) := by decide +kernel
theorem dX5_joinFactor_17 : decode cX5_joinFactor 17 = .ok (.aload_n 0, 1) := by decide +kernel
theorem dX5_joinFactor_18 : decode cX5_joinFactor 18 = .ok (.getfield 33, 3) := by decide +kernel
theorem dX5_joinFactor_21 : decode cX5_joinFactor 21 = .ok (.aload_n 0, 1) := by decide +kernel
theorem dX5_joinFactor_22 : decode cX5_joinFactor 22 = .ok (.getfield 257, 3) := by decide +kernel
theorem dX5_joinFactor_25 : decode cX5_joinFactor 25 = .ok (.baload, 1) := by decide +kernel
theorem dX5_joinFactor_26 : decode cX5_joinFactor 26 = .ok (.ifCond .eq 11, 3) := by decide +kernel
theorem dX5_joinFactor_29 : decode cX5_joinFactor 29 = .ok (.lload_n 1, 1) := by decide +kernel
theorem dX5_joinFactor_30 : decode cX5_joinFactor 30 = .ok (.ldc2_w 281, 3) := by decide +kernel
theorem dX5_joinFactor_33 : decode cX5_joinFactor 33 = .ok (.lxor, 1) := by decide +kernel
theorem dX5_joinFactor_34 : decode cX5_joinFactor 34 = .ok (.goto 4, 3) := by decide +kernel
theorem dX5_joinFactor_37 : decode cX5_joinFactor 37 = .ok (.lload_n 1, 1) := by decide +kernel
theorem dX5_joinFactor_38 : decode cX5_joinFactor 38 = .ok (.land, 1) := by decide +kernel
theorem dX5_joinFactor_39 : decode cX5_joinFactor 39 = .ok (.lastore, 1) := by decide +kernel
theorem dX5_joinFactor_40 : decode cX5_joinFactor 40 = .ok (.aload_n 0, 1) := by decide +kernel
theorem dX5_joinFactor_41 : decode cX5_joinFactor 41 = .ok (.getfield 33, 3) := by decide +kernel
theorem dX5_joinFactor_44 : decode cX5_joinFactor 44 = .ok (.aload_n 0, 1) := by decide +kernel
theorem dX5_joinFactor_45 : decode cX5_joinFactor 45 = .ok (.getfield 257, 3) := by decide +kernel
theorem dX5_joinFactor_48 : decode cX5_joinFactor 48 = .ok (.iconst 0, 1) := by decide +kernel
theorem dX5_joinFactor_49 : decode cX5_joinFactor 49 = .ok (.bastore, 1) := by decide +kernel
theorem dX5_joinFactor_50 : decode cX5_joinFactor 50 = .ok (.return_, 1) := by decide +kernel
theorem dX5_beginTerm_0 : decode cX5_beginTerm 0 = .ok (.aload_n 0, 1) := by decide +kernel
theorem dX5_beginTerm_1 : decode cX5_beginTerm 1 = .ok (.invokevirtual 278, 3) := by decide +kernel
theorem dX5_beginTerm_4 : decode cX5_beginTerm 4 = .ok (.ifCond .eq 36, 3) := by decide +kernel
theorem dX5_beginTerm_7 : decode cX5_beginTerm 7 = .ok (.aload_n 0, 1) := by decide +kernel
theorem dX5_beginTerm_8 : decode cX5_beginTerm 8 = .ok (.getfield 27, 3) := by decide +kernel
theorem dX5_beginTerm_11 : decode cX5_beginTerm 11 = .ok (.aload_n 0, 1) := by decide +kernel
theorem dX5_beginTerm_12 : decode cX5_beginTerm 12 = .ok (.getfield 257, 3) := by decide +kernel
theorem dX5_beginTerm_15 : decode cX5_beginTerm 15 = .ok (.dup2, 1) := by decide +kernel
theorem dX5_beginTerm_16 : decode cX5_beginTerm 16 = .ok (.laload, 1) := by decide +kernel
theorem dX5_beginTerm_17 : decode cX5_beginTerm 17 = .ok (.aload_n 0, 1) := by decide +kernel
theorem dX5_beginTerm_18 : decode cX5_beginTerm 18 = .ok (.getfield 30, 3) := by decide +kernel
theorem dX5_beginTerm_21 : decode cX5_beginTerm 21 = .ok (.aload_n 0, 1) := by decide +kernel
theorem dX5_beginTerm_22 : decode cX5_beginTerm 22 = .ok (.getfield 257, 3) := by decide +kernel
theorem dX5_beginTerm_25 : decode cX5_beginTerm 25 = .ok (.laload, 1) := by decide +kernel
theorem dX5_beginTerm_26 : decode cX5_beginTerm 26 = .ok (.lor, 1) := by decide +kernel
theorem dX5_beginTerm_27 : decode cX5_beginTerm 27 = .ok (.lastore, 1) := by decide +kernel
theorem dX5_beginTerm_28 : decode cX5_beginTerm 28 = .ok (.aload_n 0, 1) := by decide +kernel
theorem dX5_beginTerm_29 : decode cX5_beginTerm 29 = .ok (.getfield 30, 3) := by decide +kernel
theorem dX5_beginTerm_32 : decode cX5_beginTerm 32 = .ok (.aload_n 0, 1) := by decide +kernel
theorem dX5_beginTerm_33 : decode cX5_beginTerm 33 = .ok (.getfield 257, 3) := by decide +kernel
theorem dX5_beginTerm_36 : decode cX5_beginTerm 36 = .ok (.ldc2_w 281, 3) := by decide +kernel
theorem dX5_beginTerm_39 : decode cX5_beginTerm 39 = .ok (.lastore, 1) := by decide +kernel
theorem dX5_beginTerm_40 : decode cX5_beginTerm 40 = .ok (.return_, 1) := by decide +kernel
theorem dX5_soAtLevel_0 : decode cX5_soAtLevel 0 = .ok (.aload_n 0, 1) := by decide +kernel
theorem dX5_soAtLevel_1 : decode cX5_soAtLevel 1 = .ok (.invokevirtual 278, 3) := by decide +kernel
theorem dX5_soAtLevel_4 : decode cX5_soAtLevel 4 = .ok (.ifCond .eq 25, 3) := by decide +kernel
theorem dX5_soAtLevel_7 : decode cX5_soAtLevel 7 = .ok (.aload_n 0, 1) := by decide +kernel
theorem dX5_soAtLevel_8 : decode cX5_soAtLevel 8 = .ok (.getfield 27, 3) := by decide +kernel
theorem dX5_soAtLevel_11 : decode cX5_soAtLevel 11 = .ok (.aload_n 0, 1) := by decide +kernel
theorem dX5_soAtLevel_12 : decode cX5_soAtLevel 12 = .ok (.getfield 257, 3) := by decide +kernel
theorem dX5_soAtLevel_15 : decode cX5_soAtLevel 15 = .ok (.laload, 1) := by decide +kernel
theorem dX5_soAtLevel_16 : decode cX5_soAtLevel 16 = .ok (.aload_n 0, 1) := by decide +kernel
theorem dX5_soAtLevel_17 : decode cX5_soAtLevel 17 = .ok (.getfield 30, 3) := by decide +kernel
theorem dX5_soAtLevel_20 : decode cX5_soAtLevel 20 = .ok (.aload_n 0, 1) := by decide +kernel
theorem dX5_soAtLevel_21 : decode cX5_soAtLevel 21 = .ok (.getfield 257, 3) := by decide +kernel
theorem dX5_soAtLevel_24 : decode cX5_soAtLevel 24 = .ok (.laload, 1) := by decide +kernel
theorem dX5_soAtLevel_25 : decode cX5_soAtLevel 25 = .ok (.lor, 1) := by decide +kernel
theorem dX5_soAtLevel_26 : decode cX5_soAtLevel 26 = .ok (.goto 4, 3) := by decide +kernel
theorem dX5_soAtLevel_29 : decode cX5_soAtLevel 29 = .ok (.lconst 0, 1) := by decide +kernel
theorem dX5_soAtLevel_30 : decode cX5_soAtLevel 30 = .ok (.lreturn, 1) := by decide +kernel
theorem dX5_readClosing_0 : decode cX5_readClosing 0 = .ok (.iconst 0, 1) := by decide +kernel
theorem dX5_readClosing_1 : decode cX5_readClosing 1 = .ok (.istore_n 1, 1) := by decide +kernel
theorem dX5_readClosing_2 : decode cX5_readClosing 2 = .ok (.iload_n 1, 1) := by decide +kernel
theorem dX5_readClosing_3 : decode cX5_readClosing 3 = .ok (.bipush 8, 2) := by decide +kernel
theorem dX5_readClosing_5 : decode cX5_readClosing 5 = .ok (.if_icmp .ge 55, 3) := by decide +kernel
theorem dX5_readClosing_8 : decode cX5_readClosing 8 = .ok (.aload_n 0, 1) := by decide +kernel
theorem dX5_readClosing_9 : decode cX5_readClosing 9 = .ok (.getfield 257, 3) := by decide +kernel
theorem dX5_readClosing_12 : decode cX5_readClosing 12 = .ok (.ifCond .le 48, 3) := by decide +kernel
theorem dX5_readClosing_15 : decode cX5_readClosing 15 = .ok (.aload_n 0, 1) := by decide +kernel
theorem dX5_readClosing_16 : decode cX5_readClosing 16 = .ok (.getfield 37, 3) := by decide +kernel
theorem dX5_readClosing_19 : decode cX5_readClosing 19 = .ok (.getfield 94, 3) := by decide +kernel
theorem dX5_readClosing_22 : decode cX5_readClosing 22 = .ok (.bipush 41, 2) := by decide +kernel
theorem dX5_readClosing_24 : decode cX5_readClosing 24 = .ok (.if_icmp .ne 36, 3) := by decide +kernel
theorem dX5_readClosing_27 : decode cX5_readClosing 27 = .ok (.aload_n 0, 1) := by decide +kernel
theorem dX5_readClosing_28 : decode cX5_readClosing 28 = .ok (.invokevirtual 275, 3) := by decide +kernel
theorem dX5_readClosing_31 : decode cX5_readClosing 31 = .ok (.lstore_n 2, 1) := by decide +kernel
theorem dX5_readClosing_32 : decode cX5_readClosing 32 = .ok (.aload_n 0, 1) := by decide +kernel
theorem dX5_readClosing_33 : decode cX5_readClosing 33 = .ok (.dup, 1) := by decide +kernel
theorem dX5_readClosing_34 : decode cX5_readClosing 34 = .ok (.getfield 257, 3) := by decide +kernel
theorem dX5_readClosing_37 : decode cX5_readClosing 37 = .ok (.iconst 1, 1) := by decide +kernel
theorem dX5_readClosing_38 : decode cX5_readClosing 38 = .ok (.isub, 1) := by decide +kernel
theorem dX5_readClosing_39 : decode cX5_readClosing 39 = .ok (.putfield 257, 3) := by decide +kernel
theorem dX5_readClosing_42 : decode cX5_readClosing 42 = .ok (.aload_n 0, 1) := by decide +kernel
theorem dX5_readClosing_43 : decode cX5_readClosing 43 = .ok (.lload_n 2, 1) := by decide +kernel
theorem dX5_readClosing_44 : decode cX5_readClosing 44 = .ok (.invokevirtual 289, 3) := by decide +kernel
theorem dX5_readClosing_47 : decode cX5_readClosing 47 = .ok (.aload_n 0, 1) := by decide +kernel
theorem dX5_readClosing_48 : decode cX5_readClosing 48 = .ok (.getfield 37, 3) := by decide +kernel
theorem dX5_readClosing_51 : decode cX5_readClosing 51 = .ok (.invokevirtual 97, 3) := by decide +kernel
theorem dX5_readClosing_54 : decode cX5_readClosing 54 = .ok (.iinc 1 1, 3) := by decide +kernel
theorem dX5_readClosing_57 : decode cX5_readClosing 57 = .ok (.goto (-55), 3) := by decide +kernel
theorem dX5_readClosing_60 : decode cX5_readClosing 60 = .ok (.aload_n 0, 1) := by decide +kernel
theorem dX5_readClosing_61 : decode cX5_readClosing 61 = .ok (.getfield 37, 3) := by decide +kernel
theorem dX5_readClosing_64 : decode cX5_readClosing 64 = .ok (.getfield 94, 3) := by decide +kernel
theorem dX5_readClosing_67 : decode cX5_readClosing 67 = .ok (.sipush 270, 3) := by decide +kernel
theorem dX5_readClosing_70 : decode cX5_readClosing 70 = .ok (.if_icmp .ne 10, 3) := by decide +kernel
theorem dX5_readClosing_73 : decode cX5_readClosing 73 = .ok (.aload_n 0, 1) := by decide +kernel
theorem dX5_readClosing_74 : decode cX5_readClosing 74 = .ok (.invokevirtual 292, 3) := by decide +kernel
theorem dX5_readClosing_77 : decode cX5_readClosing 77 = .ok (.goto 44, 3) := by decide +kernel
theorem dX5_readClosing_80 : decode cX5_readClosing 80 = .ok (.aload_n 0, 1) := by decide +kernel
theorem dX5_readClosing_81 : decode cX5_readClosing 81 = .ok (.getfield 37, 3) := by decide +kernel
theorem dX5_readClosing_84 : decode cX5_readClosing 84 = .ok (.getfield 94, 3) := by decide +kernel
theorem dX5_readClosing_87 : decode cX5_readClosing 87 = .ok (.sipush 269, 3) := by decide +kernel
theorem dX5_readClosing_90 : decode cX5_readClosing 90 = .ok (.if_icmp .eq 31, 3) := by decide +kernel
theorem dX5_readClosing_93 : decode cX5_readClosing 93 = .ok (.aload_n 0, 1) := by decide +kernel
theorem dX5_readClosing_94 : decode cX5_readClosing 94 = .ok (.getfield 257, 3) := by decide +kernel
theorem dX5_readClosing_97 : decode cX5_readClosing 97 = .ok (.ifCond .le 22, 3) := by decide +kernel
theorem dX5_readClosing_100 : decode cX5_readClosing 100 = .ok (.aload_n 0, 1) := by decide +kernel
theorem dX5_readClosing_101 : decode cX5_readClosing 101 = .ok (.iconst 1, 1) := by decide +kernel
theorem dX5_readClosing_102 : decode cX5_readClosing 102 = .ok (.aload_n 0, 1) := by decide +kernel
theorem dX5_readClosing_103 : decode cX5_readClosing 103 = .ok (.getfield 37, 3) := by decide +kernel
theorem dX5_readClosing_106 : decode cX5_readClosing 106 = .ok (.getfield 84, 3) := by decide +kernel
theorem dX5_readClosing_109 : decode cX5_readClosing 109 = .ok (.invokevirtual 87, 3) := by decide +kernel
theorem dX5_readClosing_112 : decode cX5_readClosing 112 = .ok (.ifCond .eq 7, 3) := by decide +kernel
theorem dX5_readClosing_115 : decode cX5_readClosing 115 = .ok (.iconst 1, 1) := by decide +kernel
theorem dX5_readClosing_116 : decode cX5_readClosing 116 = .ok (.goto 4, 3) := by decide +kernel
theorem dX5_readClosing_119 : decode cX5_readClosing 119 = .ok (.iconst 0, 1) := by decide +kernel
theorem dX5_readClosing_120 : decode cX5_readClosing 120 = .ok (.ireturn, 1) := by decide +kernel
theorem dX5_readClosing_121 : decode cX5_readClosing 121 = .ok (.aload_n 0, 1) := by decide +kernel
theorem dX5_readClosing_122 : decode cX5_readClosing 122 = .ok (.getfield 37, 3) := by decide +kernel
theorem dX5_readClosing_125 : decode cX5_readClosing 125 = .ok (.invokevirtual 97, 3) := by decide +kernel
theorem dX5_readClosing_128 : decode cX5_readClosing 128 = .ok (.iconst 1, 1) := by decide +kernel
theorem dX5_readClosing_129 : decode cX5_readClosing 129 = .ok (.ireturn, 1) := by decide +kernel
theorem dX5_takeWord_0 : decode cX5_takeWord 0 = .ok (.aload_n 0, 1) := by decide +kernel
theorem dX5_takeWord_1 : decode cX5_takeWord 1 = .ok (.getfield 37, 3) := by decide +kernel
theorem dX5_takeWord_4 : decode cX5_takeWord 4 = .ok (.lload_n 1, 1) := by decide +kernel
theorem dX5_takeWord_5 : decode cX5_takeWord 5 = .ok (.invokevirtual 295, 3) := by decide +kernel
theorem dX5_takeWord_8 : decode cX5_takeWord 8 = .ok (.ifCond .ne 16, 3) := by decide +kernel
theorem dX5_takeWord_11 : decode cX5_takeWord 11 = .ok (.aload_n 0, 1) := by decide +kernel
theorem dX5_takeWord_12 : decode cX5_takeWord 12 = .ok (.iconst 1, 1) := by decide +kernel
theorem dX5_takeWord_13 : decode cX5_takeWord 13 = .ok (.aload_n 0, 1) := by decide +kernel
theorem dX5_takeWord_14 : decode cX5_takeWord 14 = .ok (.getfield 37, 3) := by decide +kernel
theorem dX5_takeWord_17 : decode cX5_takeWord 17 = .ok (.getfield 84, 3) := by decide +kernel
theorem dX5_takeWord_20 : decode cX5_takeWord 20 = .ok (.invokevirtual 87, 3) := by decide +kernel
theorem dX5_takeWord_23 : decode cX5_takeWord 23 = .ok (.ireturn, 1) := by decide +kernel
theorem dX5_takeWord_24 : decode cX5_takeWord 24 = .ok (.aload_n 0, 1) := by decide +kernel
theorem dX5_takeWord_25 : decode cX5_takeWord 25 = .ok (.getfield 37, 3) := by decide +kernel
theorem dX5_takeWord_28 : decode cX5_takeWord 28 = .ok (.invokevirtual 97, 3) := by decide +kernel
theorem dX5_takeWord_31 : decode cX5_takeWord 31 = .ok (.iconst 1, 1) := by decide +kernel
theorem dX5_takeWord_32 : decode cX5_takeWord 32 = .ok (.ireturn, 1) := by decide +kernel
theorem dX5_takeYes_0 : decode cX5_takeYes 0 = .ok (.aload_n 0, 1) := by decide +kernel
theorem dX5_takeYes_1 : decode cX5_takeYes 1 = .ok (.getfield 37, 3) := by decide +kernel
theorem dX5_takeYes_4 : decode cX5_takeYes 4 = .ok (.ldc2_w 298, 3) := by decide +kernel
theorem dX5_takeYes_7 : decode cX5_takeYes 7 = .ok (.invokevirtual 295, 3) := by decide +kernel
theorem dX5_takeYes_10 : decode cX5_takeYes 10 = .ok (.istore_n 1, 1) := by decide +kernel
theorem dX5_takeYes_11 : decode cX5_takeYes 11 = .ok (.aload_n 0, 1) := by decide +kernel
theorem dX5_takeYes_12 : decode cX5_takeYes 12 = .ok (.iload_n 1, 1) := by decide +kernel
theorem dX5_takeYes_13 : decode cX5_takeYes 13 = .ok (.ifCond .eq 9, 3) := by decide +kernel
theorem dX5_takeYes_16 : decode cX5_takeYes 16 = .ok (.ldc2_w 298, 3) := by decide +kernel
theorem dX5_takeYes_19 : decode cX5_takeYes 19 = .ok (.goto 6, 3) := by decide +kernel
theorem dX5_takeYes_22 : decode cX5_takeYes 22 = .ok (.ldc2_w 300, 3) := by decide +kernel
theorem dX5_takeYes_25 : decode cX5_takeYes 25 = .ok (.invokevirtual 143, 3) := by decide +kernel
theorem dX5_takeYes_28 : decode cX5_takeYes 28 = .ok (.ifCond .eq 11, 3) := by decide +kernel
theorem dX5_takeYes_31 : decode cX5_takeYes 31 = .ok (.iload_n 1, 1) := by decide +kernel
theorem dX5_takeYes_32 : decode cX5_takeYes 32 = .ok (.ifCond .eq 7, 3) := by decide +kernel
theorem dX5_takeYes_35 : decode cX5_takeYes 35 = .ok (.iconst 1, 1) := by decide +kernel
theorem dX5_takeYes_36 : decode cX5_takeYes 36 = .ok (.goto 4, 3) := by decide +kernel
theorem dX5_takeYes_39 : decode cX5_takeYes 39 = .ok (.iconst 0, 1) := by decide +kernel
theorem dX5_takeYes_40 : decode cX5_takeYes 40 = .ok (.ireturn, 1) := by decide +kernel
theorem dX5_takeWhole_0 : decode cX5_takeWhole 0 = .ok (.aload_n 0, 1) := by decide +kernel
theorem dX5_takeWhole_1 : decode cX5_takeWhole 1 = .ok (.getfield 37, 3) := by decide +kernel
theorem dX5_takeWhole_4 : decode cX5_takeWhole 4 = .ok (.getfield 94, 3) := by decide +kernel
theorem dX5_takeWhole_7 : decode cX5_takeWhole 7 = .ok (.iconst 2, 1) := by decide +kernel
theorem dX5_takeWhole_8 : decode cX5_takeWhole 8 = .ok (.if_icmp .eq 18, 3) := by decide +kernel
theorem dX5_takeWhole_11 : decode cX5_takeWhole 11 = .ok (.aload_n 0, 1) := by decide +kernel
theorem dX5_takeWhole_12 : decode cX5_takeWhole 12 = .ok (.iconst 1, 1) := by decide +kernel
theorem dX5_takeWhole_13 : decode cX5_takeWhole 13 = .ok (.aload_n 0, 1) := by decide +kernel
theorem dX5_takeWhole_14 : decode cX5_takeWhole 14 = .ok (.getfield 37, 3) := by decide +kernel
theorem dX5_takeWhole_17 : decode cX5_takeWhole 17 = .ok (.getfield 84, 3) := by decide +kernel
theorem dX5_takeWhole_20 : decode cX5_takeWhole 20 = .ok (.invokevirtual 87, 3) := by decide +kernel
theorem dX5_takeWhole_23 : decode cX5_takeWhole 23 = .ok (.pop, 1) := by decide +kernel
theorem dX5_takeWhole_24 : decode cX5_takeWhole 24 = .ok (.iconst (-1), 1) := by decide +kernel
theorem dX5_takeWhole_25 : decode cX5_takeWhole 25 = .ok (.ireturn, 1) := by decide +kernel
theorem dX5_takeWhole_26 : decode cX5_takeWhole 26 = .ok (.aload_n 0, 1) := by decide +kernel
theorem dX5_takeWhole_27 : decode cX5_takeWhole 27 = .ok (.getfield 37, 3) := by decide +kernel
theorem dX5_takeWhole_30 : decode cX5_takeWhole 30 = .ok (.getfield 302, 3) := by decide +kernel
theorem dX5_takeWhole_33 : decode cX5_takeWhole 33 = .ok (.l2i, 1) := by decide +kernel
theorem dX5_takeWhole_34 : decode cX5_takeWhole 34 = .ok (.istore_n 3, 1) := by decide +kernel
theorem dX5_takeWhole_35 : decode cX5_takeWhole 35 = .ok (.iload_n 3, 1) := by decide +kernel
theorem dX5_takeWhole_36 : decode cX5_takeWhole 36 = .ok (.iload_n 1, 1) := by decide +kernel
theorem dX5_takeWhole_37 : decode cX5_takeWhole 37 = .ok (.if_icmp .lt 8, 3) := by decide +kernel
theorem dX5_takeWhole_40 : decode cX5_takeWhole 40 = .ok (.iload_n 3, 1) := by decide +kernel
theorem dX5_takeWhole_41 : decode cX5_takeWhole 41 = .ok (.iload_n 2, 1) := by decide +kernel
theorem dX5_takeWhole_42 : decode cX5_takeWhole 42 = .ok (.if_icmp .le 18, 3) := by decide +kernel
theorem dX5_takeWhole_45 : decode cX5_takeWhole 45 = .ok (.aload_n 0, 1) := by decide +kernel
theorem dX5_takeWhole_46 : decode cX5_takeWhole 46 = .ok (.iconst 4, 1) := by decide +kernel
theorem dX5_takeWhole_47 : decode cX5_takeWhole 47 = .ok (.aload_n 0, 1) := by decide +kernel
theorem dX5_takeWhole_48 : decode cX5_takeWhole 48 = .ok (.getfield 37, 3) := by decide +kernel
theorem dX5_takeWhole_51 : decode cX5_takeWhole 51 = .ok (.getfield 84, 3) := by decide +kernel
theorem dX5_takeWhole_54 : decode cX5_takeWhole 54 = .ok (.invokevirtual 87, 3) := by decide +kernel
theorem dX5_takeWhole_57 : decode cX5_takeWhole 57 = .ok (.pop, 1) := by decide +kernel
theorem dX5_takeWhole_58 : decode cX5_takeWhole 58 = .ok (.iconst (-1), 1) := by decide +kernel
theorem dX5_takeWhole_59 : decode cX5_takeWhole 59 = .ok (.ireturn, 1) := by decide +kernel
theorem dX5_takeWhole_60 : decode cX5_takeWhole 60 = .ok (.aload_n 0, 1) := by decide +kernel
theorem dX5_takeWhole_61 : decode cX5_takeWhole 61 = .ok (.getfield 37, 3) := by decide +kernel
theorem dX5_takeWhole_64 : decode cX5_takeWhole 64 = .ok (.invokevirtual 97, 3) := by decide +kernel
theorem dX5_takeWhole_67 : decode cX5_takeWhole 67 = .ok (.iload_n 3, 1) := by decide +kernel
theorem dX5_takeWhole_68 : decode cX5_takeWhole 68 = .ok (.ireturn, 1) := by decide +kernel
theorem dX5_takeNewName_0 : decode cX5_takeNewName 0 = .ok (.aload_n 0, 1) := by decide +kernel
theorem dX5_takeNewName_1 : decode cX5_takeNewName 1 = .ok (.getfield 37, 3) := by decide +kernel
theorem dX5_takeNewName_4 : decode cX5_takeNewName 4 = .ok (.getfield 94, 3) := by decide +kernel
theorem dX5_takeNewName_7 : decode cX5_takeNewName 7 = .ok (.iconst 1, 1) := by decide +kernel
theorem dX5_takeNewName_8 : decode cX5_takeNewName 8 = .ok (.if_icmp .eq 16, 3) := by decide +kernel
theorem dX5_takeNewName_11 : decode cX5_takeNewName 11 = .ok (.aload_n 0, 1) := by decide +kernel
theorem dX5_takeNewName_12 : decode cX5_takeNewName 12 = .ok (.iconst 1, 1) := by decide +kernel
theorem dX5_takeNewName_13 : decode cX5_takeNewName 13 = .ok (.aload_n 0, 1) := by decide +kernel
theorem dX5_takeNewName_14 : decode cX5_takeNewName 14 = .ok (.getfield 37, 3) := by decide +kernel
theorem dX5_takeNewName_17 : decode cX5_takeNewName 17 = .ok (.getfield 84, 3) := by decide +kernel
theorem dX5_takeNewName_20 : decode cX5_takeNewName 20 = .ok (.invokevirtual 87, 3) := by decide +kernel
theorem dX5_takeNewName_23 : decode cX5_takeNewName 23 = .ok (.ireturn, 1) := by decide +kernel
theorem dX5_takeNewName_24 : decode cX5_takeNewName 24 = .ok (.aload_n 0, 1) := by decide +kernel
theorem dX5_takeNewName_25 : decode cX5_takeNewName 25 = .ok (.invokevirtual 305, 3) := by decide +kernel
theorem dX5_takeNewName_28 : decode cX5_takeNewName 28 = .ok (.iconst (-1), 1) := by decide +kernel
theorem dX5_takeNewName_29 : decode cX5_takeNewName 29 = .ok (.if_icmp .eq 16, 3) := by decide +kernel
theorem dX5_takeNewName_32 : decode cX5_takeNewName 32 = .ok (.aload_n 0, 1) := by decide +kernel
theorem dX5_takeNewName_33 : decode cX5_takeNewName 33 = .ok (.iconst 3, 1) := by decide +kernel
theorem dX5_takeNewName_34 : decode cX5_takeNewName 34 = .ok (.aload_n 0, 1) := by decide +kernel
theorem dX5_takeNewName_35 : decode cX5_takeNewName 35 = .ok (.getfield 37, 3) := by decide +kernel
theorem dX5_takeNewName_38 : decode cX5_takeNewName 38 = .ok (.getfield 84, 3) := by decide +kernel
theorem dX5_takeNewName_41 : decode cX5_takeNewName 41 = .ok (.invokevirtual 87, 3) := by decide +kernel
theorem dX5_takeNewName_44 : decode cX5_takeNewName 44 = .ok (.ireturn, 1) := by decide +kernel
theorem dX5_takeNewName_45 : decode cX5_takeNewName 45 = .ok (.aload_n 0, 1) := by decide +kernel
theorem dX5_takeNewName_46 : decode cX5_takeNewName 46 = .ok (.getfield 57, 3) := by decide +kernel
theorem dX5_takeNewName_49 : decode cX5_takeNewName 49 = .ok (.bipush 20, 2) := by decide +kernel
theorem dX5_takeNewName_51 : decode cX5_takeNewName 51 = .ok (.if_icmp .lt 16, 3) := by decide +kernel
theorem dX5_takeNewName_54 : decode cX5_takeNewName 54 = .ok (.aload_n 0, 1) := by decide +kernel
theorem dX5_takeNewName_55 : decode cX5_takeNewName 55 = .ok (.iconst 5, 1) := by decide +kernel
theorem dX5_takeNewName_56 : decode cX5_takeNewName 56 = .ok (.aload_n 0, 1) := by decide +kernel
theorem dX5_takeNewName_57 : decode cX5_takeNewName 57 = .ok (.getfield 37, 3) := by decide +kernel
theorem dX5_takeNewName_60 : decode cX5_takeNewName 60 = .ok (.getfield 84, 3) := by decide +kernel
theorem dX5_takeNewName_63 : decode cX5_takeNewName 63 = .ok (.invokevirtual 87, 3) := by decide +kernel
theorem dX5_takeNewName_66 : decode cX5_takeNewName 66 = .ok (.ireturn, 1) := by decide +kernel
theorem dX5_takeNewName_67 : decode cX5_takeNewName 67 = .ok (.aload_n 0, 1) := by decide +kernel
theorem dX5_takeNewName_68 : decode cX5_takeNewName 68 = .ok (.getfield 17, 3) := by decide +kernel
theorem dX5_takeNewName_71 : decode cX5_takeNewName 71 = .ok (.aload_n 0, 1) := by decide +kernel
theorem dX5_takeNewName_72 : decode cX5_takeNewName 72 = .ok (.getfield 57, 3) := by decide +kernel
theorem dX5_takeNewName_75 : decode cX5_takeNewName 75 = .ok (.aload_n 0, 1) := by decide +kernel
theorem dX5_takeNewName_76 : decode cX5_takeNewName 76 = .ok (.getfield 37, 3) := by decide +kernel
theorem dX5_takeNewName_79 : decode cX5_takeNewName 79 = .ok (.getfield 302, 3) := by decide +kernel
theorem dX5_takeNewName_82 : decode cX5_takeNewName 82 = .ok (.lastore, 1) := by decide +kernel
theorem dX5_takeNewName_83 : decode cX5_takeNewName 83 = .ok (.aload_n 0, 1) := by decide +kernel
theorem dX5_takeNewName_84 : decode cX5_takeNewName 84 = .ok (.getfield 21, 3) := by decide +kernel
theorem dX5_takeNewName_87 : decode cX5_takeNewName 87 = .ok (.aload_n 0, 1) := by decide +kernel
theorem dX5_takeNewName_88 : decode cX5_takeNewName 88 = .ok (.getfield 57, 3) := by decide +kernel
theorem dX5_takeNewName_91 : decode cX5_takeNewName 91 = .ok (.iload_n 1, 1) := by decide +kernel
theorem dX5_takeNewName_92 : decode cX5_takeNewName 92 = .ok (.iastore, 1) := by decide +kernel
theorem dX5_takeNewName_93 : decode cX5_takeNewName 93 = .ok (.aload_n 0, 1) := by decide +kernel
theorem dX5_takeNewName_94 : decode cX5_takeNewName 94 = .ok (.getfield 24, 3) := by decide +kernel
theorem dX5_takeNewName_97 : decode cX5_takeNewName 97 = .ok (.aload_n 0, 1) := by decide +kernel
theorem dX5_takeNewName_98 : decode cX5_takeNewName 98 = .ok (.getfield 57, 3) := by decide +kernel
theorem dX5_takeNewName_101 : decode cX5_takeNewName 101 = .ok (.iload_n 2, 1) := by decide +kernel
theorem dX5_takeNewName_102 : decode cX5_takeNewName 102 = .ok (.iastore, 1) := by decide +kernel
theorem dX5_takeNewName_103 : decode cX5_takeNewName 103 = .ok (.aload_n 0, 1) := by decide +kernel
theorem dX5_takeNewName_104 : decode cX5_takeNewName 104 = .ok (.dup, 1) := by decide +kernel
theorem dX5_takeNewName_105 : decode cX5_takeNewName 105 = .ok (.getfield 57, 3) := by decide +kernel
theorem dX5_takeNewName_108 : decode cX5_takeNewName 108 = .ok (.iconst 1, 1) := by decide +kernel
theorem dX5_takeNewName_109 : decode cX5_takeNewName 109 = .ok (.iadd, 1) := by decide +kernel
theorem dX5_takeNewName_110 : decode cX5_takeNewName 110 = .ok (.putfield 57, 3) := by decide +kernel
theorem dX5_takeNewName_113 : decode cX5_takeNewName 113 = .ok (.aload_n 0, 1) := by decide +kernel
theorem dX5_takeNewName_114 : decode cX5_takeNewName 114 = .ok (.getfield 37, 3) := by decide +kernel
theorem dX5_takeNewName_117 : decode cX5_takeNewName 117 = .ok (.invokevirtual 97, 3) := by decide +kernel
theorem dX5_takeNewName_120 : decode cX5_takeNewName 120 = .ok (.iconst 1, 1) := by decide +kernel
theorem dX5_takeNewName_121 : decode cX5_takeNewName 121 = .ok (.ireturn, 1) := by decide +kernel
theorem dX5_takeName_0 : decode cX5_takeName 0 = .ok (.aload_n 0, 1) := by decide +kernel
theorem dX5_takeName_1 : decode cX5_takeName 1 = .ok (.getfield 37, 3) := by decide +kernel
theorem dX5_takeName_4 : decode cX5_takeName 4 = .ok (.getfield 94, 3) := by decide +kernel
theorem dX5_takeName_7 : decode cX5_takeName 7 = .ok (.iconst 1, 1) := by decide +kernel
theorem dX5_takeName_8 : decode cX5_takeName 8 = .ok (.if_icmp .eq 18, 3) := by decide +kernel
theorem dX5_takeName_11 : decode cX5_takeName 11 = .ok (.aload_n 0, 1) := by decide +kernel
theorem dX5_takeName_12 : decode cX5_takeName 12 = .ok (.iconst 1, 1) := by decide +kernel
theorem dX5_takeName_13 : decode cX5_takeName 13 = .ok (.aload_n 0, 1) := by decide +kernel
theorem dX5_takeName_14 : decode cX5_takeName 14 = .ok (.getfield 37, 3) := by decide +kernel
theorem dX5_takeName_17 : decode cX5_takeName 17 = .ok (.getfield 84, 3) := by decide +kernel
theorem dX5_takeName_20 : decode cX5_takeName 20 = .ok (.invokevirtual 87, 3) := by decide +kernel
theorem dX5_takeName_23 : decode cX5_takeName 23 = .ok (.pop, 1) := by decide +kernel
theorem dX5_takeName_24 : decode cX5_takeName 24 = .ok (.iconst (-1), 1) := by decide +kernel
theorem dX5_takeName_25 : decode cX5_takeName 25 = .ok (.ireturn, 1) := by decide +kernel
theorem dX5_takeName_26 : decode cX5_takeName 26 = .ok (.aload_n 0, 1) := by decide +kernel
theorem dX5_takeName_27 : decode cX5_takeName 27 = .ok (.invokevirtual 305, 3) := by decide +kernel
theorem dX5_takeName_30 : decode cX5_takeName 30 = .ok (.istore_n 2, 1) := by decide +kernel
theorem dX5_takeName_31 : decode cX5_takeName 31 = .ok (.iload_n 2, 1) := by decide +kernel
theorem dX5_takeName_32 : decode cX5_takeName 32 = .ok (.ifCond .lt 19, 3) := by decide +kernel
theorem dX5_takeName_35 : decode cX5_takeName 35 = .ok (.iload_n 2, 1) := by decide +kernel
theorem dX5_takeName_36 : decode cX5_takeName 36 = .ok (.bipush 20, 2) := by decide +kernel
theorem dX5_takeName_38 : decode cX5_takeName 38 = .ok (.if_icmp .ge 13, 3) := by decide +kernel
theorem dX5_takeName_41 : decode cX5_takeName 41 = .ok (.aload_n 0, 1) := by decide +kernel
theorem dX5_takeName_42 : decode cX5_takeName 42 = .ok (.getfield 21, 3) := by decide +kernel
theorem dX5_takeName_45 : decode cX5_takeName 45 = .ok (.iload_n 2, 1) := by decide +kernel
theorem dX5_takeName_46 : decode cX5_takeName 46 = .ok (.iaload, 1) := by decide +kernel
theorem dX5_takeName_47 : decode cX5_takeName 47 = .ok (.iload_n 1, 1) := by decide +kernel
theorem dX5_takeName_48 : decode cX5_takeName 48 = .ok (.if_icmp .eq 18, 3) := by decide +kernel
theorem dX5_takeName_51 : decode cX5_takeName 51 = .ok (.aload_n 0, 1) := by decide +kernel
theorem dX5_takeName_52 : decode cX5_takeName 52 = .ok (.iconst 2, 1) := by decide +kernel
theorem dX5_takeName_53 : decode cX5_takeName 53 = .ok (.aload_n 0, 1) := by decide +kernel
theorem dX5_takeName_54 : decode cX5_takeName 54 = .ok (.getfield 37, 3) := by decide +kernel
theorem dX5_takeName_57 : decode cX5_takeName 57 = .ok (.getfield 84, 3) := by decide +kernel
theorem dX5_takeName_60 : decode cX5_takeName 60 = .ok (.invokevirtual 87, 3) := by decide +kernel
theorem dX5_takeName_63 : decode cX5_takeName 63 = .ok (.pop, 1) := by decide +kernel
theorem dX5_takeName_64 : decode cX5_takeName 64 = .ok (.iconst (-1), 1) := by decide +kernel
theorem dX5_takeName_65 : decode cX5_takeName 65 = .ok (.ireturn, 1) := by decide +kernel
theorem dX5_takeName_66 : decode cX5_takeName 66 = .ok (.aload_n 0, 1) := by decide +kernel
theorem dX5_takeName_67 : decode cX5_takeName 67 = .ok (.getfield 37, 3) := by decide +kernel
theorem dX5_takeName_70 : decode cX5_takeName 70 = .ok (.invokevirtual 97, 3) := by decide +kernel
theorem dX5_takeName_73 : decode cX5_takeName 73 = .ok (.aload_n 0, 1) := by decide +kernel
theorem dX5_takeName_74 : decode cX5_takeName 74 = .ok (.getfield 24, 3) := by decide +kernel
theorem dX5_takeName_77 : decode cX5_takeName 77 = .ok (.iload_n 2, 1) := by decide +kernel
theorem dX5_takeName_78 : decode cX5_takeName 78 = .ok (.iaload, 1) := by decide +kernel
theorem dX5_takeName_79 : decode cX5_takeName 79 = .ok (.ireturn, 1) := by decide +kernel
theorem dX5_findName_0 : decode cX5_findName 0 = .ok (.iconst 0, 1) := by decide +kernel
theorem dX5_findName_1 : decode cX5_findName 1 = .ok (.istore_n 1, 1) := by decide +kernel
theorem dX5_findName_2 : decode cX5_findName 2 = .ok (.iload_n 1, 1) := by decide +kernel
theorem dX5_findName_3 : decode cX5_findName 3 = .ok (.aload_n 0, 1) := by decide +kernel
theorem dX5_findName_4 : decode cX5_findName 4 = .ok (.getfield 57, 3) := by decide +kernel
theorem dX5_findName_7 : decode cX5_findName 7 = .ok (.if_icmp .ge 34, 3) := by decide +kernel
theorem dX5_findName_10 : decode cX5_findName 10 = .ok (.iload_n 1, 1) := by decide +kernel
theorem dX5_findName_11 : decode cX5_findName 11 = .ok (.bipush 20, 2) := by decide +kernel
theorem dX5_findName_13 : decode cX5_findName 13 = .ok (.if_icmp .ge 28, 3) := by decide +kernel
theorem dX5_findName_16 : decode cX5_findName 16 = .ok (.aload_n 0, 1) := by decide +kernel
theorem dX5_findName_17 : decode cX5_findName 17 = .ok (.getfield 17, 3) := by decide +kernel
theorem dX5_findName_20 : decode cX5_findName 20 = .ok (.iload_n 1, 1) := by decide +kernel
theorem dX5_findName_21 : decode cX5_findName 21 = .ok (.laload, 1) := by decide +kernel
theorem dX5_findName_22 : decode cX5_findName 22 = .ok (.aload_n 0, 1) := by decide +kernel
theorem dX5_findName_23 : decode cX5_findName 23 = .ok (.getfield 37, 3) := by decide +kernel
theorem dX5_findName_26 : decode cX5_findName 26 = .ok (.getfield 302, 3) := by decide +kernel
theorem dX5_findName_29 : decode cX5_findName 29 = .ok (.lcmp, 1) := by decide +kernel
theorem dX5_findName_30 : decode cX5_findName 30 = .ok (.ifCond .ne 5, 3) := by decide +kernel
theorem dX5_findName_33 : decode cX5_findName 33 = .ok (.iload_n 1, 1) := by decide +kernel
theorem dX5_findName_34 : decode cX5_findName 34 = .ok (.ireturn, 1) := by decide +kernel
theorem dX5_findName_35 : decode cX5_findName 35 = .ok (.iinc 1 1, 3) := by decide +kernel
theorem dX5_findName_38 : decode cX5_findName 38 = .ok (.goto (-36), 3) := by decide +kernel
theorem dX5_findName_41 : decode cX5_findName 41 = .ok (.iconst (-1), 1) := by decide +kernel
theorem dX5_findName_42 : decode cX5_findName 42 = .ok (.ireturn, 1) := by decide +kernel
theorem dX6_init_0 : decode cX6_init 0 = .ok (.aload_n 0, 1) := by decide +kernel
theorem dX6_init_1 : decode cX6_init 1 = .ok (.invokespecial 3, 3) := by decide +kernel
theorem dX6_init_4 : decode cX6_init 4 = .ok (.aload_n 0, 1) := by decide +kernel
theorem dX6_init_5 : decode cX6_init 5 = .ok (.sipush 900, 3) := by decide +kernel
theorem dX6_init_8 : decode cX6_init 8 = .ok (.newarray .byte, 2) := by decide +kernel
theorem dX6_init_10 : decode cX6_init 10 = .ok (.putfield 9, 3) := by decide +kernel
theorem dX6_init_13 : decode cX6_init 13 = .ok (.aload_n 0, 1) := by decide +kernel
theorem dX6_init_14 : decode cX6_init 14 = .ok (.sipush 901, 3) := by decide +kernel
theorem dX6_init_17 : decode cX6_init 17 = .ok (.newarray .int, 2) := by decide +kernel
theorem dX6_init_19 : decode cX6_init 19 = .ok (.putfield 15, 3) := by decide +kernel
theorem dX6_init_22 : decode cX6_init 22 = .ok (.aload_n 0, 1) := by decide +kernel
theorem dX6_init_23 : decode cX6_init 23 = .ok (.sipush 901, 3) := by decide +kernel
theorem dX6_init_26 : decode cX6_init 26 = .ok (.newarray .int, 2) := by decide +kernel
theorem dX6_init_28 : decode cX6_init 28 = .ok (.putfield 19, 3) := by decide +kernel
theorem dX6_init_31 : decode cX6_init 31 = .ok (.aload_n 0, 1) := by decide +kernel
theorem dX6_init_32 : decode cX6_init 32 = .ok (.sipush 901, 3) := by decide +kernel
theorem dX6_init_35 : decode cX6_init 35 = .ok (.newarray .long, 2) := by decide +kernel
theorem dX6_init_37 : decode cX6_init 37 = .ok (.putfield 22, 3) := by decide +kernel
theorem dX6_init_40 : decode cX6_init 40 = .ok (.return_, 1) := by decide +kernel
theorem dX6_put_0 : decode cX6_put 0 = .ok (.bipush 24, 2) := by decide +kernel
theorem dX6_put_2 : decode cX6_put 2 = .ok (.istore_n 2, 1) := by decide +kernel
theorem dX6_put_3 : decode cX6_put 3 = .ok (.iload_n 2, 1) := by decide +kernel
theorem dX6_put_4 : decode cX6_put 4 = .ok (.ifCond .lt 42, 3) := by decide +kernel
theorem dX6_put_7 : decode cX6_put 7 = .ok (.aload_n 0, 1) := by decide +kernel
theorem dX6_put_8 : decode cX6_put 8 = .ok (.getfield 26, 3) := by decide +kernel
theorem dX6_put_11 : decode cX6_put 11 = .ok (.sipush 900, 3) := by decide +kernel
theorem dX6_put_14 : decode cX6_put 14 = .ok (.if_icmp .ge 26, 3) := by decide +kernel
theorem dX6_put_17 : decode cX6_put 17 = .ok (.aload_n 0, 1) := by decide +kernel
theorem dX6_put_18 : decode cX6_put 18 = .ok (.getfield 9, 3) := by decide +kernel
theorem dX6_put_21 : decode cX6_put 21 = .ok (.aload_n 0, 1) := by decide +kernel
theorem dX6_put_22 : decode cX6_put 22 = .ok (.getfield 26, 3) := by decide +kernel
theorem dX6_put_25 : decode cX6_put 25 = .ok (.iload_n 1, 1) := by decide +kernel
theorem dX6_put_26 : decode cX6_put 26 = .ok (.iload_n 2, 1) := by decide +kernel
theorem dX6_put_27 : decode cX6_put 27 = .ok (.iushr, 1) := by decide +kernel
theorem dX6_put_28 : decode cX6_put 28 = .ok (.i2b, 1) := by decide +kernel
theorem dX6_put_29 : decode cX6_put 29 = .ok (.bastore, 1) := by decide +kernel
theorem dX6_put_30 : decode cX6_put 30 = .ok (.aload_n 0, 1) := by decide +kernel
theorem dX6_put_31 : decode cX6_put 31 = .ok (.dup, 1) := by decide +kernel
theorem dX6_put_32 : decode cX6_put 32 = .ok (.getfield 26, 3) := by decide +kernel
theorem dX6_put_35 : decode cX6_put 35 = .ok (.iconst 1, 1) := by decide +kernel
theorem dX6_put_36 : decode cX6_put 36 = .ok (.iadd, 1) := by decide +kernel
theorem dX6_put_37 : decode cX6_put 37 = .ok (.putfield 26, 3) := by decide +kernel
theorem dX6_put_40 : decode cX6_put 40 = .ok (.iinc 2 (-8), 3) := by decide +kernel
theorem dX6_put_43 : decode cX6_put 43 = .ok (.goto (-40), 3) := by decide +kernel
theorem dX6_put_46 : decode cX6_put 46 = .ok (.return_, 1) := by decide +kernel
theorem dX6_begin_0 : decode cX6_begin 0 = .ok (.aload_n 0, 1) := by decide +kernel
theorem dX6_begin_1 : decode cX6_begin 1 = .ok (.iload_n 1, 1) := by decide +kernel
theorem dX6_begin_2 : decode cX6_begin 2 = .ok (.aload_n 0, 1) := by decide +kernel
theorem dX6_begin_3 : decode cX6_begin 3 = .ok (.getfield 26, 3) := by decide +kernel
theorem dX6_begin_6 : decode cX6_begin 6 = .ok (.invokestatic 30, 3) := by decide +kernel
theorem dX6_begin_9 : decode cX6_begin 9 = .ok (.putfield 36, 3) := by decide +kernel
theorem dX6_begin_12 : decode cX6_begin 12 = .ok (.aload_n 0, 1) := by decide +kernel
theorem dX6_begin_13 : decode cX6_begin 13 = .ok (.iconst 0, 1) := by decide +kernel
theorem dX6_begin_14 : decode cX6_begin 14 = .ok (.putfield 39, 3) := by decide +kernel
theorem dX6_begin_17 : decode cX6_begin 17 = .ok (.iconst 1, 1) := by decide +kernel
theorem dX6_begin_18 : decode cX6_begin 18 = .ok (.istore_n 2, 1) := by decide +kernel
theorem dX6_begin_19 : decode cX6_begin 19 = .ok (.iconst 0, 1) := by decide +kernel
theorem dX6_begin_20 : decode cX6_begin 20 = .ok (.istore_n 3, 1) := by decide +kernel
theorem dX6_begin_21 : decode cX6_begin 21 = .ok (.iload_n 3, 1) := by decide +kernel
theorem dX6_begin_22 : decode cX6_begin 22 = .ok (.aload_n 0, 1) := by decide +kernel
theorem dX6_begin_23 : decode cX6_begin 23 = .ok (.getfield 36, 3) := by decide +kernel
theorem dX6_begin_26 : decode cX6_begin 26 = .ok (.if_icmp .ge 55, 3) := by decide +kernel
theorem dX6_begin_29 : decode cX6_begin 29 = .ok (.iload_n 2, 1) := by decide +kernel
theorem dX6_begin_30 : decode cX6_begin 30 = .ok (.ifCond .eq 51, 3) := by decide +kernel
theorem dX6_begin_33 : decode cX6_begin 33 = .ok (.iconst 1, 1) := by decide +kernel
theorem dX6_begin_34 : decode cX6_begin 34 = .ok (.istore 4, 2) := by decide +kernel
theorem dX6_begin_36 : decode cX6_begin 36 = .ok (.aload_n 0, 1) := by decide +kernel
theorem dX6_begin_37 : decode cX6_begin 37 = .ok (.iload_n 3, 1) := by decide +kernel
theorem dX6_begin_38 : decode cX6_begin 38 = .ok (.invokevirtual 42, 3) := by decide +kernel
theorem dX6_begin_41 : decode cX6_begin 41 = .ok (.bipush 32, 2) := by decide +kernel
theorem dX6_begin_43 : decode cX6_begin 43 = .ok (.if_icmp .eq 30, 3) := by decide +kernel
theorem dX6_begin_46 : decode cX6_begin 46 = .ok (.aload_n 0, 1) := by decide +kernel
theorem dX6_begin_47 : decode cX6_begin 47 = .ok (.iload_n 3, 1) := by decide +kernel
theorem dX6_begin_48 : decode cX6_begin 48 = .ok (.invokevirtual 46, 3) := by decide +kernel
theorem dX6_begin_51 : decode cX6_begin 51 = .ok (.istore 4, 2) := by decide +kernel
theorem dX6_begin_53 : decode cX6_begin 53 = .ok (.aload_n 0, 1) := by decide +kernel
theorem dX6_begin_54 : decode cX6_begin 54 = .ok (.aload_n 0, 1) := by decide +kernel
theorem dX6_begin_55 : decode cX6_begin 55 = .ok (.iload_n 3, 1) := by decide +kernel
theorem dX6_begin_56 : decode cX6_begin 56 = .ok (.iload 4, 2) := by decide +kernel
theorem dX6_begin_58 : decode cX6_begin 58 = .ok (.invokevirtual 49, 3) := by decide +kernel
theorem dX6_begin_61 : decode cX6_begin 61 = .ok (.iload_n 3, 1) := by decide +kernel
theorem dX6_begin_62 : decode cX6_begin 62 = .ok (.aload_n 0, 1) := by decide +kernel
theorem dX6_begin_63 : decode cX6_begin 63 = .ok (.iload_n 3, 1) := by decide +kernel
theorem dX6_begin_64 : decode cX6_begin 64 = .ok (.iload 4, 2) := by decide +kernel
theorem dX6_begin_66 : decode cX6_begin 66 = .ok (.invokevirtual 52, 3) := by decide +kernel
theorem dX6_begin_69 : decode cX6_begin 69 = .ok (.invokevirtual 56, 3) := by decide +kernel
theorem dX6_begin_72 : decode cX6_begin 72 = .ok (.istore_n 2, 1) := by decide +kernel
theorem dX6_begin_73 : decode cX6_begin 73 = .ok (.iload_n 3, 1) := by decide +kernel
theorem dX6_begin_74 : decode cX6_begin 74 = .ok (.iload 4, 2) := by decide +kernel
theorem dX6_begin_76 : decode cX6_begin 76 = .ok (.iadd, 1) := by decide +kernel
theorem dX6_begin_77 : decode cX6_begin 77 = .ok (.istore_n 3, 1) := by decide +kernel
theorem dX6_begin_78 : decode cX6_begin 78 = .ok (.goto (-57), 3) := by decide +kernel
theorem dX6_begin_81 : decode cX6_begin 81 = .ok (.iload_n 2, 1) := by decide +kernel
theorem dX6_begin_82 : decode cX6_begin 82 = .ok (.ifCond .eq 14, 3) := by decide +kernel
theorem dX6_begin_85 : decode cX6_begin 85 = .ok (.aload_n 0, 1) := by decide +kernel
theorem dX6_begin_86 : decode cX6_begin 86 = .ok (.iconst 0, 1) := by decide +kernel
theorem dX6_begin_87 : decode cX6_begin 87 = .ok (.aload_n 0, 1) := by decide +kernel
theorem dX6_begin_88 : decode cX6_begin 88 = .ok (.getfield 36, 3) := by decide +kernel
theorem dX6_begin_91 : decode cX6_begin 91 = .ok (.lconst 0, 1) := by decide +kernel
theorem dX6_begin_92 : decode cX6_begin 92 = .ok (.invokevirtual 56, 3) := by decide +kernel
theorem dX6_begin_95 : decode cX6_begin 95 = .ok (.pop, 1) := by decide +kernel
theorem dX6_begin_96 : decode cX6_begin 96 = .ok (.aload_n 0, 1) := by decide +kernel
theorem dX6_begin_97 : decode cX6_begin 97 = .ok (.iconst (-1), 1) := by decide +kernel
theorem dX6_begin_98 : decode cX6_begin 98 = .ok (.putfield 60, 3) := by decide +kernel
theorem dX6_begin_101 : decode cX6_begin 101 = .ok (.aload_n 0, 1) := by decide +kernel
theorem dX6_begin_102 : decode cX6_begin 102 = .ok (.invokevirtual 63, 3) := by decide +kernel
theorem dX6_begin_105 : decode cX6_begin 105 = .ok (.return_, 1) := by decide +kernel
theorem dX6_advance_0 : decode cX6_advance 0 = .ok (.aload_n 0, 1) := by decide +kernel
theorem dX6_advance_1 : decode cX6_advance 1 = .ok (.getfield 60, 3) := by decide +kernel
theorem dX6_advance_4 : decode cX6_advance 4 = .ok (.aload_n 0, 1) := by decide +kernel
theorem dX6_advance_5 : decode cX6_advance 5 = .ok (.getfield 39, 3) := by decide +kernel
theorem dX6_advance_8 : decode cX6_advance 8 = .ok (.iconst 1, 1) := by decide +kernel
theorem dX6_advance_9 : decode cX6_advance 9 = .ok (.isub, 1) := by decide +kernel
theorem dX6_advance_10 : decode cX6_advance 10 = .ok (.if_icmp .ge 62, 3) := by decide +kernel
theorem dX6_advance_13 : decode cX6_advance 13 = .ok (.aload_n 0, 1) := by decide +kernel
theorem dX6_advance_14 : decode cX6_advance 14 = .ok (.getfield 60, 3) := by decide +kernel
theorem dX6_advance_17 : decode cX6_advance 17 = .ok (.sipush 900, 3) := by decide +kernel
theorem dX6_advance_20 : decode cX6_advance 20 = .ok (.if_icmp .ge 52, 3) := by decide +kernel
theorem dX6_advance_23 : decode cX6_advance 23 = .ok (.aload_n 0, 1) := by decide +kernel
theorem dX6_advance_24 : decode cX6_advance 24 = .ok (.dup, 1) := by decide +kernel
theorem dX6_advance_25 : decode cX6_advance 25 = .ok (.getfield 60, 3) := by decide +kernel
theorem dX6_advance_28 : decode cX6_advance 28 = .ok (.iconst 1, 1) := by decide +kernel
theorem dX6_advance_29 : decode cX6_advance 29 = .ok (.iadd, 1) := by decide +kernel
theorem dX6_advance_30 : decode cX6_advance 30 = .ok (.putfield 60, 3) := by decide +kernel
theorem dX6_advance_33 : decode cX6_advance 33 = .ok (.aload_n 0, 1) := by decide +kernel
theorem dX6_advance_34 : decode cX6_advance 34 = .ok (.aload_n 0, 1) := by decide +kernel
theorem dX6_advance_35 : decode cX6_advance 35 = .ok (.getfield 15, 3) := by decide +kernel
theorem dX6_advance_38 : decode cX6_advance 38 = .ok (.aload_n 0, 1) := by decide +kernel
theorem dX6_advance_39 : decode cX6_advance 39 = .ok (.getfield 60, 3) := by decide +kernel
theorem dX6_advance_42 : decode cX6_advance 42 = .ok (.iaload, 1) := by decide +kernel
theorem dX6_advance_43 : decode cX6_advance 43 = .ok (.putfield 66, 3) := by decide +kernel
theorem dX6_advance_46 : decode cX6_advance 46 = .ok (.aload_n 0, 1) := by decide +kernel
theorem dX6_advance_47 : decode cX6_advance 47 = .ok (.aload_n 0, 1) := by decide +kernel
theorem dX6_advance_48 : decode cX6_advance 48 = .ok (.getfield 19, 3) := by decide +kernel
theorem dX6_advance_51 : decode cX6_advance 51 = .ok (.aload_n 0, 1) := by decide +kernel
theorem dX6_advance_52 : decode cX6_advance 52 = .ok (.getfield 60, 3) := by decide +kernel
theorem dX6_advance_55 : decode cX6_advance 55 = .ok (.iaload, 1) := by decide +kernel
theorem dX6_advance_56 : decode cX6_advance 56 = .ok (.putfield 69, 3) := by decide +kernel
theorem dX6_advance_59 : decode cX6_advance 59 = .ok (.aload_n 0, 1) := by decide +kernel
theorem dX6_advance_60 : decode cX6_advance 60 = .ok (.aload_n 0, 1) := by decide +kernel
theorem dX6_advance_61 : decode cX6_advance 61 = .ok (.getfield 22, 3) := by decide +kernel
theorem dX6_advance_64 : decode cX6_advance 64 = .ok (.aload_n 0, 1) := by decide +kernel
theorem dX6_advance_65 : decode cX6_advance 65 = .ok (.getfield 60, 3) := by decide +kernel
theorem dX6_advance_68 : decode cX6_advance 68 = .ok (.laload, 1) := by decide +kernel
theorem dX6_advance_69 : decode cX6_advance 69 = .ok (.putfield 72, 3) := by decide +kernel
theorem dX6_advance_72 : decode cX6_advance 72 = .ok (.return_, 1) := by decide +kernel
theorem dX6_isWord_0 : decode cX6_isWord 0 = .ok (.aload_n 0, 1) := by decide +kernel
theorem dX6_isWord_1 : decode cX6_isWord 1 = .ok (.getfield 66, 3) := by decide +kernel
theorem dX6_isWord_4 : decode cX6_isWord 4 = .ok (.iconst 1, 1) := by decide +kernel
theorem dX6_isWord_5 : decode cX6_isWord 5 = .ok (.if_icmp .ne 16, 3) := by decide +kernel
theorem dX6_isWord_8 : decode cX6_isWord 8 = .ok (.aload_n 0, 1) := by decide +kernel
theorem dX6_isWord_9 : decode cX6_isWord 9 = .ok (.getfield 72, 3) := by decide +kernel
theorem dX6_isWord_12 : decode cX6_isWord 12 = .ok (.lload_n 1, 1) := by decide +kernel
theorem dX6_isWord_13 : decode cX6_isWord 13 = .ok (.lcmp, 1) := by decide +kernel
theorem dX6_isWord_14 : decode cX6_isWord 14 = .ok (.ifCond .ne 7, 3) := by decide +kernel
theorem dX6_isWord_17 : decode cX6_isWord 17 = .ok (.iconst 1, 1) := by decide +kernel
theorem dX6_isWord_18 : decode cX6_isWord 18 = .ok (.goto 4, 3) := by decide +kernel
theorem dX6_isWord_21 : decode cX6_isWord 21 = .ok (.iconst 0, 1) := by decide +kernel
theorem dX6_isWord_22 : decode cX6_isWord 22 = .ok (.ireturn, 1) := by decide +kernel
theorem dX6_addToken_0 : decode cX6_addToken 0 = .ok (.aload_n 0, 1) := by decide +kernel
theorem dX6_addToken_1 : decode cX6_addToken 1 = .ok (.getfield 39, 3) := by decide +kernel
theorem dX6_addToken_4 : decode cX6_addToken 4 = .ok (.ifCond .lt 53, 3) := by decide +kernel
theorem dX6_addToken_7 : decode cX6_addToken 7 = .ok (.aload_n 0, 1) := by decide +kernel
theorem dX6_addToken_8 : decode cX6_addToken 8 = .ok (.getfield 39, 3) := by decide +kernel
theorem dX6_addToken_11 : decode cX6_addToken 11 = .ok (.sipush 900, 3) := by decide +kernel
theorem dX6_addToken_14 : decode cX6_addToken 14 = .ok (.if_icmp .gt 43, 3) := by decide +kernel
theorem dX6_addToken_17 : decode cX6_addToken 17 = .ok (.aload_n 0, 1) := by decide +kernel
theorem dX6_addToken_18 : decode cX6_addToken 18 = .ok (.getfield 15, 3) := by decide +kernel
theorem dX6_addToken_21 : decode cX6_addToken 21 = .ok (.aload_n 0, 1) := by decide +kernel
theorem dX6_addToken_22 : decode cX6_addToken 22 = .ok (.getfield 39, 3) := by decide +kernel
theorem dX6_addToken_25 : decode cX6_addToken 25 = .ok (.iload_n 1, 1) := by decide +kernel
theorem dX6_addToken_26 : decode cX6_addToken 26 = .ok (.iastore, 1) := by decide +kernel
theorem dX6_addToken_27 : decode cX6_addToken 27 = .ok (.aload_n 0, 1) := by decide +kernel
theorem dX6_addToken_28 : decode cX6_addToken 28 = .ok (.getfield 19, 3) := by decide +kernel
theorem dX6_addToken_31 : decode cX6_addToken 31 = .ok (.aload_n 0, 1) := by decide +kernel
theorem dX6_addToken_32 : decode cX6_addToken 32 = .ok (.getfield 39, 3) := by decide +kernel
theorem dX6_addToken_35 : decode cX6_addToken 35 = .ok (.iload_n 2, 1) := by decide +kernel
theorem dX6_addToken_36 : decode cX6_addToken 36 = .ok (.iastore, 1) := by decide +kernel
theorem dX6_addToken_37 : decode cX6_addToken 37 = .ok (.aload_n 0, 1) := by decide +kernel
theorem dX6_addToken_38 : decode cX6_addToken 38 = .ok (.getfield 22, 3) := by decide +kernel
theorem dX6_addToken_41 : decode cX6_addToken 41 = .ok (.aload_n 0, 1) := by decide +kernel
theorem dX6_addToken_42 : decode cX6_addToken 42 = .ok (.getfield 39, 3) := by decide +kernel
theorem dX6_addToken_45 : decode cX6_addToken 45 = .ok (.lload_n 3, 1) := by decide +kernel
theorem dX6_addToken_46 : decode cX6_addToken 46 = .ok (.lastore, 1) := by decide +kernel
theorem dX6_addToken_47 : decode cX6_addToken 47 = .ok (.aload_n 0, 1) := by decide +kernel
theorem dX6_addToken_48 : decode cX6_addToken 48 = .ok (.dup, 1) := by decide +kernel
theorem dX6_addToken_49 : decode cX6_addToken 49 = .ok (.getfield 39, 3) := by decide +kernel
theorem dX6_addToken_52 : decode cX6_addToken 52 = .ok (.iconst 1, 1) := by decide +kernel
theorem dX6_addToken_53 : decode cX6_addToken 53 = .ok (.iadd, 1) := by decide +kernel
theorem dX6_addToken_54 : decode cX6_addToken 54 = .ok (.putfield 39, 3) := by decide +kernel
theorem dX6_addToken_57 : decode cX6_addToken 57 = .ok (.iload_n 1, 1) := by decide +kernel
theorem dX6_addToken_58 : decode cX6_addToken 58 = .ok (.iconst 3, 1) := by decide +kernel
theorem dX6_addToken_59 : decode cX6_addToken 59 = .ok (.if_icmp .eq 7, 3) := by decide +kernel
theorem dX6_addToken_62 : decode cX6_addToken 62 = .ok (.iconst 1, 1) := by decide +kernel
theorem dX6_addToken_63 : decode cX6_addToken 63 = .ok (.goto 4, 3) := by decide +kernel
theorem dX6_addToken_66 : decode cX6_addToken 66 = .ok (.iconst 0, 1) := by decide +kernel
theorem dX6_addToken_67 : decode cX6_addToken 67 = .ok (.ireturn, 1) := by decide +kernel
theorem dX6_lengthFrom_0 : decode cX6_lengthFrom 0 = .ok (.iconst 1, 1) := by decide +kernel
theorem dX6_lengthFrom_1 : decode cX6_lengthFrom 1 = .ok (.istore_n 2, 1) := by decide +kernel
theorem dX6_lengthFrom_2 : decode cX6_lengthFrom 2 = .ok (.aload_n 0, 1) := by decide +kernel
theorem dX6_lengthFrom_3 : decode cX6_lengthFrom 3 = .ok (.iload_n 1, 1) := by decide +kernel
theorem dX6_lengthFrom_4 : decode cX6_lengthFrom 4 = .ok (.invokevirtual 42, 3) := by decide +kernel
theorem dX6_lengthFrom_7 : decode cX6_lengthFrom 7 = .ok (.invokestatic 76, 3) := by decide +kernel
theorem dX6_lengthFrom_10 : decode cX6_lengthFrom 10 = .ok (.ifCond .eq 28, 3) := by decide +kernel
theorem dX6_lengthFrom_13 : decode cX6_lengthFrom 13 = .ok (.iload_n 2, 1) := by decide +kernel
theorem dX6_lengthFrom_14 : decode cX6_lengthFrom 14 = .ok (.bipush 8, 2) := by decide +kernel
theorem dX6_lengthFrom_16 : decode cX6_lengthFrom 16 = .ok (.if_icmp .gt 57, 3) := by decide +kernel
theorem dX6_lengthFrom_19 : decode cX6_lengthFrom 19 = .ok (.aload_n 0, 1) := by decide +kernel
theorem dX6_lengthFrom_20 : decode cX6_lengthFrom 20 = .ok (.iload_n 1, 1) := by decide +kernel
theorem dX6_lengthFrom_21 : decode cX6_lengthFrom 21 = .ok (.iload_n 2, 1) := by decide +kernel
theorem dX6_lengthFrom_22 : decode cX6_lengthFrom 22 = .ok (.iadd, 1) := by decide +kernel
theorem dX6_lengthFrom_23 : decode cX6_lengthFrom 23 = .ok (.invokevirtual 42, 3) := by decide +kernel
theorem dX6_lengthFrom_26 : decode cX6_lengthFrom 26 = .ok (.invokestatic 76, 3) := by decide +kernel
theorem dX6_lengthFrom_29 : decode cX6_lengthFrom 29 = .ok (.ifCond .eq 44, 3) := by decide +kernel
theorem dX6_lengthFrom_32 : decode cX6_lengthFrom 32 = .ok (.iinc 2 1, 3) := by decide +kernel
theorem dX6_lengthFrom_35 : decode cX6_lengthFrom 35 = .ok (.goto (-22), 3) := by decide +kernel
theorem dX6_lengthFrom_38 : decode cX6_lengthFrom 38 = .ok (.aload_n 0, 1) := by decide +kernel
theorem dX6_lengthFrom_39 : decode cX6_lengthFrom 39 = .ok (.iload_n 1, 1) := by decide +kernel
theorem dX6_lengthFrom_40 : decode cX6_lengthFrom 40 = .ok (.invokevirtual 42, 3) := by decide +kernel
theorem dX6_lengthFrom_43 : decode cX6_lengthFrom 43 = .ok (.invokestatic 80, 3) := by decide +kernel
theorem dX6_lengthFrom_46 : decode cX6_lengthFrom 46 = .ok (.ifCond .eq 27, 3) := by decide +kernel
theorem dX6_lengthFrom_49 : decode cX6_lengthFrom 49 = .ok (.iload_n 2, 1) := by decide +kernel
theorem dX6_lengthFrom_50 : decode cX6_lengthFrom 50 = .ok (.iconst 3, 1) := by decide +kernel
theorem dX6_lengthFrom_51 : decode cX6_lengthFrom 51 = .ok (.if_icmp .gt 22, 3) := by decide +kernel
theorem dX6_lengthFrom_54 : decode cX6_lengthFrom 54 = .ok (.aload_n 0, 1) := by decide +kernel
theorem dX6_lengthFrom_55 : decode cX6_lengthFrom 55 = .ok (.iload_n 1, 1) := by decide +kernel
theorem dX6_lengthFrom_56 : decode cX6_lengthFrom 56 = .ok (.iload_n 2, 1) := by decide +kernel
theorem dX6_lengthFrom_57 : decode cX6_lengthFrom 57 = .ok (.iadd, 1) := by decide +kernel
theorem dX6_lengthFrom_58 : decode cX6_lengthFrom 58 = .ok (.invokevirtual 42, 3) := by decide +kernel
theorem dX6_lengthFrom_61 : decode cX6_lengthFrom 61 = .ok (.invokestatic 80, 3) := by decide +kernel
theorem dX6_lengthFrom_64 : decode cX6_lengthFrom 64 = .ok (.ifCond .eq 9, 3) := by decide +kernel
theorem dX6_lengthFrom_67 : decode cX6_lengthFrom 67 = .ok (.iinc 2 1, 3) := by decide +kernel
theorem dX6_lengthFrom_70 : decode cX6_lengthFrom 70 = .ok (.goto (-21), 3) := by decide +kernel
theorem dX6_lengthFrom_73 : decode cX6_lengthFrom 73 = .ok (.iload_n 2, 1) := by decide +kernel
theorem dX6_lengthFrom_74 : decode cX6_lengthFrom 74 = .ok (.ireturn, 1) := by decide +kernel
theorem dX6_valueFrom_0 : decode cX6_valueFrom 0 = .ok (.lconst 0, 1) := by decide +kernel
theorem dX6_valueFrom_1 : decode cX6_valueFrom 1 = .ok (.lstore_n 3, 1) := by decide +kernel
theorem dX6_valueFrom_2 : decode cX6_valueFrom 2 = .ok (.iload_n 1, 1) := by decide +kernel
theorem dX6_valueFrom_3 : decode cX6_valueFrom 3 = .ok (.istore 5, 2) := by decide +kernel
theorem dX6_valueFrom_5 : decode cX6_valueFrom 5 = .ok (.iload 5, 2) := by decide +kernel
theorem dX6_valueFrom_7 : decode cX6_valueFrom 7 = .ok (.iload_n 1, 1) := by decide +kernel
theorem dX6_valueFrom_8 : decode cX6_valueFrom 8 = .ok (.iload_n 2, 1) := by decide +kernel
theorem dX6_valueFrom_9 : decode cX6_valueFrom 9 = .ok (.iadd, 1) := by decide +kernel
theorem dX6_valueFrom_10 : decode cX6_valueFrom 10 = .ok (.if_icmp .ge 50, 3) := by decide +kernel
theorem dX6_valueFrom_13 : decode cX6_valueFrom 13 = .ok (.aload_n 0, 1) := by decide +kernel
theorem dX6_valueFrom_14 : decode cX6_valueFrom 14 = .ok (.iload 5, 2) := by decide +kernel
theorem dX6_valueFrom_16 : decode cX6_valueFrom 16 = .ok (.invokevirtual 42, 3) := by decide +kernel
theorem dX6_valueFrom_19 : decode cX6_valueFrom 19 = .ok (.istore 6, 2) := by decide +kernel
theorem dX6_valueFrom_21 : decode cX6_valueFrom 21 = .ok (.iload 6, 2) := by decide +kernel
theorem dX6_valueFrom_23 : decode cX6_valueFrom 23 = .ok (.invokestatic 80, 3) := by decide +kernel
theorem dX6_valueFrom_26 : decode cX6_valueFrom 26 = .ok (.ifCond .eq 19, 3) := by decide +kernel
theorem dX6_valueFrom_29 : decode cX6_valueFrom 29 = .ok (.ldc2_w 83, 3) := by decide +kernel
theorem dX6_valueFrom_32 : decode cX6_valueFrom 32 = .ok (.lload_n 3, 1) := by decide +kernel
theorem dX6_valueFrom_33 : decode cX6_valueFrom 33 = .ok (.lmul, 1) := by decide +kernel
theorem dX6_valueFrom_34 : decode cX6_valueFrom 34 = .ok (.iload 6, 2) := by decide +kernel
theorem dX6_valueFrom_36 : decode cX6_valueFrom 36 = .ok (.i2l, 1) := by decide +kernel
theorem dX6_valueFrom_37 : decode cX6_valueFrom 37 = .ok (.ladd, 1) := by decide +kernel
theorem dX6_valueFrom_38 : decode cX6_valueFrom 38 = .ok (.ldc2_w 85, 3) := by decide +kernel
theorem dX6_valueFrom_41 : decode cX6_valueFrom 41 = .ok (.lsub, 1) := by decide +kernel
theorem dX6_valueFrom_42 : decode cX6_valueFrom 42 = .ok (.goto 11, 3) := by decide +kernel
theorem dX6_valueFrom_45 : decode cX6_valueFrom 45 = .ok (.lload_n 3, 1) := by decide +kernel
theorem dX6_valueFrom_46 : decode cX6_valueFrom 46 = .ok (.bipush 8, 2) := by decide +kernel
theorem dX6_valueFrom_48 : decode cX6_valueFrom 48 = .ok (.lshl, 1) := by decide +kernel
theorem dX6_valueFrom_49 : decode cX6_valueFrom 49 = .ok (.iload 6, 2) := by decide +kernel
theorem dX6_valueFrom_51 : decode cX6_valueFrom 51 = .ok (.i2l, 1) := by decide +kernel
theorem dX6_valueFrom_52 : decode cX6_valueFrom 52 = .ok (.lor, 1) := by decide +kernel
theorem dX6_valueFrom_53 : decode cX6_valueFrom 53 = .ok (.lstore_n 3, 1) := by decide +kernel
theorem dX6_valueFrom_54 : decode cX6_valueFrom 54 = .ok (.iinc 5 1, 3) := by decide +kernel
theorem dX6_valueFrom_57 : decode cX6_valueFrom 57 = .ok (.goto (-52), 3) := by decide +kernel
theorem dX6_valueFrom_60 : decode cX6_valueFrom 60 = .ok (.lload_n 3, 1) := by decide +kernel
theorem dX6_valueFrom_61 : decode cX6_valueFrom 61 = .ok (.lreturn, 1) := by decide +kernel
theorem dX6_kindFrom_0 : decode cX6_kindFrom 0 = .ok (.aload_n 0, 1) := by decide +kernel
theorem dX6_kindFrom_1 : decode cX6_kindFrom 1 = .ok (.iload_n 1, 1) := by decide +kernel
theorem dX6_kindFrom_2 : decode cX6_kindFrom 2 = .ok (.invokevirtual 42, 3) := by decide +kernel
theorem dX6_kindFrom_5 : decode cX6_kindFrom 5 = .ok (.istore_n 3, 1) := by decide +kernel
theorem dX6_kindFrom_6 : decode cX6_kindFrom 6 = .ok (.iload_n 3, 1) := by decide +kernel
theorem dX6_kindFrom_7 : decode cX6_kindFrom 7 = .ok (.invokestatic 76, 3) := by decide +kernel
theorem dX6_kindFrom_10 : decode cX6_kindFrom 10 = .ok (.ifCond .eq 23, 3) := by decide +kernel
theorem dX6_kindFrom_13 : decode cX6_kindFrom 13 = .ok (.iload_n 2, 1) := by decide +kernel
theorem dX6_kindFrom_14 : decode cX6_kindFrom 14 = .ok (.bipush 8, 2) := by decide +kernel
theorem dX6_kindFrom_16 : decode cX6_kindFrom 16 = .ok (.if_icmp .gt 15, 3) := by decide +kernel
theorem dX6_kindFrom_19 : decode cX6_kindFrom 19 = .ok (.aload_n 0, 1) := by decide +kernel
theorem dX6_kindFrom_20 : decode cX6_kindFrom 20 = .ok (.iload_n 1, 1) := by decide +kernel
theorem dX6_kindFrom_21 : decode cX6_kindFrom 21 = .ok (.iload_n 2, 1) := by decide +kernel
theorem dX6_kindFrom_22 : decode cX6_kindFrom 22 = .ok (.invokevirtual 52, 3) := by decide +kernel
theorem dX6_kindFrom_25 : decode cX6_kindFrom 25 = .ok (.invokestatic 87, 3) := by decide +kernel
theorem dX6_kindFrom_28 : decode cX6_kindFrom 28 = .ok (.goto 4, 3) := by decide +kernel
theorem dX6_kindFrom_31 : decode cX6_kindFrom 31 = .ok (.iconst 3, 1) := by decide +kernel
theorem dX6_kindFrom_32 : decode cX6_kindFrom 32 = .ok (.ireturn, 1) := by decide +kernel
theorem dX6_kindFrom_33 : decode cX6_kindFrom 33 = .ok (.iload_n 3, 1) := by decide +kernel
theorem dX6_kindFrom_34 : decode cX6_kindFrom 34 = .ok (.invokestatic 80, 3) := by decide +kernel
theorem dX6_kindFrom_37 : decode cX6_kindFrom 37 = .ok (.ifCond .eq 14, 3) := by decide +kernel
theorem dX6_kindFrom_40 : decode cX6_kindFrom 40 = .ok (.iload_n 2, 1) := by decide +kernel
theorem dX6_kindFrom_41 : decode cX6_kindFrom 41 = .ok (.iconst 3, 1) := by decide +kernel
theorem dX6_kindFrom_42 : decode cX6_kindFrom 42 = .ok (.if_icmp .gt 7, 3) := by decide +kernel
theorem dX6_kindFrom_45 : decode cX6_kindFrom 45 = .ok (.iconst 2, 1) := by decide +kernel
theorem dX6_kindFrom_46 : decode cX6_kindFrom 46 = .ok (.goto 4, 3) := by decide +kernel
theorem dX6_kindFrom_49 : decode cX6_kindFrom 49 = .ok (.iconst 3, 1) := by decide +kernel
theorem dX6_kindFrom_50 : decode cX6_kindFrom 50 = .ok (.ireturn, 1) := by decide +kernel
theorem dX6_kindFrom_51 : decode cX6_kindFrom 51 = .ok (.iload_n 3, 1) := by decide +kernel
theorem dX6_kindFrom_52 : decode cX6_kindFrom 52 = .ok (.bipush 59, 2) := by decide +kernel
theorem dX6_kindFrom_54 : decode cX6_kindFrom 54 = .ok (.if_icmp .eq 21, 3) := by decide +kernel
theorem dX6_kindFrom_57 : decode cX6_kindFrom 57 = .ok (.iload_n 3, 1) := by decide +kernel
theorem dX6_kindFrom_58 : decode cX6_kindFrom 58 = .ok (.bipush 44, 2) := by decide +kernel
theorem dX6_kindFrom_60 : decode cX6_kindFrom 60 = .ok (.if_icmp .eq 15, 3) := by decide +kernel
theorem dX6_kindFrom_63 : decode cX6_kindFrom 63 = .ok (.iload_n 3, 1) := by decide +kernel
theorem dX6_kindFrom_64 : decode cX6_kindFrom 64 = .ok (.bipush 40, 2) := by decide +kernel
theorem dX6_kindFrom_66 : decode cX6_kindFrom 66 = .ok (.if_icmp .eq 9, 3) := by decide +kernel
theorem dX6_kindFrom_69 : decode cX6_kindFrom 69 = .ok (.iload_n 3, 1) := by decide +kernel
theorem dX6_kindFrom_70 : decode cX6_kindFrom 70 = .ok (.bipush 41, 2) := by decide +kernel
theorem dX6_kindFrom_72 : decode cX6_kindFrom 72 = .ok (.if_icmp .ne 7, 3) := by decide +kernel
theorem dX6_kindFrom_75 : decode cX6_kindFrom 75 = .ok (.iload_n 3, 1) := by decide +kernel
theorem dX6_kindFrom_76 : decode cX6_kindFrom 76 = .ok (.goto 4, 3) := by decide +kernel
theorem dX6_kindFrom_79 : decode cX6_kindFrom 79 = .ok (.iconst 3, 1) := by decide +kernel
theorem dX6_kindFrom_80 : decode cX6_kindFrom 80 = .ok (.ireturn, 1) := by decide +kernel
theorem dX6_kindOfWord_0 : decode cX6_kindOfWord 0 = .ok (.iconst 0, 1) := by decide +kernel
theorem dX6_kindOfWord_1 : decode cX6_kindOfWord 1 = .ok (.istore_n 2, 1) := by decide +kernel
theorem dX6_kindOfWord_2 : decode cX6_kindOfWord 2 = .ok (.iload_n 2, 1) := by decide +kernel
theorem dX6_kindOfWord_3 : decode cX6_kindOfWord 3 = .ok (.getstatic 91, 3) := by decide +kernel
theorem dX6_kindOfWord_6 : decode cX6_kindOfWord 6 = .ok (.arraylength, 1) := by decide +kernel
theorem dX6_kindOfWord_7 : decode cX6_kindOfWord 7 = .ok (.if_icmp .ge 25, 3) := by decide +kernel
theorem dX6_kindOfWord_10 : decode cX6_kindOfWord 10 = .ok (.getstatic 91, 3) := by decide +kernel
theorem dX6_kindOfWord_13 : decode cX6_kindOfWord 13 = .ok (.iload_n 2, 1) := by decide +kernel
theorem dX6_kindOfWord_14 : decode cX6_kindOfWord 14 = .ok (.laload, 1) := by decide +kernel
theorem dX6_kindOfWord_15 : decode cX6_kindOfWord 15 = .ok (.lload_n 0, 1) := by decide +kernel
theorem dX6_kindOfWord_16 : decode cX6_kindOfWord 16 = .ok (.lcmp, 1) := by decide +kernel
theorem dX6_kindOfWord_17 : decode cX6_kindOfWord 17 = .ok (.ifCond .ne 9, 3) := by decide +kernel
theorem dX6_kindOfWord_20 : decode cX6_kindOfWord 20 = .ok (.sipush 256, 3) := by decide +kernel
theorem dX6_kindOfWord_23 : decode cX6_kindOfWord 23 = .ok (.iload_n 2, 1) := by decide +kernel
theorem dX6_kindOfWord_24 : decode cX6_kindOfWord 24 = .ok (.iadd, 1) := by decide +kernel
theorem dX6_kindOfWord_25 : decode cX6_kindOfWord 25 = .ok (.ireturn, 1) := by decide +kernel
theorem dX6_kindOfWord_26 : decode cX6_kindOfWord 26 = .ok (.iinc 2 1, 3) := by decide +kernel
theorem dX6_kindOfWord_29 : decode cX6_kindOfWord 29 = .ok (.goto (-27), 3) := by decide +kernel
theorem dX6_kindOfWord_32 : decode cX6_kindOfWord 32 = .ok (.iconst 1, 1) := by decide +kernel
theorem dX6_kindOfWord_33 : decode cX6_kindOfWord 33 = .ok (.ireturn, 1) := by decide +kernel
theorem dX6_byteAt_0 : decode cX6_byteAt 0 = .ok (.iload_n 1, 1) := by decide +kernel
theorem dX6_byteAt_1 : decode cX6_byteAt 1 = .ok (.ifCond .lt 27, 3) := by decide +kernel
theorem dX6_byteAt_4 : decode cX6_byteAt 4 = .ok (.iload_n 1, 1) := by decide +kernel
theorem dX6_byteAt_5 : decode cX6_byteAt 5 = .ok (.aload_n 0, 1) := by decide +kernel
theorem dX6_byteAt_6 : decode cX6_byteAt 6 = .ok (.getfield 36, 3) := by decide +kernel
theorem dX6_byteAt_9 : decode cX6_byteAt 9 = .ok (.if_icmp .ge 19, 3) := by decide +kernel
theorem dX6_byteAt_12 : decode cX6_byteAt 12 = .ok (.iload_n 1, 1) := by decide +kernel
theorem dX6_byteAt_13 : decode cX6_byteAt 13 = .ok (.sipush 900, 3) := by decide +kernel
theorem dX6_byteAt_16 : decode cX6_byteAt 16 = .ok (.if_icmp .ge 12, 3) := by decide +kernel
theorem dX6_byteAt_19 : decode cX6_byteAt 19 = .ok (.aload_n 0, 1) := by decide +kernel
theorem dX6_byteAt_20 : decode cX6_byteAt 20 = .ok (.getfield 9, 3) := by decide +kernel
theorem dX6_byteAt_23 : decode cX6_byteAt 23 = .ok (.iload_n 1, 1) := by decide +kernel
theorem dX6_byteAt_24 : decode cX6_byteAt 24 = .ok (.baload, 1) := by decide +kernel
theorem dX6_byteAt_25 : decode cX6_byteAt 25 = .ok (.goto 4, 3) := by decide +kernel
theorem dX6_byteAt_28 : decode cX6_byteAt 28 = .ok (.iconst 0, 1) := by decide +kernel
theorem dX6_byteAt_29 : decode cX6_byteAt 29 = .ok (.ireturn, 1) := by decide +kernel
theorem dX6_isLetter_0 : decode cX6_isLetter 0 = .ok (.iload_n 0, 1) := by decide +kernel
theorem dX6_isLetter_1 : decode cX6_isLetter 1 = .ok (.bipush 97, 2) := by decide +kernel
theorem dX6_isLetter_3 : decode cX6_isLetter 3 = .ok (.if_icmp .lt 13, 3) := by decide +kernel
theorem dX6_isLetter_6 : decode cX6_isLetter 6 = .ok (.iload_n 0, 1) := by decide +kernel
theorem dX6_isLetter_7 : decode cX6_isLetter 7 = .ok (.bipush 122, 2) := by decide +kernel
theorem dX6_isLetter_9 : decode cX6_isLetter 9 = .ok (.if_icmp .gt 7, 3) := by decide +kernel
theorem dX6_isLetter_12 : decode cX6_isLetter 12 = .ok (.iconst 1, 1) := by decide +kernel
theorem dX6_isLetter_13 : decode cX6_isLetter 13 = .ok (.goto 4, 3) := by decide +kernel
theorem dX6_isLetter_16 : decode cX6_isLetter 16 = .ok (.iconst 0, 1) := by decide +kernel
theorem dX6_isLetter_17 : decode cX6_isLetter 17 = .ok (.ireturn, 1) := by decide +kernel
theorem dX6_isDigit_0 : decode cX6_isDigit 0 = .ok (.iload_n 0, 1) := by decide +kernel
theorem dX6_isDigit_1 : decode cX6_isDigit 1 = .ok (.bipush 48, 2) := by decide +kernel
theorem dX6_isDigit_3 : decode cX6_isDigit 3 = .ok (.if_icmp .lt 13, 3) := by decide +kernel
theorem dX6_isDigit_6 : decode cX6_isDigit 6 = .ok (.iload_n 0, 1) := by decide +kernel
theorem dX6_isDigit_7 : decode cX6_isDigit 7 = .ok (.bipush 57, 2) := by decide +kernel
theorem dX6_isDigit_9 : decode cX6_isDigit 9 = .ok (.if_icmp .gt 7, 3) := by decide +kernel
theorem dX6_isDigit_12 : decode cX6_isDigit 12 = .ok (.iconst 1, 1) := by decide +kernel
theorem dX6_isDigit_13 : decode cX6_isDigit 13 = .ok (.goto 4, 3) := by decide +kernel
theorem dX6_isDigit_16 : decode cX6_isDigit 16 = .ok (.iconst 0, 1) := by decide +kernel
theorem dX6_isDigit_17 : decode cX6_isDigit 17 = .ok (.ireturn, 1) := by decide +kernel
theorem dX7_init_0 : decode cX7_init 0 = .ok (.aload_n 0, 1) := by decide +kernel
theorem dX7_init_1 : decode cX7_init 1 = .ok (.invokespecial 3, 3) := by decide +kernel
theorem dX7_init_4 : decode cX7_init 4 = .ok (.aload_n 0, 1) := by decide +kernel
theorem dX7_init_5 : decode cX7_init 5 = .ok (.bipush 20, 2) := by decide +kernel
theorem dX7_init_7 : decode cX7_init 7 = .ok (.newarray .int, 2) := by decide +kernel
theorem dX7_init_9 : decode cX7_init 9 = .ok (.putfield 9, 3) := by decide +kernel
theorem dX7_init_12 : decode cX7_init 12 = .ok (.aload_n 0, 1) := by decide +kernel
theorem dX7_init_13 : decode cX7_init 13 = .ok (.bipush 20, 2) := by decide +kernel
theorem dX7_init_15 : decode cX7_init 15 = .ok (.newarray .int, 2) := by decide +kernel
theorem dX7_init_17 : decode cX7_init 17 = .ok (.putfield 15, 3) := by decide +kernel
theorem dX7_init_20 : decode cX7_init 20 = .ok (.aload_n 0, 1) := by decide +kernel
theorem dX7_init_21 : decode cX7_init 21 = .ok (.bipush 20, 2) := by decide +kernel
theorem dX7_init_23 : decode cX7_init 23 = .ok (.newarray .boolean, 2) := by decide +kernel
theorem dX7_init_25 : decode cX7_init 25 = .ok (.putfield 18, 3) := by decide +kernel
theorem dX7_init_28 : decode cX7_init 28 = .ok (.aload_n 0, 1) := by decide +kernel
theorem dX7_init_29 : decode cX7_init 29 = .ok (.bipush 6, 2) := by decide +kernel
theorem dX7_init_31 : decode cX7_init 31 = .ok (.newarray .int, 2) := by decide +kernel
theorem dX7_init_33 : decode cX7_init 33 = .ok (.putfield 22, 3) := by decide +kernel
theorem dX7_init_36 : decode cX7_init 36 = .ok (.return_, 1) := by decide +kernel
theorem dX7_clear_0 : decode cX7_clear 0 = .ok (.aload_n 0, 1) := by decide +kernel
theorem dX7_clear_1 : decode cX7_clear 1 = .ok (.iconst 0, 1) := by decide +kernel
theorem dX7_clear_2 : decode cX7_clear 2 = .ok (.putfield 25, 3) := by decide +kernel
theorem dX7_clear_5 : decode cX7_clear 5 = .ok (.aload_n 0, 1) := by decide +kernel
theorem dX7_clear_6 : decode cX7_clear 6 = .ok (.iconst 0, 1) := by decide +kernel
theorem dX7_clear_7 : decode cX7_clear 7 = .ok (.putfield 29, 3) := by decide +kernel
theorem dX7_clear_10 : decode cX7_clear 10 = .ok (.aload_n 0, 1) := by decide +kernel
theorem dX7_clear_11 : decode cX7_clear 11 = .ok (.iconst 0, 1) := by decide +kernel
theorem dX7_clear_12 : decode cX7_clear 12 = .ok (.putfield 32, 3) := by decide +kernel
theorem dX7_clear_15 : decode cX7_clear 15 = .ok (.iconst 0, 1) := by decide +kernel
theorem dX7_clear_16 : decode cX7_clear 16 = .ok (.istore_n 1, 1) := by decide +kernel
theorem dX7_clear_17 : decode cX7_clear 17 = .ok (.iload_n 1, 1) := by decide +kernel
theorem dX7_clear_18 : decode cX7_clear 18 = .ok (.bipush 6, 2) := by decide +kernel
theorem dX7_clear_20 : decode cX7_clear 20 = .ok (.if_icmp .ge 16, 3) := by decide +kernel
theorem dX7_clear_23 : decode cX7_clear 23 = .ok (.aload_n 0, 1) := by decide +kernel
theorem dX7_clear_24 : decode cX7_clear 24 = .ok (.getfield 22, 3) := by decide +kernel
theorem dX7_clear_27 : decode cX7_clear 27 = .ok (.iload_n 1, 1) := by decide +kernel
theorem dX7_clear_28 : decode cX7_clear 28 = .ok (.iconst 0, 1) := by decide +kernel
theorem dX7_clear_29 : decode cX7_clear 29 = .ok (.iastore, 1) := by decide +kernel
theorem dX7_clear_30 : decode cX7_clear 30 = .ok (.iinc 1 1, 3) := by decide +kernel
theorem dX7_clear_33 : decode cX7_clear 33 = .ok (.goto (-16), 3) := by decide +kernel
theorem dX7_clear_36 : decode cX7_clear 36 = .ok (.return_, 1) := by decide +kernel
theorem dX7_copyOf_0 : decode cX7_copyOf 0 = .ok (.aload_n 0, 1) := by decide +kernel
theorem dX7_copyOf_1 : decode cX7_copyOf 1 = .ok (.aload_n 1, 1) := by decide +kernel
theorem dX7_copyOf_2 : decode cX7_copyOf 2 = .ok (.getfield 25, 3) := by decide +kernel
theorem dX7_copyOf_5 : decode cX7_copyOf 5 = .ok (.putfield 25, 3) := by decide +kernel
theorem dX7_copyOf_8 : decode cX7_copyOf 8 = .ok (.aload_n 0, 1) := by decide +kernel
theorem dX7_copyOf_9 : decode cX7_copyOf 9 = .ok (.aload_n 1, 1) := by decide +kernel
theorem dX7_copyOf_10 : decode cX7_copyOf 10 = .ok (.getfield 29, 3) := by decide +kernel
theorem dX7_copyOf_13 : decode cX7_copyOf 13 = .ok (.putfield 29, 3) := by decide +kernel
theorem dX7_copyOf_16 : decode cX7_copyOf 16 = .ok (.aload_n 0, 1) := by decide +kernel
theorem dX7_copyOf_17 : decode cX7_copyOf 17 = .ok (.aload_n 1, 1) := by decide +kernel
theorem dX7_copyOf_18 : decode cX7_copyOf 18 = .ok (.getfield 32, 3) := by decide +kernel
theorem dX7_copyOf_21 : decode cX7_copyOf 21 = .ok (.putfield 32, 3) := by decide +kernel
theorem dX7_copyOf_24 : decode cX7_copyOf 24 = .ok (.iconst 0, 1) := by decide +kernel
theorem dX7_copyOf_25 : decode cX7_copyOf 25 = .ok (.istore_n 2, 1) := by decide +kernel
theorem dX7_copyOf_26 : decode cX7_copyOf 26 = .ok (.iload_n 2, 1) := by decide +kernel
theorem dX7_copyOf_27 : decode cX7_copyOf 27 = .ok (.bipush 20, 2) := by decide +kernel
theorem dX7_copyOf_29 : decode cX7_copyOf 29 = .ok (.if_icmp .ge 45, 3) := by decide +kernel
theorem dX7_copyOf_32 : decode cX7_copyOf 32 = .ok (.aload_n 0, 1) := by decide +kernel
theorem dX7_copyOf_33 : decode cX7_copyOf 33 = .ok (.getfield 9, 3) := by decide +kernel
theorem dX7_copyOf_36 : decode cX7_copyOf 36 = .ok (.iload_n 2, 1) := by decide +kernel
theorem dX7_copyOf_37 : decode cX7_copyOf 37 = .ok (.aload_n 1, 1) := by decide +kernel
theorem dX7_copyOf_38 : decode cX7_copyOf 38 = .ok (.getfield 9, 3) := by decide +kernel
theorem dX7_copyOf_41 : decode cX7_copyOf 41 = .ok (.iload_n 2, 1) := by decide +kernel
theorem dX7_copyOf_42 : decode cX7_copyOf 42 = .ok (.iaload, 1) := by decide +kernel
theorem dX7_copyOf_43 : decode cX7_copyOf 43 = .ok (.iastore, 1) := by decide +kernel
theorem dX7_copyOf_44 : decode cX7_copyOf 44 = .ok (.aload_n 0, 1) := by decide +kernel
theorem dX7_copyOf_45 : decode cX7_copyOf 45 = .ok (.getfield 15, 3) := by decide +kernel
theorem dX7_copyOf_48 : decode cX7_copyOf 48 = .ok (.iload_n 2, 1) := by decide +kernel
theorem dX7_copyOf_49 : decode cX7_copyOf 49 = .ok (.aload_n 1, 1) := by decide +kernel
theorem dX7_copyOf_50 : decode cX7_copyOf 50 = .ok (.getfield 15, 3) := by decide +kernel
theorem dX7_copyOf_53 : decode cX7_copyOf 53 = .ok (.iload_n 2, 1) := by decide +kernel
theorem dX7_copyOf_54 : decode cX7_copyOf 54 = .ok (.iaload, 1) := by decide +kernel
theorem dX7_copyOf_55 : decode cX7_copyOf 55 = .ok (.iastore, 1) := by decide +kernel
theorem dX7_copyOf_56 : decode cX7_copyOf 56 = .ok (.aload_n 0, 1) := by decide +kernel
theorem dX7_copyOf_57 : decode cX7_copyOf 57 = .ok (.getfield 18, 3) := by decide +kernel
theorem dX7_copyOf_60 : decode cX7_copyOf 60 = .ok (.iload_n 2, 1) := by decide +kernel
theorem dX7_copyOf_61 : decode cX7_copyOf 61 = .ok (.aload_n 1, 1) := by decide +kernel
theorem dX7_copyOf_62 : decode cX7_copyOf 62 = .ok (.getfield 18, 3) := by decide +kernel
theorem dX7_copyOf_65 : decode cX7_copyOf 65 = .ok (.iload_n 2, 1) := by decide +kernel
theorem dX7_copyOf_66 : decode cX7_copyOf 66 = .ok (.baload, 1) := by decide +kernel
theorem dX7_copyOf_67 : decode cX7_copyOf 67 = .ok (.bastore, 1) := by decide +kernel
theorem dX7_copyOf_68 : decode cX7_copyOf 68 = .ok (.iinc 2 1, 3) := by decide +kernel
theorem dX7_copyOf_71 : decode cX7_copyOf 71 = .ok (.goto (-45), 3) := by decide +kernel
theorem dX7_copyOf_74 : decode cX7_copyOf 74 = .ok (.iconst 0, 1) := by decide +kernel
theorem dX7_copyOf_75 : decode cX7_copyOf 75 = .ok (.istore_n 2, 1) := by decide +kernel
theorem dX7_copyOf_76 : decode cX7_copyOf 76 = .ok (.iload_n 2, 1) := by decide +kernel
theorem dX7_copyOf_77 : decode cX7_copyOf 77 = .ok (.bipush 6, 2) := by decide +kernel
theorem dX7_copyOf_79 : decode cX7_copyOf 79 = .ok (.if_icmp .ge 21, 3) := by decide +kernel
theorem dX7_copyOf_82 : decode cX7_copyOf 82 = .ok (.aload_n 0, 1) := by decide +kernel
theorem dX7_copyOf_83 : decode cX7_copyOf 83 = .ok (.getfield 22, 3) := by decide +kernel
theorem dX7_copyOf_86 : decode cX7_copyOf 86 = .ok (.iload_n 2, 1) := by decide +kernel
theorem dX7_copyOf_87 : decode cX7_copyOf 87 = .ok (.aload_n 1, 1) := by decide +kernel
theorem dX7_copyOf_88 : decode cX7_copyOf 88 = .ok (.getfield 22, 3) := by decide +kernel
theorem dX7_copyOf_91 : decode cX7_copyOf 91 = .ok (.iload_n 2, 1) := by decide +kernel
theorem dX7_copyOf_92 : decode cX7_copyOf 92 = .ok (.iaload, 1) := by decide +kernel
theorem dX7_copyOf_93 : decode cX7_copyOf 93 = .ok (.iastore, 1) := by decide +kernel
theorem dX7_copyOf_94 : decode cX7_copyOf 94 = .ok (.iinc 2 1, 3) := by decide +kernel
theorem dX7_copyOf_97 : decode cX7_copyOf 97 = .ok (.goto (-21), 3) := by decide +kernel
theorem dX7_copyOf_100 : decode cX7_copyOf 100 = .ok (.return_, 1) := by decide +kernel
theorem dX7_add_0 : decode cX7_add 0 = .ok (.aload_n 0, 1) := by decide +kernel
theorem dX7_add_1 : decode cX7_add 1 = .ok (.getfield 25, 3) := by decide +kernel
theorem dX7_add_4 : decode cX7_add 4 = .ok (.ifCond .lt 12, 3) := by decide +kernel
theorem dX7_add_7 : decode cX7_add 7 = .ok (.aload_n 0, 1) := by decide +kernel
theorem dX7_add_8 : decode cX7_add 8 = .ok (.getfield 25, 3) := by decide +kernel
theorem dX7_add_11 : decode cX7_add 11 = .ok (.bipush 20, 2) := by decide +kernel
theorem dX7_add_13 : decode cX7_add 13 = .ok (.if_icmp .lt 4, 3) := by decide +kernel
theorem dX7_add_16 : decode cX7_add 16 = .ok (.return_, 1) := by decide +kernel
theorem dX7_add_17 : decode cX7_add 17 = .ok (.aload_n 0, 1) := by decide +kernel
theorem dX7_add_18 : decode cX7_add 18 = .ok (.getfield 9, 3) := by decide +kernel
theorem dX7_add_21 : decode cX7_add 21 = .ok (.aload_n 0, 1) := by decide +kernel
theorem dX7_add_22 : decode cX7_add 22 = .ok (.getfield 25, 3) := by decide +kernel
theorem dX7_add_25 : decode cX7_add 25 = .ok (.iload_n 1, 1) := by decide +kernel
theorem dX7_add_26 : decode cX7_add 26 = .ok (.iastore, 1) := by decide +kernel
theorem dX7_add_27 : decode cX7_add 27 = .ok (.aload_n 0, 1) := by decide +kernel
theorem dX7_add_28 : decode cX7_add 28 = .ok (.getfield 15, 3) := by decide +kernel
theorem dX7_add_31 : decode cX7_add 31 = .ok (.aload_n 0, 1) := by decide +kernel
theorem dX7_add_32 : decode cX7_add 32 = .ok (.getfield 25, 3) := by decide +kernel
theorem dX7_add_35 : decode cX7_add 35 = .ok (.iload_n 2, 1) := by decide +kernel
theorem dX7_add_36 : decode cX7_add 36 = .ok (.iastore, 1) := by decide +kernel
theorem dX7_add_37 : decode cX7_add 37 = .ok (.aload_n 0, 1) := by decide +kernel
theorem dX7_add_38 : decode cX7_add 38 = .ok (.getfield 18, 3) := by decide +kernel
theorem dX7_add_41 : decode cX7_add 41 = .ok (.aload_n 0, 1) := by decide +kernel
theorem dX7_add_42 : decode cX7_add 42 = .ok (.getfield 25, 3) := by decide +kernel
theorem dX7_add_45 : decode cX7_add 45 = .ok (.iload_n 3, 1) := by decide +kernel
theorem dX7_add_46 : decode cX7_add 46 = .ok (.bastore, 1) := by decide +kernel
theorem dX7_add_47 : decode cX7_add 47 = .ok (.aload_n 0, 1) := by decide +kernel
theorem dX7_add_48 : decode cX7_add 48 = .ok (.dup, 1) := by decide +kernel
theorem dX7_add_49 : decode cX7_add 49 = .ok (.getfield 25, 3) := by decide +kernel
theorem dX7_add_52 : decode cX7_add 52 = .ok (.iconst 1, 1) := by decide +kernel
theorem dX7_add_53 : decode cX7_add 53 = .ok (.iadd, 1) := by decide +kernel
theorem dX7_add_54 : decode cX7_add 54 = .ok (.putfield 25, 3) := by decide +kernel
theorem dX7_add_57 : decode cX7_add 57 = .ok (.return_, 1) := by decide +kernel
theorem dX7_yesBy_0 : decode cX7_yesBy 0 = .ok (.iconst 0, 1) := by decide +kernel
theorem dX7_yesBy_1 : decode cX7_yesBy 1 = .ok (.istore_n 2, 1) := by decide +kernel
theorem dX7_yesBy_2 : decode cX7_yesBy 2 = .ok (.iconst 0, 1) := by decide +kernel
theorem dX7_yesBy_3 : decode cX7_yesBy 3 = .ok (.istore_n 3, 1) := by decide +kernel
theorem dX7_yesBy_4 : decode cX7_yesBy 4 = .ok (.iload_n 3, 1) := by decide +kernel
theorem dX7_yesBy_5 : decode cX7_yesBy 5 = .ok (.aload_n 0, 1) := by decide +kernel
theorem dX7_yesBy_6 : decode cX7_yesBy 6 = .ok (.getfield 25, 3) := by decide +kernel
theorem dX7_yesBy_9 : decode cX7_yesBy 9 = .ok (.if_icmp .ge 37, 3) := by decide +kernel
theorem dX7_yesBy_12 : decode cX7_yesBy 12 = .ok (.iload_n 3, 1) := by decide +kernel
theorem dX7_yesBy_13 : decode cX7_yesBy 13 = .ok (.bipush 20, 2) := by decide +kernel
theorem dX7_yesBy_15 : decode cX7_yesBy 15 = .ok (.if_icmp .ge 31, 3) := by decide +kernel
theorem dX7_yesBy_18 : decode cX7_yesBy 18 = .ok (.aload_n 0, 1) := by decide +kernel
theorem dX7_yesBy_19 : decode cX7_yesBy 19 = .ok (.getfield 9, 3) := by decide +kernel
theorem dX7_yesBy_22 : decode cX7_yesBy 22 = .ok (.iload_n 3, 1) := by decide +kernel
theorem dX7_yesBy_23 : decode cX7_yesBy 23 = .ok (.iaload, 1) := by decide +kernel
theorem dX7_yesBy_24 : decode cX7_yesBy 24 = .ok (.iload_n 1, 1) := by decide +kernel
theorem dX7_yesBy_25 : decode cX7_yesBy 25 = .ok (.if_icmp .ne 15, 3) := by decide +kernel
theorem dX7_yesBy_28 : decode cX7_yesBy 28 = .ok (.aload_n 0, 1) := by decide +kernel
theorem dX7_yesBy_29 : decode cX7_yesBy 29 = .ok (.getfield 18, 3) := by decide +kernel
theorem dX7_yesBy_32 : decode cX7_yesBy 32 = .ok (.iload_n 3, 1) := by decide +kernel
theorem dX7_yesBy_33 : decode cX7_yesBy 33 = .ok (.baload, 1) := by decide +kernel
theorem dX7_yesBy_34 : decode cX7_yesBy 34 = .ok (.ifCond .eq 6, 3) := by decide +kernel
theorem dX7_yesBy_37 : decode cX7_yesBy 37 = .ok (.iinc 2 1, 3) := by decide +kernel
theorem dX7_yesBy_40 : decode cX7_yesBy 40 = .ok (.iinc 3 1, 3) := by decide +kernel
theorem dX7_yesBy_43 : decode cX7_yesBy 43 = .ok (.goto (-39), 3) := by decide +kernel
theorem dX7_yesBy_46 : decode cX7_yesBy 46 = .ok (.iload_n 2, 1) := by decide +kernel
theorem dX7_yesBy_47 : decode cX7_yesBy 47 = .ok (.ireturn, 1) := by decide +kernel
theorem dX7_areWed_0 : decode cX7_areWed 0 = .ok (.iload_n 1, 1) := by decide +kernel
theorem dX7_areWed_1 : decode cX7_areWed 1 = .ok (.ifCond .lt 28, 3) := by decide +kernel
theorem dX7_areWed_4 : decode cX7_areWed 4 = .ok (.iload_n 1, 1) := by decide +kernel
theorem dX7_areWed_5 : decode cX7_areWed 5 = .ok (.bipush 6, 2) := by decide +kernel
theorem dX7_areWed_7 : decode cX7_areWed 7 = .ok (.if_icmp .ge 22, 3) := by decide +kernel
theorem dX7_areWed_10 : decode cX7_areWed 10 = .ok (.aload_n 0, 1) := by decide +kernel
theorem dX7_areWed_11 : decode cX7_areWed 11 = .ok (.getfield 22, 3) := by decide +kernel
theorem dX7_areWed_14 : decode cX7_areWed 14 = .ok (.iload_n 1, 1) := by decide +kernel
theorem dX7_areWed_15 : decode cX7_areWed 15 = .ok (.iaload, 1) := by decide +kernel
theorem dX7_areWed_16 : decode cX7_areWed 16 = .ok (.i2l, 1) := by decide +kernel
theorem dX7_areWed_17 : decode cX7_areWed 17 = .ok (.iload_n 2, 1) := by decide +kernel
theorem dX7_areWed_18 : decode cX7_areWed 18 = .ok (.invokestatic 35, 3) := by decide +kernel
theorem dX7_areWed_21 : decode cX7_areWed 21 = .ok (.iconst 1, 1) := by decide +kernel
theorem dX7_areWed_22 : decode cX7_areWed 22 = .ok (.if_icmp .ne 7, 3) := by decide +kernel
theorem dX7_areWed_25 : decode cX7_areWed 25 = .ok (.iconst 1, 1) := by decide +kernel
theorem dX7_areWed_26 : decode cX7_areWed 26 = .ok (.goto 4, 3) := by decide +kernel
theorem dX7_areWed_29 : decode cX7_areWed 29 = .ok (.iconst 0, 1) := by decide +kernel
theorem dX7_areWed_30 : decode cX7_areWed 30 = .ok (.ireturn, 1) := by decide +kernel
theorem dX7_marry_0 : decode cX7_marry 0 = .ok (.aload_n 0, 1) := by decide +kernel
theorem dX7_marry_1 : decode cX7_marry 1 = .ok (.iload_n 1, 1) := by decide +kernel
theorem dX7_marry_2 : decode cX7_marry 2 = .ok (.iload_n 2, 1) := by decide +kernel
theorem dX7_marry_3 : decode cX7_marry 3 = .ok (.invokevirtual 39, 3) := by decide +kernel
theorem dX7_marry_6 : decode cX7_marry 6 = .ok (.ifCond .ne 19, 3) := by decide +kernel
theorem dX7_marry_9 : decode cX7_marry 9 = .ok (.aload_n 0, 1) := by decide +kernel
theorem dX7_marry_10 : decode cX7_marry 10 = .ok (.iload_n 1, 1) := by decide +kernel
theorem dX7_marry_11 : decode cX7_marry 11 = .ok (.iload_n 2, 1) := by decide +kernel
theorem dX7_marry_12 : decode cX7_marry 12 = .ok (.invokevirtual 43, 3) := by decide +kernel
theorem dX7_marry_15 : decode cX7_marry 15 = .ok (.aload_n 0, 1) := by decide +kernel
theorem dX7_marry_16 : decode cX7_marry 16 = .ok (.dup, 1) := by decide +kernel
theorem dX7_marry_17 : decode cX7_marry 17 = .ok (.getfield 29, 3) := by decide +kernel
theorem dX7_marry_20 : decode cX7_marry 20 = .ok (.iconst 1, 1) := by decide +kernel
theorem dX7_marry_21 : decode cX7_marry 21 = .ok (.iadd, 1) := by decide +kernel
theorem dX7_marry_22 : decode cX7_marry 22 = .ok (.putfield 29, 3) := by decide +kernel
theorem dX7_marry_25 : decode cX7_marry 25 = .ok (.return_, 1) := by decide +kernel
theorem dX7_unwed_0 : decode cX7_unwed 0 = .ok (.aload_n 0, 1) := by decide +kernel
theorem dX7_unwed_1 : decode cX7_unwed 1 = .ok (.iload_n 1, 1) := by decide +kernel
theorem dX7_unwed_2 : decode cX7_unwed 2 = .ok (.iload_n 2, 1) := by decide +kernel
theorem dX7_unwed_3 : decode cX7_unwed 3 = .ok (.invokevirtual 39, 3) := by decide +kernel
theorem dX7_unwed_6 : decode cX7_unwed 6 = .ok (.ifCond .eq 19, 3) := by decide +kernel
theorem dX7_unwed_9 : decode cX7_unwed 9 = .ok (.aload_n 0, 1) := by decide +kernel
theorem dX7_unwed_10 : decode cX7_unwed 10 = .ok (.iload_n 1, 1) := by decide +kernel
theorem dX7_unwed_11 : decode cX7_unwed 11 = .ok (.iload_n 2, 1) := by decide +kernel
theorem dX7_unwed_12 : decode cX7_unwed 12 = .ok (.invokevirtual 43, 3) := by decide +kernel
theorem dX7_unwed_15 : decode cX7_unwed 15 = .ok (.aload_n 0, 1) := by decide +kernel
theorem dX7_unwed_16 : decode cX7_unwed 16 = .ok (.dup, 1) := by decide +kernel
theorem dX7_unwed_17 : decode cX7_unwed 17 = .ok (.getfield 29, 3) := by decide +kernel
theorem dX7_unwed_20 : decode cX7_unwed 20 = .ok (.iconst 1, 1) := by decide +kernel
theorem dX7_unwed_21 : decode cX7_unwed 21 = .ok (.isub, 1) := by decide +kernel
theorem dX7_unwed_22 : decode cX7_unwed 22 = .ok (.putfield 29, 3) := by decide +kernel
theorem dX7_unwed_25 : decode cX7_unwed 25 = .ok (.return_, 1) := by decide +kernel
theorem dX7_turnWedding_0 : decode cX7_turnWedding 0 = .ok (.iload_n 1, 1) := by decide +kernel
theorem dX7_turnWedding_1 : decode cX7_turnWedding 1 = .ok (.ifCond .lt 43, 3) := by decide +kernel
theorem dX7_turnWedding_4 : decode cX7_turnWedding 4 = .ok (.iload_n 1, 1) := by decide +kernel
theorem dX7_turnWedding_5 : decode cX7_turnWedding 5 = .ok (.bipush 6, 2) := by decide +kernel
theorem dX7_turnWedding_7 : decode cX7_turnWedding 7 = .ok (.if_icmp .ge 37, 3) := by decide +kernel
theorem dX7_turnWedding_10 : decode cX7_turnWedding 10 = .ok (.iload_n 2, 1) := by decide +kernel
theorem dX7_turnWedding_11 : decode cX7_turnWedding 11 = .ok (.ifCond .lt 33, 3) := by decide +kernel
theorem dX7_turnWedding_14 : decode cX7_turnWedding 14 = .ok (.iload_n 2, 1) := by decide +kernel
theorem dX7_turnWedding_15 : decode cX7_turnWedding 15 = .ok (.bipush 6, 2) := by decide +kernel
theorem dX7_turnWedding_17 : decode cX7_turnWedding 17 = .ok (.if_icmp .ge 27, 3) := by decide +kernel
theorem dX7_turnWedding_20 : decode cX7_turnWedding 20 = .ok (.aload_n 0, 1) := by decide +kernel
theorem dX7_turnWedding_21 : decode cX7_turnWedding 21 = .ok (.getfield 22, 3) := by decide +kernel
theorem dX7_turnWedding_24 : decode cX7_turnWedding 24 = .ok (.iload_n 1, 1) := by decide +kernel
theorem dX7_turnWedding_25 : decode cX7_turnWedding 25 = .ok (.dup2, 1) := by decide +kernel
theorem dX7_turnWedding_26 : decode cX7_turnWedding 26 = .ok (.iaload, 1) := by decide +kernel
theorem dX7_turnWedding_27 : decode cX7_turnWedding 27 = .ok (.iconst 1, 1) := by decide +kernel
theorem dX7_turnWedding_28 : decode cX7_turnWedding 28 = .ok (.iload_n 2, 1) := by decide +kernel
theorem dX7_turnWedding_29 : decode cX7_turnWedding 29 = .ok (.ishl, 1) := by decide +kernel
theorem dX7_turnWedding_30 : decode cX7_turnWedding 30 = .ok (.ixor, 1) := by decide +kernel
theorem dX7_turnWedding_31 : decode cX7_turnWedding 31 = .ok (.iastore, 1) := by decide +kernel
theorem dX7_turnWedding_32 : decode cX7_turnWedding 32 = .ok (.aload_n 0, 1) := by decide +kernel
theorem dX7_turnWedding_33 : decode cX7_turnWedding 33 = .ok (.getfield 22, 3) := by decide +kernel
theorem dX7_turnWedding_36 : decode cX7_turnWedding 36 = .ok (.iload_n 2, 1) := by decide +kernel
theorem dX7_turnWedding_37 : decode cX7_turnWedding 37 = .ok (.dup2, 1) := by decide +kernel
theorem dX7_turnWedding_38 : decode cX7_turnWedding 38 = .ok (.iaload, 1) := by decide +kernel
theorem dX7_turnWedding_39 : decode cX7_turnWedding 39 = .ok (.iconst 1, 1) := by decide +kernel
theorem dX7_turnWedding_40 : decode cX7_turnWedding 40 = .ok (.iload_n 1, 1) := by decide +kernel
theorem dX7_turnWedding_41 : decode cX7_turnWedding 41 = .ok (.ishl, 1) := by decide +kernel
theorem dX7_turnWedding_42 : decode cX7_turnWedding 42 = .ok (.ixor, 1) := by decide +kernel
theorem dX7_turnWedding_43 : decode cX7_turnWedding 43 = .ok (.iastore, 1) := by decide +kernel
theorem dX7_turnWedding_44 : decode cX7_turnWedding 44 = .ok (.return_, 1) := by decide +kernel
theorem dX7_kinOf_0 : decode cX7_kinOf 0 = .ok (.iconst 1, 1) := by decide +kernel
theorem dX7_kinOf_1 : decode cX7_kinOf 1 = .ok (.iload_n 1, 1) := by decide +kernel
theorem dX7_kinOf_2 : decode cX7_kinOf 2 = .ok (.ishl, 1) := by decide +kernel
theorem dX7_kinOf_3 : decode cX7_kinOf 3 = .ok (.istore_n 2, 1) := by decide +kernel
theorem dX7_kinOf_4 : decode cX7_kinOf 4 = .ok (.iconst 1, 1) := by decide +kernel
theorem dX7_kinOf_5 : decode cX7_kinOf 5 = .ok (.istore_n 3, 1) := by decide +kernel
theorem dX7_kinOf_6 : decode cX7_kinOf 6 = .ok (.iload_n 3, 1) := by decide +kernel
theorem dX7_kinOf_7 : decode cX7_kinOf 7 = .ok (.bipush 6, 2) := by decide +kernel
theorem dX7_kinOf_9 : decode cX7_kinOf 9 = .ok (.if_icmp .ge 46, 3) := by decide +kernel
theorem dX7_kinOf_12 : decode cX7_kinOf 12 = .ok (.iconst 0, 1) := by decide +kernel
theorem dX7_kinOf_13 : decode cX7_kinOf 13 = .ok (.istore 4, 2) := by decide +kernel
theorem dX7_kinOf_15 : decode cX7_kinOf 15 = .ok (.iload 4, 2) := by decide +kernel
theorem dX7_kinOf_17 : decode cX7_kinOf 17 = .ok (.bipush 6, 2) := by decide +kernel
theorem dX7_kinOf_19 : decode cX7_kinOf 19 = .ok (.if_icmp .ge 30, 3) := by decide +kernel
theorem dX7_kinOf_22 : decode cX7_kinOf 22 = .ok (.iload_n 2, 1) := by decide +kernel
theorem dX7_kinOf_23 : decode cX7_kinOf 23 = .ok (.i2l, 1) := by decide +kernel
theorem dX7_kinOf_24 : decode cX7_kinOf 24 = .ok (.iload 4, 2) := by decide +kernel
theorem dX7_kinOf_26 : decode cX7_kinOf 26 = .ok (.invokestatic 35, 3) := by decide +kernel
theorem dX7_kinOf_29 : decode cX7_kinOf 29 = .ok (.iconst 1, 1) := by decide +kernel
theorem dX7_kinOf_30 : decode cX7_kinOf 30 = .ok (.if_icmp .ne 13, 3) := by decide +kernel
theorem dX7_kinOf_33 : decode cX7_kinOf 33 = .ok (.iload_n 2, 1) := by decide +kernel
theorem dX7_kinOf_34 : decode cX7_kinOf 34 = .ok (.aload_n 0, 1) := by decide +kernel
theorem dX7_kinOf_35 : decode cX7_kinOf 35 = .ok (.getfield 22, 3) := by decide +kernel
theorem dX7_kinOf_38 : decode cX7_kinOf 38 = .ok (.iload 4, 2) := by decide +kernel
theorem dX7_kinOf_40 : decode cX7_kinOf 40 = .ok (.iaload, 1) := by decide +kernel
theorem dX7_kinOf_41 : decode cX7_kinOf 41 = .ok (.ior, 1) := by decide +kernel
theorem dX7_kinOf_42 : decode cX7_kinOf 42 = .ok (.istore_n 2, 1) := by decide +kernel
theorem dX7_kinOf_43 : decode cX7_kinOf 43 = .ok (.iinc 4 1, 3) := by decide +kernel
theorem dX7_kinOf_46 : decode cX7_kinOf 46 = .ok (.goto (-31), 3) := by decide +kernel
theorem dX7_kinOf_49 : decode cX7_kinOf 49 = .ok (.iinc 3 1, 3) := by decide +kernel
theorem dX7_kinOf_52 : decode cX7_kinOf 52 = .ok (.goto (-46), 3) := by decide +kernel
theorem dX7_kinOf_55 : decode cX7_kinOf 55 = .ok (.iload_n 2, 1) := by decide +kernel
theorem dX7_kinOf_56 : decode cX7_kinOf 56 = .ok (.ireturn, 1) := by decide +kernel
theorem dX8_init_0 : decode cX8_init 0 = .ok (.aload_n 0, 1) := by decide +kernel
theorem dX8_init_1 : decode cX8_init 1 = .ok (.invokespecial 3, 3) := by decide +kernel
theorem dX8_init_4 : decode cX8_init 4 = .ok (.aload_n 0, 1) := by decide +kernel
theorem dX8_init_5 : decode cX8_init 5 = .ok (.new 9, 3) := by decide +kernel
theorem dX8_init_8 : decode cX8_init 8 = .ok (.dup, 1) := by decide +kernel
theorem dX8_init_9 : decode cX8_init 9 = .ok (.invokespecial 11, 3) := by decide +kernel
theorem dX8_init_12 : decode cX8_init 12 = .ok (.putfield 12, 3) := by decide +kernel
theorem dX8_init_15 : decode cX8_init 15 = .ok (.aload_n 0, 1) := by decide +kernel
theorem dX8_init_16 : decode cX8_init 16 = .ok (.new 18, 3) := by decide +kernel
theorem dX8_init_19 : decode cX8_init 19 = .ok (.dup, 1) := by decide +kernel
theorem dX8_init_20 : decode cX8_init 20 = .ok (.invokespecial 20, 3) := by decide +kernel
theorem dX8_init_23 : decode cX8_init 23 = .ok (.putfield 21, 3) := by decide +kernel
theorem dX8_init_26 : decode cX8_init 26 = .ok (.aload_n 0, 1) := by decide +kernel
theorem dX8_init_27 : decode cX8_init 27 = .ok (.new 25, 3) := by decide +kernel
theorem dX8_init_30 : decode cX8_init 30 = .ok (.dup, 1) := by decide +kernel
theorem dX8_init_31 : decode cX8_init 31 = .ok (.aload_n 0, 1) := by decide +kernel
theorem dX8_init_32 : decode cX8_init 32 = .ok (.getfield 12, 3) := by decide +kernel
theorem dX8_init_35 : decode cX8_init 35 = .ok (.aload_n 0, 1) := by decide +kernel
theorem dX8_init_36 : decode cX8_init 36 = .ok (.getfield 21, 3) := by decide +kernel
theorem dX8_init_39 : decode cX8_init 39 = .ok (.invokespecial 27, 3) := by decide +kernel
theorem dX8_init_42 : decode cX8_init 42 = .ok (.putfield 30, 3) := by decide +kernel
theorem dX8_init_45 : decode cX8_init 45 = .ok (.aload_n 0, 1) := by decide +kernel
theorem dX8_init_46 : decode cX8_init 46 = .ok (.bipush 6, 2) := by decide +kernel
theorem dX8_init_48 : decode cX8_init 48 = .ok (.anewarray 34, 3) := by decide +kernel
theorem dX8_init_51 : decode cX8_init 51 = .ok (.dup, 1) := by decide +kernel
theorem dX8_init_52 : decode cX8_init 52 = .ok (.iconst 0, 1) := by decide +kernel
theorem dX8_init_53 : decode cX8_init 53 = .ok (.new 34, 3) := by decide +kernel
theorem dX8_init_56 : decode cX8_init 56 = .ok (.dup, 1) := by decide +kernel
theorem dX8_init_57 : decode cX8_init 57 = .ok (.invokespecial 36, 3) := by decide +kernel
theorem dX8_init_60 : decode cX8_init 60 = .ok (.aastore, 1) := by decide +kernel
theorem dX8_init_61 : decode cX8_init 61 = .ok (.dup, 1) := by decide +kernel
theorem dX8_init_62 : decode cX8_init 62 = .ok (.iconst 1, 1) := by decide +kernel
theorem dX8_init_63 : decode cX8_init 63 = .ok (.new 34, 3) := by decide +kernel
theorem dX8_init_66 : decode cX8_init 66 = .ok (.dup, 1) := by decide +kernel
theorem dX8_init_67 : decode cX8_init 67 = .ok (.invokespecial 36, 3) := by decide +kernel
theorem dX8_init_70 : decode cX8_init 70 = .ok (.aastore, 1) := by decide +kernel
theorem dX8_init_71 : decode cX8_init 71 = .ok (.dup, 1) := by decide +kernel
theorem dX8_init_72 : decode cX8_init 72 = .ok (.iconst 2, 1) := by decide +kernel
theorem dX8_init_73 : decode cX8_init 73 = .ok (.new 34, 3) := by decide +kernel
theorem dX8_init_76 : decode cX8_init 76 = .ok (.dup, 1) := by decide +kernel
theorem dX8_init_77 : decode cX8_init 77 = .ok (.invokespecial 36, 3) := by decide +kernel
theorem dX8_init_80 : decode cX8_init 80 = .ok (.aastore, 1) := by decide +kernel
theorem dX8_init_81 : decode cX8_init 81 = .ok (.dup, 1) := by decide +kernel
theorem dX8_init_82 : decode cX8_init 82 = .ok (.iconst 3, 1) := by decide +kernel
theorem dX8_init_83 : decode cX8_init 83 = .ok (.new 34, 3) := by decide +kernel
theorem dX8_init_86 : decode cX8_init 86 = .ok (.dup, 1) := by decide +kernel
theorem dX8_init_87 : decode cX8_init 87 = .ok (.invokespecial 36, 3) := by decide +kernel
theorem dX8_init_90 : decode cX8_init 90 = .ok (.aastore, 1) := by decide +kernel
theorem dX8_init_91 : decode cX8_init 91 = .ok (.dup, 1) := by decide +kernel
theorem dX8_init_92 : decode cX8_init 92 = .ok (.iconst 4, 1) := by decide +kernel
theorem dX8_init_93 : decode cX8_init 93 = .ok (.new 34, 3) := by decide +kernel
theorem dX8_init_96 : decode cX8_init 96 = .ok (.dup, 1) := by decide +kernel
theorem dX8_init_97 : decode cX8_init 97 = .ok (.invokespecial 36, 3) := by decide +kernel
theorem dX8_init_100 : decode cX8_init 100 = .ok (.aastore, 1) := by decide +kernel
theorem dX8_init_101 : decode cX8_init 101 = .ok (.dup, 1) := by decide +kernel
theorem dX8_init_102 : decode cX8_init 102 = .ok (.iconst 5, 1) := by decide +kernel
theorem dX8_init_103 : decode cX8_init 103 = .ok (.new 34, 3) := by decide +kernel
theorem dX8_init_106 : decode cX8_init 106 = .ok (.dup, 1) := by decide +kernel
theorem dX8_init_107 : decode cX8_init 107 = .ok (.invokespecial 36, 3) := by decide +kernel
theorem dX8_init_110 : decode cX8_init 110 = .ok (.aastore, 1) := by decide +kernel
theorem dX8_init_111 : decode cX8_init 111 = .ok (.putfield 37, 3) := by decide +kernel
theorem dX8_init_114 : decode cX8_init 114 = .ok (.aload_n 0, 1) := by decide +kernel
theorem dX8_init_115 : decode cX8_init 115 = .ok (.bipush 6, 2) := by decide +kernel
theorem dX8_init_117 : decode cX8_init 117 = .ok (.newarray .int, 2) := by decide +kernel
theorem dX8_init_119 : decode cX8_init 119 = .ok (.putfield 41, 3) := by decide +kernel
theorem dX8_init_122 : decode cX8_init 122 = .ok (.return_, 1) := by decide +kernel
theorem dX8_clear_0 : decode cX8_clear 0 = .ok (.aload_n 0, 1) := by decide +kernel
theorem dX8_clear_1 : decode cX8_clear 1 = .ok (.getfield 12, 3) := by decide +kernel
theorem dX8_clear_4 : decode cX8_clear 4 = .ok (.invokevirtual 45, 3) := by decide +kernel
theorem dX8_clear_7 : decode cX8_clear 7 = .ok (.aload_n 0, 1) := by decide +kernel
theorem dX8_clear_8 : decode cX8_clear 8 = .ok (.getfield 21, 3) := by decide +kernel
theorem dX8_clear_11 : decode cX8_clear 11 = .ok (.invokevirtual 48, 3) := by decide +kernel
theorem dX8_clear_14 : decode cX8_clear 14 = .ok (.aload_n 0, 1) := by decide +kernel
theorem dX8_clear_15 : decode cX8_clear 15 = .ok (.iconst 0, 1) := by decide +kernel
theorem dX8_clear_16 : decode cX8_clear 16 = .ok (.putfield 49, 3) := by decide +kernel
theorem dX8_clear_19 : decode cX8_clear 19 = .ok (.aload_n 0, 1) := by decide +kernel
theorem dX8_clear_20 : decode cX8_clear 20 = .ok (.iconst 0, 1) := by decide +kernel
theorem dX8_clear_21 : decode cX8_clear 21 = .ok (.putfield 53, 3) := by decide +kernel
theorem dX8_clear_24 : decode cX8_clear 24 = .ok (.iconst 0, 1) := by decide +kernel
theorem dX8_clear_25 : decode cX8_clear 25 = .ok (.istore_n 1, 1) := by decide +kernel
theorem dX8_clear_26 : decode cX8_clear 26 = .ok (.iload_n 1, 1) := by decide +kernel
theorem dX8_clear_27 : decode cX8_clear 27 = .ok (.bipush 6, 2) := by decide +kernel
theorem dX8_clear_29 : decode cX8_clear 29 = .ok (.if_icmp .ge 18, 3) := by decide +kernel
theorem dX8_clear_32 : decode cX8_clear 32 = .ok (.aload_n 0, 1) := by decide +kernel
theorem dX8_clear_33 : decode cX8_clear 33 = .ok (.getfield 37, 3) := by decide +kernel
theorem dX8_clear_36 : decode cX8_clear 36 = .ok (.iload_n 1, 1) := by decide +kernel
theorem dX8_clear_37 : decode cX8_clear 37 = .ok (.aaload, 1) := by decide +kernel
theorem dX8_clear_38 : decode cX8_clear 38 = .ok (.invokevirtual 56, 3) := by decide +kernel
theorem dX8_clear_41 : decode cX8_clear 41 = .ok (.iinc 1 1, 3) := by decide +kernel
theorem dX8_clear_44 : decode cX8_clear 44 = .ok (.goto (-18), 3) := by decide +kernel
theorem dX8_clear_47 : decode cX8_clear 47 = .ok (.return_, 1) := by decide +kernel
theorem dX8_close_0 : decode cX8_close 0 = .ok (.aload_n 0, 1) := by decide +kernel
theorem dX8_close_1 : decode cX8_close 1 = .ok (.getfield 12, 3) := by decide +kernel
theorem dX8_close_4 : decode cX8_close 4 = .ok (.invokevirtual 57, 3) := by decide +kernel
theorem dX8_close_7 : decode cX8_close 7 = .ok (.aload_n 0, 1) := by decide +kernel
theorem dX8_close_8 : decode cX8_close 8 = .ok (.getfield 30, 3) := by decide +kernel
theorem dX8_close_11 : decode cX8_close 11 = .ok (.aload_n 0, 1) := by decide +kernel
theorem dX8_close_12 : decode cX8_close 12 = .ok (.getfield 49, 3) := by decide +kernel
theorem dX8_close_15 : decode cX8_close 15 = .ok (.invokevirtual 60, 3) := by decide +kernel
theorem dX8_close_18 : decode cX8_close 18 = .ok (.return_, 1) := by decide +kernel
theorem dX8_houseAtTurn_0 : decode cX8_houseAtTurn 0 = .ok (.iconst 0, 1) := by decide +kernel
theorem dX8_houseAtTurn_1 : decode cX8_houseAtTurn 1 = .ok (.istore_n 2, 1) := by decide +kernel
theorem dX8_houseAtTurn_2 : decode cX8_houseAtTurn 2 = .ok (.iload_n 2, 1) := by decide +kernel
theorem dX8_houseAtTurn_3 : decode cX8_houseAtTurn 3 = .ok (.bipush 6, 2) := by decide +kernel
theorem dX8_houseAtTurn_5 : decode cX8_houseAtTurn 5 = .ok (.if_icmp .ge 16, 3) := by decide +kernel
theorem dX8_houseAtTurn_8 : decode cX8_houseAtTurn 8 = .ok (.aload_n 0, 1) := by decide +kernel
theorem dX8_houseAtTurn_9 : decode cX8_houseAtTurn 9 = .ok (.getfield 41, 3) := by decide +kernel
theorem dX8_houseAtTurn_12 : decode cX8_houseAtTurn 12 = .ok (.iload_n 2, 1) := by decide +kernel
theorem dX8_houseAtTurn_13 : decode cX8_houseAtTurn 13 = .ok (.iconst 0, 1) := by decide +kernel
theorem dX8_houseAtTurn_14 : decode cX8_houseAtTurn 14 = .ok (.iastore, 1) := by decide +kernel
theorem dX8_houseAtTurn_15 : decode cX8_houseAtTurn 15 = .ok (.iinc 2 1, 3) := by decide +kernel
theorem dX8_houseAtTurn_18 : decode cX8_houseAtTurn 18 = .ok (.goto (-16), 3) := by decide +kernel
theorem dX8_houseAtTurn_21 : decode cX8_houseAtTurn 21 = .ok (.iload_n 1, 1) := by decide +kernel
theorem dX8_houseAtTurn_22 : decode cX8_houseAtTurn 22 = .ok (.istore_n 2, 1) := by decide +kernel
theorem dX8_houseAtTurn_23 : decode cX8_houseAtTurn 23 = .ok (.iconst 0, 1) := by decide +kernel
theorem dX8_houseAtTurn_24 : decode cX8_houseAtTurn 24 = .ok (.istore_n 3, 1) := by decide +kernel
theorem dX8_houseAtTurn_25 : decode cX8_houseAtTurn 25 = .ok (.iload_n 3, 1) := by decide +kernel
theorem dX8_houseAtTurn_26 : decode cX8_houseAtTurn 26 = .ok (.iload_n 1, 1) := by decide +kernel
theorem dX8_houseAtTurn_27 : decode cX8_houseAtTurn 27 = .ok (.if_icmp .gt 68, 3) := by decide +kernel
theorem dX8_houseAtTurn_30 : decode cX8_houseAtTurn 30 = .ok (.aload_n 0, 1) := by decide +kernel
theorem dX8_houseAtTurn_31 : decode cX8_houseAtTurn 31 = .ok (.invokevirtual 64, 3) := by decide +kernel
theorem dX8_houseAtTurn_34 : decode cX8_houseAtTurn 34 = .ok (.istore 4, 2) := by decide +kernel
theorem dX8_houseAtTurn_36 : decode cX8_houseAtTurn 36 = .ok (.iload 4, 2) := by decide +kernel
theorem dX8_houseAtTurn_38 : decode cX8_houseAtTurn 38 = .ok (.ifCond .lt 10, 3) := by decide +kernel
theorem dX8_houseAtTurn_41 : decode cX8_houseAtTurn 41 = .ok (.iload 4, 2) := by decide +kernel
theorem dX8_houseAtTurn_43 : decode cX8_houseAtTurn 43 = .ok (.bipush 6, 2) := by decide +kernel
theorem dX8_houseAtTurn_45 : decode cX8_houseAtTurn 45 = .ok (.if_icmp .lt 6, 3) := by decide +kernel
theorem dX8_houseAtTurn_48 : decode cX8_houseAtTurn 48 = .ok (.bipush (-2), 2) := by decide +kernel
theorem dX8_houseAtTurn_50 : decode cX8_houseAtTurn 50 = .ok (.ireturn, 1) := by decide +kernel
theorem dX8_houseAtTurn_51 : decode cX8_houseAtTurn 51 = .ok (.iload_n 2, 1) := by decide +kernel
theorem dX8_houseAtTurn_52 : decode cX8_houseAtTurn 52 = .ok (.aload_n 0, 1) := by decide +kernel
theorem dX8_houseAtTurn_53 : decode cX8_houseAtTurn 53 = .ok (.getfield 37, 3) := by decide +kernel
theorem dX8_houseAtTurn_56 : decode cX8_houseAtTurn 56 = .ok (.iload 4, 2) := by decide +kernel
theorem dX8_houseAtTurn_58 : decode cX8_houseAtTurn 58 = .ok (.aaload, 1) := by decide +kernel
theorem dX8_houseAtTurn_59 : decode cX8_houseAtTurn 59 = .ok (.aload_n 0, 1) := by decide +kernel
theorem dX8_houseAtTurn_60 : decode cX8_houseAtTurn 60 = .ok (.getfield 41, 3) := by decide +kernel
theorem dX8_houseAtTurn_63 : decode cX8_houseAtTurn 63 = .ok (.iload 4, 2) := by decide +kernel
theorem dX8_houseAtTurn_65 : decode cX8_houseAtTurn 65 = .ok (.iaload, 1) := by decide +kernel
theorem dX8_houseAtTurn_66 : decode cX8_houseAtTurn 66 = .ok (.invokevirtual 68, 3) := by decide +kernel
theorem dX8_houseAtTurn_69 : decode cX8_houseAtTurn 69 = .ok (.isub, 1) := by decide +kernel
theorem dX8_houseAtTurn_70 : decode cX8_houseAtTurn 70 = .ok (.istore_n 2, 1) := by decide +kernel
theorem dX8_houseAtTurn_71 : decode cX8_houseAtTurn 71 = .ok (.iload_n 2, 1) := by decide +kernel
theorem dX8_houseAtTurn_72 : decode cX8_houseAtTurn 72 = .ok (.ifCond .ge 6, 3) := by decide +kernel
theorem dX8_houseAtTurn_75 : decode cX8_houseAtTurn 75 = .ok (.iload 4, 2) := by decide +kernel
theorem dX8_houseAtTurn_77 : decode cX8_houseAtTurn 77 = .ok (.ireturn, 1) := by decide +kernel
theorem dX8_houseAtTurn_78 : decode cX8_houseAtTurn 78 = .ok (.aload_n 0, 1) := by decide +kernel
theorem dX8_houseAtTurn_79 : decode cX8_houseAtTurn 79 = .ok (.getfield 41, 3) := by decide +kernel
theorem dX8_houseAtTurn_82 : decode cX8_houseAtTurn 82 = .ok (.iload 4, 2) := by decide +kernel
theorem dX8_houseAtTurn_84 : decode cX8_houseAtTurn 84 = .ok (.dup2, 1) := by decide +kernel
theorem dX8_houseAtTurn_85 : decode cX8_houseAtTurn 85 = .ok (.iaload, 1) := by decide +kernel
theorem dX8_houseAtTurn_86 : decode cX8_houseAtTurn 86 = .ok (.iconst 1, 1) := by decide +kernel
theorem dX8_houseAtTurn_87 : decode cX8_houseAtTurn 87 = .ok (.iadd, 1) := by decide +kernel
theorem dX8_houseAtTurn_88 : decode cX8_houseAtTurn 88 = .ok (.iastore, 1) := by decide +kernel
theorem dX8_houseAtTurn_89 : decode cX8_houseAtTurn 89 = .ok (.iinc 3 1, 3) := by decide +kernel
theorem dX8_houseAtTurn_92 : decode cX8_houseAtTurn 92 = .ok (.goto (-67), 3) := by decide +kernel
theorem dX8_houseAtTurn_95 : decode cX8_houseAtTurn 95 = .ok (.bipush (-2), 2) := by decide +kernel
theorem dX8_houseAtTurn_97 : decode cX8_houseAtTurn 97 = .ok (.ireturn, 1) := by decide +kernel
theorem dX8_turnsUpTo_0 : decode cX8_turnsUpTo 0 = .ok (.iconst 0, 1) := by decide +kernel
theorem dX8_turnsUpTo_1 : decode cX8_turnsUpTo 1 = .ok (.istore_n 2, 1) := by decide +kernel
theorem dX8_turnsUpTo_2 : decode cX8_turnsUpTo 2 = .ok (.iconst 0, 1) := by decide +kernel
theorem dX8_turnsUpTo_3 : decode cX8_turnsUpTo 3 = .ok (.istore_n 3, 1) := by decide +kernel
theorem dX8_turnsUpTo_4 : decode cX8_turnsUpTo 4 = .ok (.iload_n 3, 1) := by decide +kernel
theorem dX8_turnsUpTo_5 : decode cX8_turnsUpTo 5 = .ok (.aload_n 0, 1) := by decide +kernel
theorem dX8_turnsUpTo_6 : decode cX8_turnsUpTo 6 = .ok (.getfield 49, 3) := by decide +kernel
theorem dX8_turnsUpTo_9 : decode cX8_turnsUpTo 9 = .ok (.if_icmp .ge 28, 3) := by decide +kernel
theorem dX8_turnsUpTo_12 : decode cX8_turnsUpTo 12 = .ok (.iload_n 3, 1) := by decide +kernel
theorem dX8_turnsUpTo_13 : decode cX8_turnsUpTo 13 = .ok (.bipush 6, 2) := by decide +kernel
theorem dX8_turnsUpTo_15 : decode cX8_turnsUpTo 15 = .ok (.if_icmp .ge 22, 3) := by decide +kernel
theorem dX8_turnsUpTo_18 : decode cX8_turnsUpTo 18 = .ok (.iload_n 2, 1) := by decide +kernel
theorem dX8_turnsUpTo_19 : decode cX8_turnsUpTo 19 = .ok (.aload_n 0, 1) := by decide +kernel
theorem dX8_turnsUpTo_20 : decode cX8_turnsUpTo 20 = .ok (.getfield 37, 3) := by decide +kernel
theorem dX8_turnsUpTo_23 : decode cX8_turnsUpTo 23 = .ok (.iload_n 3, 1) := by decide +kernel
theorem dX8_turnsUpTo_24 : decode cX8_turnsUpTo 24 = .ok (.aaload, 1) := by decide +kernel
theorem dX8_turnsUpTo_25 : decode cX8_turnsUpTo 25 = .ok (.iload_n 1, 1) := by decide +kernel
theorem dX8_turnsUpTo_26 : decode cX8_turnsUpTo 26 = .ok (.invokevirtual 72, 3) := by decide +kernel
theorem dX8_turnsUpTo_29 : decode cX8_turnsUpTo 29 = .ok (.iadd, 1) := by decide +kernel
theorem dX8_turnsUpTo_30 : decode cX8_turnsUpTo 30 = .ok (.istore_n 2, 1) := by decide +kernel
theorem dX8_turnsUpTo_31 : decode cX8_turnsUpTo 31 = .ok (.iinc 3 1, 3) := by decide +kernel
theorem dX8_turnsUpTo_34 : decode cX8_turnsUpTo 34 = .ok (.goto (-30), 3) := by decide +kernel
theorem dX8_turnsUpTo_37 : decode cX8_turnsUpTo 37 = .ok (.iload_n 2, 1) := by decide +kernel
theorem dX8_turnsUpTo_38 : decode cX8_turnsUpTo 38 = .ok (.ireturn, 1) := by decide +kernel
theorem dX8_earliestHouse_0 : decode cX8_earliestHouse 0 = .ok (.iconst (-1), 1) := by decide +kernel
theorem dX8_earliestHouse_1 : decode cX8_earliestHouse 1 = .ok (.istore_n 1, 1) := by decide +kernel
theorem dX8_earliestHouse_2 : decode cX8_earliestHouse 2 = .ok (.iconst 0, 1) := by decide +kernel
theorem dX8_earliestHouse_3 : decode cX8_earliestHouse 3 = .ok (.istore_n 2, 1) := by decide +kernel
theorem dX8_earliestHouse_4 : decode cX8_earliestHouse 4 = .ok (.iconst 0, 1) := by decide +kernel
theorem dX8_earliestHouse_5 : decode cX8_earliestHouse 5 = .ok (.istore_n 3, 1) := by decide +kernel
theorem dX8_earliestHouse_6 : decode cX8_earliestHouse 6 = .ok (.iload_n 3, 1) := by decide +kernel
theorem dX8_earliestHouse_7 : decode cX8_earliestHouse 7 = .ok (.aload_n 0, 1) := by decide +kernel
theorem dX8_earliestHouse_8 : decode cX8_earliestHouse 8 = .ok (.getfield 49, 3) := by decide +kernel
theorem dX8_earliestHouse_11 : decode cX8_earliestHouse 11 = .ok (.if_icmp .ge 55, 3) := by decide +kernel
theorem dX8_earliestHouse_14 : decode cX8_earliestHouse 14 = .ok (.iload_n 3, 1) := by decide +kernel
theorem dX8_earliestHouse_15 : decode cX8_earliestHouse 15 = .ok (.bipush 6, 2) := by decide +kernel
theorem dX8_earliestHouse_17 : decode cX8_earliestHouse 17 = .ok (.if_icmp .ge 49, 3) := by decide +kernel
theorem dX8_earliestHouse_20 : decode cX8_earliestHouse 20 = .ok (.aload_n 0, 1) := by decide +kernel
theorem dX8_earliestHouse_21 : decode cX8_earliestHouse 21 = .ok (.getfield 37, 3) := by decide +kernel
theorem dX8_earliestHouse_24 : decode cX8_earliestHouse 24 = .ok (.iload_n 3, 1) := by decide +kernel
theorem dX8_earliestHouse_25 : decode cX8_earliestHouse 25 = .ok (.aaload, 1) := by decide +kernel
theorem dX8_earliestHouse_26 : decode cX8_earliestHouse 26 = .ok (.aload_n 0, 1) := by decide +kernel
theorem dX8_earliestHouse_27 : decode cX8_earliestHouse 27 = .ok (.getfield 41, 3) := by decide +kernel
theorem dX8_earliestHouse_30 : decode cX8_earliestHouse 30 = .ok (.iload_n 3, 1) := by decide +kernel
theorem dX8_earliestHouse_31 : decode cX8_earliestHouse 31 = .ok (.iaload, 1) := by decide +kernel
theorem dX8_earliestHouse_32 : decode cX8_earliestHouse 32 = .ok (.invokevirtual 75, 3) := by decide +kernel
theorem dX8_earliestHouse_35 : decode cX8_earliestHouse 35 = .ok (.istore 4, 2) := by decide +kernel
theorem dX8_earliestHouse_37 : decode cX8_earliestHouse 37 = .ok (.iload 4, 2) := by decide +kernel
theorem dX8_earliestHouse_39 : decode cX8_earliestHouse 39 = .ok (.bipush (-2), 2) := by decide +kernel
theorem dX8_earliestHouse_41 : decode cX8_earliestHouse 41 = .ok (.if_icmp .eq 19, 3) := by decide +kernel
theorem dX8_earliestHouse_44 : decode cX8_earliestHouse 44 = .ok (.iload_n 1, 1) := by decide +kernel
theorem dX8_earliestHouse_45 : decode cX8_earliestHouse 45 = .ok (.iconst (-1), 1) := by decide +kernel
theorem dX8_earliestHouse_46 : decode cX8_earliestHouse 46 = .ok (.if_icmp .eq 9, 3) := by decide +kernel
theorem dX8_earliestHouse_49 : decode cX8_earliestHouse 49 = .ok (.iload 4, 2) := by decide +kernel
theorem dX8_earliestHouse_51 : decode cX8_earliestHouse 51 = .ok (.iload_n 2, 1) := by decide +kernel
theorem dX8_earliestHouse_52 : decode cX8_earliestHouse 52 = .ok (.if_icmp .ge 8, 3) := by decide +kernel
theorem dX8_earliestHouse_55 : decode cX8_earliestHouse 55 = .ok (.iload_n 3, 1) := by decide +kernel
theorem dX8_earliestHouse_56 : decode cX8_earliestHouse 56 = .ok (.istore_n 1, 1) := by decide +kernel
theorem dX8_earliestHouse_57 : decode cX8_earliestHouse 57 = .ok (.iload 4, 2) := by decide +kernel
theorem dX8_earliestHouse_59 : decode cX8_earliestHouse 59 = .ok (.istore_n 2, 1) := by decide +kernel
theorem dX8_earliestHouse_60 : decode cX8_earliestHouse 60 = .ok (.iinc 3 1, 3) := by decide +kernel
theorem dX8_earliestHouse_63 : decode cX8_earliestHouse 63 = .ok (.goto (-57), 3) := by decide +kernel
theorem dX8_earliestHouse_66 : decode cX8_earliestHouse 66 = .ok (.iload_n 1, 1) := by decide +kernel
theorem dX8_earliestHouse_67 : decode cX8_earliestHouse 67 = .ok (.ireturn, 1) := by decide +kernel
theorem dX9_init_0 : decode cX9_init 0 = .ok (.aload_n 0, 1) := by decide +kernel
theorem dX9_init_1 : decode cX9_init 1 = .ok (.invokespecial 1, 3) := by decide +kernel
theorem dX9_init_4 : decode cX9_init 4 = .ok (.aload_n 0, 1) := by decide +kernel
theorem dX9_init_5 : decode cX9_init 5 = .ok (.new 7, 3) := by decide +kernel
theorem dX9_init_8 : decode cX9_init 8 = .ok (.dup, 1) := by decide +kernel
theorem dX9_init_9 : decode cX9_init 9 = .ok (.invokespecial 9, 3) := by decide +kernel
theorem dX9_init_12 : decode cX9_init 12 = .ok (.putfield 10, 3) := by decide +kernel
theorem dX9_init_15 : decode cX9_init 15 = .ok (.aload_n 0, 1) := by decide +kernel
theorem dX9_init_16 : decode cX9_init 16 = .ok (.new 7, 3) := by decide +kernel
theorem dX9_init_19 : decode cX9_init 19 = .ok (.dup, 1) := by decide +kernel
theorem dX9_init_20 : decode cX9_init 20 = .ok (.invokespecial 9, 3) := by decide +kernel
theorem dX9_init_23 : decode cX9_init 23 = .ok (.putfield 16, 3) := by decide +kernel
theorem dX9_init_26 : decode cX9_init 26 = .ok (.aload_n 0, 1) := by decide +kernel
theorem dX9_init_27 : decode cX9_init 27 = .ok (.new 19, 3) := by decide +kernel
theorem dX9_init_30 : decode cX9_init 30 = .ok (.dup, 1) := by decide +kernel
theorem dX9_init_31 : decode cX9_init 31 = .ok (.invokespecial 21, 3) := by decide +kernel
theorem dX9_init_34 : decode cX9_init 34 = .ok (.putfield 22, 3) := by decide +kernel
theorem dX9_init_37 : decode cX9_init 37 = .ok (.aload_n 0, 1) := by decide +kernel
theorem dX9_init_38 : decode cX9_init 38 = .ok (.new 26, 3) := by decide +kernel
theorem dX9_init_41 : decode cX9_init 41 = .ok (.dup, 1) := by decide +kernel
theorem dX9_init_42 : decode cX9_init 42 = .ok (.aload_n 0, 1) := by decide +kernel
theorem dX9_init_43 : decode cX9_init 43 = .ok (.getfield 22, 3) := by decide +kernel
theorem dX9_init_46 : decode cX9_init 46 = .ok (.aload_n 0, 1) := by decide +kernel
theorem dX9_init_47 : decode cX9_init 47 = .ok (.getfield 16, 3) := by decide +kernel
theorem dX9_init_50 : decode cX9_init 50 = .ok (.invokespecial 28, 3) := by decide +kernel
theorem dX9_init_53 : decode cX9_init 53 = .ok (.putfield 31, 3) := by decide +kernel
theorem dX9_init_56 : decode cX9_init 56 = .ok (.aload_n 0, 1) := by decide +kernel
theorem dX9_init_57 : decode cX9_init 57 = .ok (.new 35, 3) := by decide +kernel
theorem dX9_init_60 : decode cX9_init 60 = .ok (.dup, 1) := by decide +kernel
theorem dX9_init_61 : decode cX9_init 61 = .ok (.aload_n 0, 1) := by decide +kernel
theorem dX9_init_62 : decode cX9_init 62 = .ok (.getfield 10, 3) := by decide +kernel
theorem dX9_init_65 : decode cX9_init 65 = .ok (.getfield 37, 3) := by decide +kernel
theorem dX9_init_68 : decode cX9_init 68 = .ok (.invokespecial 41, 3) := by decide +kernel
theorem dX9_init_71 : decode cX9_init 71 = .ok (.putfield 44, 3) := by decide +kernel
theorem dX9_init_74 : decode cX9_init 74 = .ok (.aload_n 0, 1) := by decide +kernel
theorem dX9_init_75 : decode cX9_init 75 = .ok (.new 48, 3) := by decide +kernel
theorem dX9_init_78 : decode cX9_init 78 = .ok (.dup, 1) := by decide +kernel
theorem dX9_init_79 : decode cX9_init 79 = .ok (.invokespecial 50, 3) := by decide +kernel
theorem dX9_init_82 : decode cX9_init 82 = .ok (.putfield 51, 3) := by decide +kernel
theorem dX9_init_85 : decode cX9_init 85 = .ok (.aload_n 0, 1) := by decide +kernel
theorem dX9_init_86 : decode cX9_init 86 = .ok (.iconst 3, 1) := by decide +kernel
theorem dX9_init_87 : decode cX9_init 87 = .ok (.anewarray 55, 3) := by decide +kernel
theorem dX9_init_90 : decode cX9_init 90 = .ok (.dup, 1) := by decide +kernel
theorem dX9_init_91 : decode cX9_init 91 = .ok (.iconst 0, 1) := by decide +kernel
theorem dX9_init_92 : decode cX9_init 92 = .ok (.new 55, 3) := by decide +kernel
theorem dX9_init_95 : decode cX9_init 95 = .ok (.dup, 1) := by decide +kernel
theorem dX9_init_96 : decode cX9_init 96 = .ok (.invokespecial 57, 3) := by decide +kernel
theorem dX9_init_99 : decode cX9_init 99 = .ok (.aastore, 1) := by decide +kernel
theorem dX9_init_100 : decode cX9_init 100 = .ok (.dup, 1) := by decide +kernel
theorem dX9_init_101 : decode cX9_init 101 = .ok (.iconst 1, 1) := by decide +kernel
theorem dX9_init_102 : decode cX9_init 102 = .ok (.new 55, 3) := by decide +kernel
theorem dX9_init_105 : decode cX9_init 105 = .ok (.dup, 1) := by decide +kernel
theorem dX9_init_106 : decode cX9_init 106 = .ok (.invokespecial 57, 3) := by decide +kernel
theorem dX9_init_109 : decode cX9_init 109 = .ok (.aastore, 1) := by decide +kernel
theorem dX9_init_110 : decode cX9_init 110 = .ok (.dup, 1) := by decide +kernel
theorem dX9_init_111 : decode cX9_init 111 = .ok (.iconst 2, 1) := by decide +kernel
theorem dX9_init_112 : decode cX9_init 112 = .ok (.new 55, 3) := by decide +kernel
theorem dX9_init_115 : decode cX9_init 115 = .ok (.dup, 1) := by decide +kernel
theorem dX9_init_116 : decode cX9_init 116 = .ok (.invokespecial 57, 3) := by decide +kernel
theorem dX9_init_119 : decode cX9_init 119 = .ok (.aastore, 1) := by decide +kernel
theorem dX9_init_120 : decode cX9_init 120 = .ok (.putfield 58, 3) := by decide +kernel
theorem dX9_init_123 : decode cX9_init 123 = .ok (.return_, 1) := by decide +kernel
theorem dX9_feed_0 : decode cX9_feed 0 = .ok (.aload_n 0, 1) := by decide +kernel
theorem dX9_feed_1 : decode cX9_feed 1 = .ok (.getfield 22, 3) := by decide +kernel
theorem dX9_feed_4 : decode cX9_feed 4 = .ok (.getfield 62, 3) := by decide +kernel
theorem dX9_feed_7 : decode cX9_feed 7 = .ok (.sipush 880, 3) := by decide +kernel
theorem dX9_feed_10 : decode cX9_feed 10 = .ok (.if_icmp .le 5, 3) := by decide +kernel
theorem dX9_feed_13 : decode cX9_feed 13 = .ok (.iconst (-1), 1) := by decide +kernel
theorem dX9_feed_14 : decode cX9_feed 14 = .ok (.ireturn, 1) := by decide +kernel
theorem dX9_feed_15 : decode cX9_feed 15 = .ok (.aload_n 0, 1) := by decide +kernel
theorem dX9_feed_16 : decode cX9_feed 16 = .ok (.getfield 22, 3) := by decide +kernel
theorem dX9_feed_19 : decode cX9_feed 19 = .ok (.iload_n 1, 1) := by decide +kernel
theorem dX9_feed_20 : decode cX9_feed 20 = .ok (.invokevirtual 66, 3) := by decide +kernel
theorem dX9_feed_23 : decode cX9_feed 23 = .ok (.aload_n 0, 1) := by decide +kernel
theorem dX9_feed_24 : decode cX9_feed 24 = .ok (.getfield 22, 3) := by decide +kernel
theorem dX9_feed_27 : decode cX9_feed 27 = .ok (.iload_n 2, 1) := by decide +kernel
theorem dX9_feed_28 : decode cX9_feed 28 = .ok (.invokevirtual 66, 3) := by decide +kernel
theorem dX9_feed_31 : decode cX9_feed 31 = .ok (.aload_n 0, 1) := by decide +kernel
theorem dX9_feed_32 : decode cX9_feed 32 = .ok (.getfield 22, 3) := by decide +kernel
theorem dX9_feed_35 : decode cX9_feed 35 = .ok (.iload_n 3, 1) := by decide +kernel
theorem dX9_feed_36 : decode cX9_feed 36 = .ok (.invokevirtual 66, 3) := by decide +kernel
theorem dX9_feed_39 : decode cX9_feed 39 = .ok (.aload_n 0, 1) := by decide +kernel
theorem dX9_feed_40 : decode cX9_feed 40 = .ok (.getfield 22, 3) := by decide +kernel
theorem dX9_feed_43 : decode cX9_feed 43 = .ok (.iload 4, 2) := by decide +kernel
theorem dX9_feed_45 : decode cX9_feed 45 = .ok (.invokevirtual 66, 3) := by decide +kernel
theorem dX9_feed_48 : decode cX9_feed 48 = .ok (.aload_n 0, 1) := by decide +kernel
theorem dX9_feed_49 : decode cX9_feed 49 = .ok (.getfield 22, 3) := by decide +kernel
theorem dX9_feed_52 : decode cX9_feed 52 = .ok (.iload 5, 2) := by decide +kernel
theorem dX9_feed_54 : decode cX9_feed 54 = .ok (.invokevirtual 66, 3) := by decide +kernel
theorem dX9_feed_57 : decode cX9_feed 57 = .ok (.aload_n 0, 1) := by decide +kernel
theorem dX9_feed_58 : decode cX9_feed 58 = .ok (.getfield 22, 3) := by decide +kernel
theorem dX9_feed_61 : decode cX9_feed 61 = .ok (.getfield 62, 3) := by decide +kernel
theorem dX9_feed_64 : decode cX9_feed 64 = .ok (.ireturn, 1) := by decide +kernel
theorem dX9_well_0 : decode cX9_well 0 = .ok (.iload_n 1, 1) := by decide +kernel
theorem dX9_well_1 : decode cX9_well 1 = .ok (.ifCond .lt 14, 3) := by decide +kernel
theorem dX9_well_4 : decode cX9_well 4 = .ok (.iload_n 1, 1) := by decide +kernel
theorem dX9_well_5 : decode cX9_well 5 = .ok (.aload_n 0, 1) := by decide +kernel
theorem dX9_well_6 : decode cX9_well 6 = .ok (.getfield 22, 3) := by decide +kernel
theorem dX9_well_9 : decode cX9_well 9 = .ok (.getfield 62, 3) := by decide +kernel
theorem dX9_well_12 : decode cX9_well 12 = .ok (.if_icmp .le 9, 3) := by decide +kernel
theorem dX9_well_15 : decode cX9_well 15 = .ok (.aload_n 0, 1) := by decide +kernel
theorem dX9_well_16 : decode cX9_well 16 = .ok (.iconst 2, 1) := by decide +kernel
theorem dX9_well_17 : decode cX9_well 17 = .ok (.invokevirtual 70, 3) := by decide +kernel
theorem dX9_well_20 : decode cX9_well 20 = .ok (.ireturn, 1) := by decide +kernel
theorem dX9_well_21 : decode cX9_well 21 = .ok (.aload_n 0, 1) := by decide +kernel
theorem dX9_well_22 : decode cX9_well 22 = .ok (.getfield 31, 3) := by decide +kernel
theorem dX9_well_25 : decode cX9_well 25 = .ok (.aload_n 0, 1) := by decide +kernel
theorem dX9_well_26 : decode cX9_well 26 = .ok (.getfield 16, 3) := by decide +kernel
theorem dX9_well_29 : decode cX9_well 29 = .ok (.iload_n 1, 1) := by decide +kernel
theorem dX9_well_30 : decode cX9_well 30 = .ok (.invokevirtual 74, 3) := by decide +kernel
theorem dX9_well_33 : decode cX9_well 33 = .ok (.aload_n 0, 1) := by decide +kernel
theorem dX9_well_34 : decode cX9_well 34 = .ok (.getfield 22, 3) := by decide +kernel
theorem dX9_well_37 : decode cX9_well 37 = .ok (.iconst 0, 1) := by decide +kernel
theorem dX9_well_38 : decode cX9_well 38 = .ok (.putfield 62, 3) := by decide +kernel
theorem dX9_well_41 : decode cX9_well 41 = .ok (.aload_n 0, 1) := by decide +kernel
theorem dX9_well_42 : decode cX9_well 42 = .ok (.aload_n 0, 1) := by decide +kernel
theorem dX9_well_43 : decode cX9_well 43 = .ok (.getfield 31, 3) := by decide +kernel
theorem dX9_well_46 : decode cX9_well 46 = .ok (.getfield 78, 3) := by decide +kernel
theorem dX9_well_49 : decode cX9_well 49 = .ok (.putfield 81, 3) := by decide +kernel
theorem dX9_well_52 : decode cX9_well 52 = .ok (.aload_n 0, 1) := by decide +kernel
theorem dX9_well_53 : decode cX9_well 53 = .ok (.aload_n 0, 1) := by decide +kernel
theorem dX9_well_54 : decode cX9_well 54 = .ok (.getfield 31, 3) := by decide +kernel
theorem dX9_well_57 : decode cX9_well 57 = .ok (.getfield 84, 3) := by decide +kernel
theorem dX9_well_60 : decode cX9_well 60 = .ok (.putfield 87, 3) := by decide +kernel
theorem dX9_well_63 : decode cX9_well 63 = .ok (.aload_n 0, 1) := by decide +kernel
theorem dX9_well_64 : decode cX9_well 64 = .ok (.getfield 81, 3) := by decide +kernel
theorem dX9_well_67 : decode cX9_well 67 = .ok (.ifCond .eq 9, 3) := by decide +kernel
theorem dX9_well_70 : decode cX9_well 70 = .ok (.aload_n 0, 1) := by decide +kernel
theorem dX9_well_71 : decode cX9_well 71 = .ok (.iconst 4, 1) := by decide +kernel
theorem dX9_well_72 : decode cX9_well 72 = .ok (.invokevirtual 70, 3) := by decide +kernel
theorem dX9_well_75 : decode cX9_well 75 = .ok (.ireturn, 1) := by decide +kernel
theorem dX9_well_76 : decode cX9_well 76 = .ok (.aload_n 0, 1) := by decide +kernel
theorem dX9_well_77 : decode cX9_well 77 = .ok (.getfield 10, 3) := by decide +kernel
theorem dX9_well_80 : decode cX9_well 80 = .ok (.astore_n 2, 1) := by decide +kernel
theorem dX9_well_81 : decode cX9_well 81 = .ok (.aload_n 0, 1) := by decide +kernel
theorem dX9_well_82 : decode cX9_well 82 = .ok (.aload_n 0, 1) := by decide +kernel
theorem dX9_well_83 : decode cX9_well 83 = .ok (.getfield 16, 3) := by decide +kernel
theorem dX9_well_86 : decode cX9_well 86 = .ok (.putfield 10, 3) := by decide +kernel
theorem dX9_well_89 : decode cX9_well 89 = .ok (.aload_n 0, 1) := by decide +kernel
theorem dX9_well_90 : decode cX9_well 90 = .ok (.aload_n 2, 1) := by decide +kernel
theorem dX9_well_91 : decode cX9_well 91 = .ok (.putfield 16, 3) := by decide +kernel
theorem dX9_well_94 : decode cX9_well 94 = .ok (.aload_n 0, 1) := by decide +kernel
theorem dX9_well_95 : decode cX9_well 95 = .ok (.iconst 1, 1) := by decide +kernel
theorem dX9_well_96 : decode cX9_well 96 = .ok (.putfield 90, 3) := by decide +kernel
theorem dX9_well_99 : decode cX9_well 99 = .ok (.aload_n 0, 1) := by decide +kernel
theorem dX9_well_100 : decode cX9_well 100 = .ok (.iconst 0, 1) := by decide +kernel
theorem dX9_well_101 : decode cX9_well 101 = .ok (.putfield 94, 3) := by decide +kernel
theorem dX9_well_104 : decode cX9_well 104 = .ok (.aload_n 0, 1) := by decide +kernel
theorem dX9_well_105 : decode cX9_well 105 = .ok (.getfield 51, 3) := by decide +kernel
theorem dX9_well_108 : decode cX9_well 108 = .ok (.invokevirtual 97, 3) := by decide +kernel
theorem dX9_well_111 : decode cX9_well 111 = .ok (.aload_n 0, 1) := by decide +kernel
theorem dX9_well_112 : decode cX9_well 112 = .ok (.aload_n 0, 1) := by decide +kernel
theorem dX9_well_113 : decode cX9_well 113 = .ok (.getfield 10, 3) := by decide +kernel
theorem dX9_well_116 : decode cX9_well 116 = .ok (.getfield 100, 3) := by decide +kernel
theorem dX9_well_119 : decode cX9_well 119 = .ok (.invokevirtual 103, 3) := by decide +kernel
theorem dX9_well_122 : decode cX9_well 122 = .ok (.ireturn, 1) := by decide +kernel
theorem dX9_fault_0 : decode cX9_fault 0 = .ok (.aload_n 0, 1) := by decide +kernel
theorem dX9_fault_1 : decode cX9_fault 1 = .ok (.getfield 81, 3) := by decide +kernel
theorem dX9_fault_4 : decode cX9_fault 4 = .ok (.ireturn, 1) := by decide +kernel
theorem dX9_where_0 : decode cX9_where 0 = .ok (.aload_n 0, 1) := by decide +kernel
theorem dX9_where_1 : decode cX9_where 1 = .ok (.getfield 106, 3) := by decide +kernel
theorem dX9_where_4 : decode cX9_where 4 = .ok (.iconst 4, 1) := by decide +kernel
theorem dX9_where_5 : decode cX9_where 5 = .ok (.if_icmp .ne 10, 3) := by decide +kernel
theorem dX9_where_8 : decode cX9_where 8 = .ok (.aload_n 0, 1) := by decide +kernel
theorem dX9_where_9 : decode cX9_where 9 = .ok (.getfield 87, 3) := by decide +kernel
theorem dX9_where_12 : decode cX9_where 12 = .ok (.goto 4, 3) := by decide +kernel
theorem dX9_where_15 : decode cX9_where 15 = .ok (.iconst (-1), 1) := by decide +kernel
theorem dX9_where_16 : decode cX9_where 16 = .ok (.ireturn, 1) := by decide +kernel
theorem dX9_canBe_0 : decode cX9_canBe 0 = .ok (.aload_n 0, 1) := by decide +kernel
theorem dX9_canBe_1 : decode cX9_canBe 1 = .ok (.iload_n 1, 1) := by decide +kernel
theorem dX9_canBe_2 : decode cX9_canBe 2 = .ok (.invokevirtual 109, 3) := by decide +kernel
theorem dX9_canBe_5 : decode cX9_canBe 5 = .ok (.ifCond .ne 9, 3) := by decide +kernel
theorem dX9_canBe_8 : decode cX9_canBe 8 = .ok (.aload_n 0, 1) := by decide +kernel
theorem dX9_canBe_9 : decode cX9_canBe 9 = .ok (.iconst 1, 1) := by decide +kernel
theorem dX9_canBe_10 : decode cX9_canBe 10 = .ok (.invokevirtual 70, 3) := by decide +kernel
theorem dX9_canBe_13 : decode cX9_canBe 13 = .ok (.ireturn, 1) := by decide +kernel
theorem dX9_canBe_14 : decode cX9_canBe 14 = .ok (.aload_n 0, 1) := by decide +kernel
theorem dX9_canBe_15 : decode cX9_canBe 15 = .ok (.aload_n 0, 1) := by decide +kernel
theorem dX9_canBe_16 : decode cX9_canBe 16 = .ok (.getfield 10, 3) := by decide +kernel
theorem dX9_canBe_19 : decode cX9_canBe 19 = .ok (.getfield 37, 3) := by decide +kernel
theorem dX9_canBe_22 : decode cX9_canBe 22 = .ok (.getfield 113, 3) := by decide +kernel
theorem dX9_canBe_25 : decode cX9_canBe 25 = .ok (.iload_n 1, 1) := by decide +kernel
theorem dX9_canBe_26 : decode cX9_canBe 26 = .ok (.invokestatic 119, 3) := by decide +kernel
theorem dX9_canBe_29 : decode cX9_canBe 29 = .ok (.invokevirtual 103, 3) := by decide +kernel
theorem dX9_canBe_32 : decode cX9_canBe 32 = .ok (.ireturn, 1) := by decide +kernel
theorem dX9_worlds_0 : decode cX9_worlds 0 = .ok (.aload_n 0, 1) := by decide +kernel
theorem dX9_worlds_1 : decode cX9_worlds 1 = .ok (.getfield 90, 3) := by decide +kernel
theorem dX9_worlds_4 : decode cX9_worlds 4 = .ok (.ifCond .ne 9, 3) := by decide +kernel
theorem dX9_worlds_7 : decode cX9_worlds 7 = .ok (.aload_n 0, 1) := by decide +kernel
theorem dX9_worlds_8 : decode cX9_worlds 8 = .ok (.iconst 1, 1) := by decide +kernel
theorem dX9_worlds_9 : decode cX9_worlds 9 = .ok (.invokevirtual 70, 3) := by decide +kernel
theorem dX9_worlds_12 : decode cX9_worlds 12 = .ok (.ireturn, 1) := by decide +kernel
theorem dX9_worlds_13 : decode cX9_worlds 13 = .ok (.aload_n 0, 1) := by decide +kernel
theorem dX9_worlds_14 : decode cX9_worlds 14 = .ok (.aload_n 0, 1) := by decide +kernel
theorem dX9_worlds_15 : decode cX9_worlds 15 = .ok (.getfield 10, 3) := by decide +kernel
theorem dX9_worlds_18 : decode cX9_worlds 18 = .ok (.getfield 37, 3) := by decide +kernel
theorem dX9_worlds_21 : decode cX9_worlds 21 = .ok (.getfield 113, 3) := by decide +kernel
theorem dX9_worlds_24 : decode cX9_worlds 24 = .ok (.invokestatic 123, 3) := by decide +kernel
theorem dX9_worlds_27 : decode cX9_worlds 27 = .ok (.invokevirtual 103, 3) := by decide +kernel
theorem dX9_worlds_30 : decode cX9_worlds 30 = .ok (.ireturn, 1) := by decide +kernel
theorem dX9_odds_0 : decode cX9_odds 0 = .ok (.aload_n 0, 1) := by decide +kernel
theorem dX9_odds_1 : decode cX9_odds 1 = .ok (.iload_n 1, 1) := by decide +kernel
theorem dX9_odds_2 : decode cX9_odds 2 = .ok (.invokevirtual 109, 3) := by decide +kernel
theorem dX9_odds_5 : decode cX9_odds 5 = .ok (.ifCond .ne 9, 3) := by decide +kernel
theorem dX9_odds_8 : decode cX9_odds 8 = .ok (.aload_n 0, 1) := by decide +kernel
theorem dX9_odds_9 : decode cX9_odds 9 = .ok (.iconst 1, 1) := by decide +kernel
theorem dX9_odds_10 : decode cX9_odds 10 = .ok (.invokevirtual 70, 3) := by decide +kernel
theorem dX9_odds_13 : decode cX9_odds 13 = .ok (.ireturn, 1) := by decide +kernel
theorem dX9_odds_14 : decode cX9_odds 14 = .ok (.aload_n 0, 1) := by decide +kernel
theorem dX9_odds_15 : decode cX9_odds 15 = .ok (.aload_n 0, 1) := by decide +kernel
theorem dX9_odds_16 : decode cX9_odds 16 = .ok (.getfield 10, 3) := by decide +kernel
theorem dX9_odds_19 : decode cX9_odds 19 = .ok (.getfield 37, 3) := by decide +kernel
theorem dX9_odds_22 : decode cX9_odds 22 = .ok (.getfield 129, 3) := by decide +kernel
theorem dX9_odds_25 : decode cX9_odds 25 = .ok (.iload_n 1, 1) := by decide +kernel
theorem dX9_odds_26 : decode cX9_odds 26 = .ok (.iaload, 1) := by decide +kernel
theorem dX9_odds_27 : decode cX9_odds 27 = .ok (.invokevirtual 103, 3) := by decide +kernel
theorem dX9_odds_30 : decode cX9_odds 30 = .ok (.ireturn, 1) := by decide +kernel
theorem dX9_isSo_0 : decode cX9_isSo 0 = .ok (.aload_n 0, 1) := by decide +kernel
theorem dX9_isSo_1 : decode cX9_isSo 1 = .ok (.iload_n 1, 1) := by decide +kernel
theorem dX9_isSo_2 : decode cX9_isSo 2 = .ok (.invokevirtual 133, 3) := by decide +kernel
theorem dX9_isSo_5 : decode cX9_isSo 5 = .ok (.ifCond .eq 11, 3) := by decide +kernel
theorem dX9_isSo_8 : decode cX9_isSo 8 = .ok (.aload_n 0, 1) := by decide +kernel
theorem dX9_isSo_9 : decode cX9_isSo 9 = .ok (.iload_n 2, 1) := by decide +kernel
theorem dX9_isSo_10 : decode cX9_isSo 10 = .ok (.invokevirtual 109, 3) := by decide +kernel
theorem dX9_isSo_13 : decode cX9_isSo 13 = .ok (.ifCond .ne 9, 3) := by decide +kernel
theorem dX9_isSo_16 : decode cX9_isSo 16 = .ok (.aload_n 0, 1) := by decide +kernel
theorem dX9_isSo_17 : decode cX9_isSo 17 = .ok (.iconst 1, 1) := by decide +kernel
theorem dX9_isSo_18 : decode cX9_isSo 18 = .ok (.invokevirtual 70, 3) := by decide +kernel
theorem dX9_isSo_21 : decode cX9_isSo 21 = .ok (.ireturn, 1) := by decide +kernel
theorem dX9_isSo_22 : decode cX9_isSo 22 = .ok (.aload_n 0, 1) := by decide +kernel
theorem dX9_isSo_23 : decode cX9_isSo 23 = .ok (.aload_n 0, 1) := by decide +kernel
theorem dX9_isSo_24 : decode cX9_isSo 24 = .ok (.getfield 10, 3) := by decide +kernel
theorem dX9_isSo_27 : decode cX9_isSo 27 = .ok (.getfield 37, 3) := by decide +kernel
theorem dX9_isSo_30 : decode cX9_isSo 30 = .ok (.iload_n 1, 1) := by decide +kernel
theorem dX9_isSo_31 : decode cX9_isSo 31 = .ok (.invokevirtual 136, 3) := by decide +kernel
theorem dX9_isSo_34 : decode cX9_isSo 34 = .ok (.iload_n 2, 1) := by decide +kernel
theorem dX9_isSo_35 : decode cX9_isSo 35 = .ok (.invokestatic 119, 3) := by decide +kernel
theorem dX9_isSo_38 : decode cX9_isSo 38 = .ok (.invokevirtual 103, 3) := by decide +kernel
theorem dX9_isSo_41 : decode cX9_isSo 41 = .ok (.ireturn, 1) := by decide +kernel
theorem dX9_chance_0 : decode cX9_chance 0 = .ok (.aload_n 0, 1) := by decide +kernel
theorem dX9_chance_1 : decode cX9_chance 1 = .ok (.iload_n 1, 1) := by decide +kernel
theorem dX9_chance_2 : decode cX9_chance 2 = .ok (.invokevirtual 133, 3) := by decide +kernel
theorem dX9_chance_5 : decode cX9_chance 5 = .ok (.ifCond .ne 10, 3) := by decide +kernel
theorem dX9_chance_8 : decode cX9_chance 8 = .ok (.aload_n 0, 1) := by decide +kernel
theorem dX9_chance_9 : decode cX9_chance 9 = .ok (.iconst 1, 1) := by decide +kernel
theorem dX9_chance_10 : decode cX9_chance 10 = .ok (.invokevirtual 70, 3) := by decide +kernel
theorem dX9_chance_13 : decode cX9_chance 13 = .ok (.i2l, 1) := by decide +kernel
theorem dX9_chance_14 : decode cX9_chance 14 = .ok (.lreturn, 1) := by decide +kernel
theorem dX9_chance_15 : decode cX9_chance 15 = .ok (.aload_n 0, 1) := by decide +kernel
theorem dX9_chance_16 : decode cX9_chance 16 = .ok (.aload_n 0, 1) := by decide +kernel
theorem dX9_chance_17 : decode cX9_chance 17 = .ok (.getfield 10, 3) := by decide +kernel
theorem dX9_chance_20 : decode cX9_chance 20 = .ok (.getfield 37, 3) := by decide +kernel
theorem dX9_chance_23 : decode cX9_chance 23 = .ok (.getfield 113, 3) := by decide +kernel
theorem dX9_chance_26 : decode cX9_chance 26 = .ok (.iload_n 1, 1) := by decide +kernel
theorem dX9_chance_27 : decode cX9_chance 27 = .ok (.iload_n 2, 1) := by decide +kernel
theorem dX9_chance_28 : decode cX9_chance 28 = .ok (.invokevirtual 140, 3) := by decide +kernel
theorem dX9_chance_31 : decode cX9_chance 31 = .ok (.lreturn, 1) := by decide +kernel
theorem dX9_alike_0 : decode cX9_alike 0 = .ok (.aload_n 0, 1) := by decide +kernel
theorem dX9_alike_1 : decode cX9_alike 1 = .ok (.iload_n 1, 1) := by decide +kernel
theorem dX9_alike_2 : decode cX9_alike 2 = .ok (.invokevirtual 133, 3) := by decide +kernel
theorem dX9_alike_5 : decode cX9_alike 5 = .ok (.ifCond .ne 9, 3) := by decide +kernel
theorem dX9_alike_8 : decode cX9_alike 8 = .ok (.aload_n 0, 1) := by decide +kernel
theorem dX9_alike_9 : decode cX9_alike 9 = .ok (.iconst 1, 1) := by decide +kernel
theorem dX9_alike_10 : decode cX9_alike 10 = .ok (.invokevirtual 70, 3) := by decide +kernel
theorem dX9_alike_13 : decode cX9_alike 13 = .ok (.ireturn, 1) := by decide +kernel
theorem dX9_alike_14 : decode cX9_alike 14 = .ok (.aload_n 0, 1) := by decide +kernel
theorem dX9_alike_15 : decode cX9_alike 15 = .ok (.getfield 10, 3) := by decide +kernel
theorem dX9_alike_18 : decode cX9_alike 18 = .ok (.getfield 37, 3) := by decide +kernel
theorem dX9_alike_21 : decode cX9_alike 21 = .ok (.astore_n 2, 1) := by decide +kernel
theorem dX9_alike_22 : decode cX9_alike 22 = .ok (.iconst 0, 1) := by decide +kernel
theorem dX9_alike_23 : decode cX9_alike 23 = .ok (.istore_n 3, 1) := by decide +kernel
theorem dX9_alike_24 : decode cX9_alike 24 = .ok (.iconst 0, 1) := by decide +kernel
theorem dX9_alike_25 : decode cX9_alike 25 = .ok (.istore 4, 2) := by decide +kernel
theorem dX9_alike_27 : decode cX9_alike 27 = .ok (.iload 4, 2) := by decide +kernel
theorem dX9_alike_29 : decode cX9_alike 29 = .ok (.aload_n 2, 1) := by decide +kernel
theorem dX9_alike_30 : decode cX9_alike 30 = .ok (.getfield 144, 3) := by decide +kernel
theorem dX9_alike_33 : decode cX9_alike 33 = .ok (.if_icmp .ge 38, 3) := by decide +kernel
theorem dX9_alike_36 : decode cX9_alike 36 = .ok (.aload_n 2, 1) := by decide +kernel
theorem dX9_alike_37 : decode cX9_alike 37 = .ok (.iload_n 1, 1) := by decide +kernel
theorem dX9_alike_38 : decode cX9_alike 38 = .ok (.invokevirtual 136, 3) := by decide +kernel
theorem dX9_alike_41 : decode cX9_alike 41 = .ok (.aload_n 2, 1) := by decide +kernel
theorem dX9_alike_42 : decode cX9_alike 42 = .ok (.iload 4, 2) := by decide +kernel
theorem dX9_alike_44 : decode cX9_alike 44 = .ok (.invokevirtual 136, 3) := by decide +kernel
theorem dX9_alike_47 : decode cX9_alike 47 = .ok (.lxor, 1) := by decide +kernel
theorem dX9_alike_48 : decode cX9_alike 48 = .ok (.aload_n 2, 1) := by decide +kernel
theorem dX9_alike_49 : decode cX9_alike 49 = .ok (.getfield 113, 3) := by decide +kernel
theorem dX9_alike_52 : decode cX9_alike 52 = .ok (.land, 1) := by decide +kernel
theorem dX9_alike_53 : decode cX9_alike 53 = .ok (.lconst 0, 1) := by decide +kernel
theorem dX9_alike_54 : decode cX9_alike 54 = .ok (.lcmp, 1) := by decide +kernel
theorem dX9_alike_55 : decode cX9_alike 55 = .ok (.ifCond .ne 10, 3) := by decide +kernel
theorem dX9_alike_58 : decode cX9_alike 58 = .ok (.iload_n 3, 1) := by decide +kernel
theorem dX9_alike_59 : decode cX9_alike 59 = .ok (.iconst 1, 1) := by decide +kernel
theorem dX9_alike_60 : decode cX9_alike 60 = .ok (.iload 4, 2) := by decide +kernel
theorem dX9_alike_62 : decode cX9_alike 62 = .ok (.ishl, 1) := by decide +kernel
theorem dX9_alike_63 : decode cX9_alike 63 = .ok (.ior, 1) := by decide +kernel
theorem dX9_alike_64 : decode cX9_alike 64 = .ok (.istore_n 3, 1) := by decide +kernel
theorem dX9_alike_65 : decode cX9_alike 65 = .ok (.iinc 4 1, 3) := by decide +kernel
theorem dX9_alike_68 : decode cX9_alike 68 = .ok (.goto (-41), 3) := by decide +kernel
theorem dX9_alike_71 : decode cX9_alike 71 = .ok (.aload_n 0, 1) := by decide +kernel
theorem dX9_alike_72 : decode cX9_alike 72 = .ok (.iload_n 3, 1) := by decide +kernel
theorem dX9_alike_73 : decode cX9_alike 73 = .ok (.invokevirtual 103, 3) := by decide +kernel
theorem dX9_alike_76 : decode cX9_alike 76 = .ok (.ireturn, 1) := by decide +kernel
theorem dX9_implies_0 : decode cX9_implies 0 = .ok (.aload_n 0, 1) := by decide +kernel
theorem dX9_implies_1 : decode cX9_implies 1 = .ok (.iload_n 1, 1) := by decide +kernel
theorem dX9_implies_2 : decode cX9_implies 2 = .ok (.invokevirtual 133, 3) := by decide +kernel
theorem dX9_implies_5 : decode cX9_implies 5 = .ok (.ifCond .eq 11, 3) := by decide +kernel
theorem dX9_implies_8 : decode cX9_implies 8 = .ok (.aload_n 0, 1) := by decide +kernel
theorem dX9_implies_9 : decode cX9_implies 9 = .ok (.iload_n 2, 1) := by decide +kernel
theorem dX9_implies_10 : decode cX9_implies 10 = .ok (.invokevirtual 133, 3) := by decide +kernel
theorem dX9_implies_13 : decode cX9_implies 13 = .ok (.ifCond .ne 9, 3) := by decide +kernel
theorem dX9_implies_16 : decode cX9_implies 16 = .ok (.aload_n 0, 1) := by decide +kernel
theorem dX9_implies_17 : decode cX9_implies 17 = .ok (.iconst 1, 1) := by decide +kernel
theorem dX9_implies_18 : decode cX9_implies 18 = .ok (.invokevirtual 70, 3) := by decide +kernel
theorem dX9_implies_21 : decode cX9_implies 21 = .ok (.ireturn, 1) := by decide +kernel
theorem dX9_implies_22 : decode cX9_implies 22 = .ok (.aload_n 0, 1) := by decide +kernel
theorem dX9_implies_23 : decode cX9_implies 23 = .ok (.getfield 10, 3) := by decide +kernel
theorem dX9_implies_26 : decode cX9_implies 26 = .ok (.getfield 37, 3) := by decide +kernel
theorem dX9_implies_29 : decode cX9_implies 29 = .ok (.astore_n 3, 1) := by decide +kernel
theorem dX9_implies_30 : decode cX9_implies 30 = .ok (.aload_n 3, 1) := by decide +kernel
theorem dX9_implies_31 : decode cX9_implies 31 = .ok (.getfield 113, 3) := by decide +kernel
theorem dX9_implies_34 : decode cX9_implies 34 = .ok (.aload_n 3, 1) := by decide +kernel
theorem dX9_implies_35 : decode cX9_implies 35 = .ok (.iload_n 1, 1) := by decide +kernel
theorem dX9_implies_36 : decode cX9_implies 36 = .ok (.invokevirtual 136, 3) := by decide +kernel
theorem dX9_implies_39 : decode cX9_implies 39 = .ok (.land, 1) := by decide +kernel
theorem dX9_implies_40 : decode cX9_implies 40 = .ok (.aload_n 3, 1) := by decide +kernel
theorem dX9_implies_41 : decode cX9_implies 41 = .ok (.iload_n 2, 1) := by decide +kernel
theorem dX9_implies_42 : decode cX9_implies 42 = .ok (.invokevirtual 136, 3) := by decide +kernel
theorem dX9_implies_45 : decode cX9_implies 45 = .ok (.ldc2_w 147, 3) := by decide +kernel
theorem dX9_implies_48 : decode cX9_implies 48 = .ok (.lxor, 1) := by decide +kernel
theorem dX9_implies_49 : decode cX9_implies 49 = .ok (.land, 1) := by decide +kernel
theorem dX9_implies_50 : decode cX9_implies 50 = .ok (.lstore 4, 2) := by decide +kernel
theorem dX9_implies_52 : decode cX9_implies 52 = .ok (.aload_n 0, 1) := by decide +kernel
theorem dX9_implies_53 : decode cX9_implies 53 = .ok (.lload 4, 2) := by decide +kernel
theorem dX9_implies_55 : decode cX9_implies 55 = .ok (.lconst 0, 1) := by decide +kernel
theorem dX9_implies_56 : decode cX9_implies 56 = .ok (.lcmp, 1) := by decide +kernel
theorem dX9_implies_57 : decode cX9_implies 57 = .ok (.ifCond .ne 7, 3) := by decide +kernel
theorem dX9_implies_60 : decode cX9_implies 60 = .ok (.iconst 1, 1) := by decide +kernel
theorem dX9_implies_61 : decode cX9_implies 61 = .ok (.goto 4, 3) := by decide +kernel
theorem dX9_implies_64 : decode cX9_implies 64 = .ok (.iconst 0, 1) := by decide +kernel
theorem dX9_implies_65 : decode cX9_implies 65 = .ok (.invokevirtual 103, 3) := by decide +kernel
theorem dX9_implies_68 : decode cX9_implies 68 = .ok (.ireturn, 1) := by decide +kernel
theorem dX9_liars_0 : decode cX9_liars 0 = .ok (.aload_n 0, 1) := by decide +kernel
theorem dX9_liars_1 : decode cX9_liars 1 = .ok (.getfield 90, 3) := by decide +kernel
theorem dX9_liars_4 : decode cX9_liars 4 = .ok (.ifCond .ne 9, 3) := by decide +kernel
theorem dX9_liars_7 : decode cX9_liars 7 = .ok (.aload_n 0, 1) := by decide +kernel
theorem dX9_liars_8 : decode cX9_liars 8 = .ok (.iconst 1, 1) := by decide +kernel
theorem dX9_liars_9 : decode cX9_liars 9 = .ok (.invokevirtual 70, 3) := by decide +kernel
theorem dX9_liars_12 : decode cX9_liars 12 = .ok (.ireturn, 1) := by decide +kernel
theorem dX9_liars_13 : decode cX9_liars 13 = .ok (.aload_n 0, 1) := by decide +kernel
theorem dX9_liars_14 : decode cX9_liars 14 = .ok (.aload_n 0, 1) := by decide +kernel
theorem dX9_liars_15 : decode cX9_liars 15 = .ok (.getfield 10, 3) := by decide +kernel
theorem dX9_liars_18 : decode cX9_liars 18 = .ok (.getfield 149, 3) := by decide +kernel
theorem dX9_liars_21 : decode cX9_liars 21 = .ok (.getfield 153, 3) := by decide +kernel
theorem dX9_liars_24 : decode cX9_liars 24 = .ok (.ifCond .ne 8, 3) := by decide +kernel
theorem dX9_liars_27 : decode cX9_liars 27 = .ok (.bipush (-2), 2) := by decide +kernel
theorem dX9_liars_29 : decode cX9_liars 29 = .ok (.goto 13, 3) := by decide +kernel
theorem dX9_liars_32 : decode cX9_liars 32 = .ok (.aload_n 0, 1) := by decide +kernel
theorem dX9_liars_33 : decode cX9_liars 33 = .ok (.getfield 10, 3) := by decide +kernel
theorem dX9_liars_36 : decode cX9_liars 36 = .ok (.getfield 149, 3) := by decide +kernel
theorem dX9_liars_39 : decode cX9_liars 39 = .ok (.getfield 158, 3) := by decide +kernel
theorem dX9_liars_42 : decode cX9_liars 42 = .ok (.invokevirtual 103, 3) := by decide +kernel
theorem dX9_liars_45 : decode cX9_liars 45 = .ok (.ireturn, 1) := by decide +kernel
theorem dX9_sets_0 : decode cX9_sets 0 = .ok (.aload_n 0, 1) := by decide +kernel
theorem dX9_sets_1 : decode cX9_sets 1 = .ok (.getfield 90, 3) := by decide +kernel
theorem dX9_sets_4 : decode cX9_sets 4 = .ok (.ifCond .ne 9, 3) := by decide +kernel
theorem dX9_sets_7 : decode cX9_sets 7 = .ok (.aload_n 0, 1) := by decide +kernel
theorem dX9_sets_8 : decode cX9_sets 8 = .ok (.iconst 1, 1) := by decide +kernel
theorem dX9_sets_9 : decode cX9_sets 9 = .ok (.invokevirtual 70, 3) := by decide +kernel
theorem dX9_sets_12 : decode cX9_sets 12 = .ok (.ireturn, 1) := by decide +kernel
theorem dX9_sets_13 : decode cX9_sets 13 = .ok (.aload_n 0, 1) := by decide +kernel
theorem dX9_sets_14 : decode cX9_sets 14 = .ok (.aload_n 0, 1) := by decide +kernel
theorem dX9_sets_15 : decode cX9_sets 15 = .ok (.getfield 10, 3) := by decide +kernel
theorem dX9_sets_18 : decode cX9_sets 18 = .ok (.getfield 149, 3) := by decide +kernel
theorem dX9_sets_21 : decode cX9_sets 21 = .ok (.getfield 153, 3) := by decide +kernel
theorem dX9_sets_24 : decode cX9_sets 24 = .ok (.invokevirtual 103, 3) := by decide +kernel
theorem dX9_sets_27 : decode cX9_sets 27 = .ok (.ireturn, 1) := by decide +kernel
theorem dX9_lies_0 : decode cX9_lies 0 = .ok (.aload_n 0, 1) := by decide +kernel
theorem dX9_lies_1 : decode cX9_lies 1 = .ok (.iload_n 1, 1) := by decide +kernel
theorem dX9_lies_2 : decode cX9_lies 2 = .ok (.invokevirtual 161, 3) := by decide +kernel
theorem dX9_lies_5 : decode cX9_lies 5 = .ok (.ifCond .ne 9, 3) := by decide +kernel
theorem dX9_lies_8 : decode cX9_lies 8 = .ok (.aload_n 0, 1) := by decide +kernel
theorem dX9_lies_9 : decode cX9_lies 9 = .ok (.iconst 1, 1) := by decide +kernel
theorem dX9_lies_10 : decode cX9_lies 10 = .ok (.invokevirtual 70, 3) := by decide +kernel
theorem dX9_lies_13 : decode cX9_lies 13 = .ok (.ireturn, 1) := by decide +kernel
theorem dX9_lies_14 : decode cX9_lies 14 = .ok (.aload_n 0, 1) := by decide +kernel
theorem dX9_lies_15 : decode cX9_lies 15 = .ok (.getfield 10, 3) := by decide +kernel
theorem dX9_lies_18 : decode cX9_lies 18 = .ok (.getfield 149, 3) := by decide +kernel
theorem dX9_lies_21 : decode cX9_lies 21 = .ok (.astore_n 2, 1) := by decide +kernel
theorem dX9_lies_22 : decode cX9_lies 22 = .ok (.aload_n 2, 1) := by decide +kernel
theorem dX9_lies_23 : decode cX9_lies 23 = .ok (.getfield 153, 3) := by decide +kernel
theorem dX9_lies_26 : decode cX9_lies 26 = .ok (.ifCond .ne 10, 3) := by decide +kernel
theorem dX9_lies_29 : decode cX9_lies 29 = .ok (.aload_n 0, 1) := by decide +kernel
theorem dX9_lies_30 : decode cX9_lies 30 = .ok (.bipush (-2), 2) := by decide +kernel
theorem dX9_lies_32 : decode cX9_lies 32 = .ok (.invokevirtual 103, 3) := by decide +kernel
theorem dX9_lies_35 : decode cX9_lies 35 = .ok (.ireturn, 1) := by decide +kernel
theorem dX9_lies_36 : decode cX9_lies 36 = .ok (.aload_n 0, 1) := by decide +kernel
theorem dX9_lies_37 : decode cX9_lies 37 = .ok (.aload_n 2, 1) := by decide +kernel
theorem dX9_lies_38 : decode cX9_lies 38 = .ok (.getfield 164, 3) := by decide +kernel
theorem dX9_lies_41 : decode cX9_lies 41 = .ok (.i2l, 1) := by decide +kernel
theorem dX9_lies_42 : decode cX9_lies 42 = .ok (.iload_n 1, 1) := by decide +kernel
theorem dX9_lies_43 : decode cX9_lies 43 = .ok (.invokestatic 119, 3) := by decide +kernel
theorem dX9_lies_46 : decode cX9_lies 46 = .ok (.aload_n 2, 1) := by decide +kernel
theorem dX9_lies_47 : decode cX9_lies 47 = .ok (.getfield 167, 3) := by decide +kernel
theorem dX9_lies_50 : decode cX9_lies 50 = .ok (.i2l, 1) := by decide +kernel
theorem dX9_lies_51 : decode cX9_lies 51 = .ok (.iload_n 1, 1) := by decide +kernel
theorem dX9_lies_52 : decode cX9_lies 52 = .ok (.invokestatic 119, 3) := by decide +kernel
theorem dX9_lies_55 : decode cX9_lies 55 = .ok (.iadd, 1) := by decide +kernel
theorem dX9_lies_56 : decode cX9_lies 56 = .ok (.invokevirtual 103, 3) := by decide +kernel
theorem dX9_lies_59 : decode cX9_lies 59 = .ok (.ireturn, 1) := by decide +kernel
theorem dX9_kin_0 : decode cX9_kin 0 = .ok (.aload_n 0, 1) := by decide +kernel
theorem dX9_kin_1 : decode cX9_kin 1 = .ok (.iload_n 1, 1) := by decide +kernel
theorem dX9_kin_2 : decode cX9_kin 2 = .ok (.invokevirtual 161, 3) := by decide +kernel
theorem dX9_kin_5 : decode cX9_kin 5 = .ok (.ifCond .ne 9, 3) := by decide +kernel
theorem dX9_kin_8 : decode cX9_kin 8 = .ok (.aload_n 0, 1) := by decide +kernel
theorem dX9_kin_9 : decode cX9_kin 9 = .ok (.iconst 1, 1) := by decide +kernel
theorem dX9_kin_10 : decode cX9_kin 10 = .ok (.invokevirtual 70, 3) := by decide +kernel
theorem dX9_kin_13 : decode cX9_kin 13 = .ok (.ireturn, 1) := by decide +kernel
theorem dX9_kin_14 : decode cX9_kin 14 = .ok (.aload_n 0, 1) := by decide +kernel
theorem dX9_kin_15 : decode cX9_kin 15 = .ok (.aload_n 0, 1) := by decide +kernel
theorem dX9_kin_16 : decode cX9_kin 16 = .ok (.getfield 10, 3) := by decide +kernel
theorem dX9_kin_19 : decode cX9_kin 19 = .ok (.getfield 170, 3) := by decide +kernel
theorem dX9_kin_22 : decode cX9_kin 22 = .ok (.iload_n 1, 1) := by decide +kernel
theorem dX9_kin_23 : decode cX9_kin 23 = .ok (.invokevirtual 174, 3) := by decide +kernel
theorem dX9_kin_26 : decode cX9_kin 26 = .ok (.invokevirtual 103, 3) := by decide +kernel
theorem dX9_kin_29 : decode cX9_kin 29 = .ok (.ireturn, 1) := by decide +kernel
theorem dX9_left_0 : decode cX9_left 0 = .ok (.aload_n 0, 1) := by decide +kernel
theorem dX9_left_1 : decode cX9_left 1 = .ok (.iload_n 1, 1) := by decide +kernel
theorem dX9_left_2 : decode cX9_left 2 = .ok (.invokevirtual 161, 3) := by decide +kernel
theorem dX9_left_5 : decode cX9_left 5 = .ok (.ifCond .ne 9, 3) := by decide +kernel
theorem dX9_left_8 : decode cX9_left 8 = .ok (.aload_n 0, 1) := by decide +kernel
theorem dX9_left_9 : decode cX9_left 9 = .ok (.iconst 1, 1) := by decide +kernel
theorem dX9_left_10 : decode cX9_left 10 = .ok (.invokevirtual 70, 3) := by decide +kernel
theorem dX9_left_13 : decode cX9_left 13 = .ok (.ireturn, 1) := by decide +kernel
theorem dX9_left_14 : decode cX9_left 14 = .ok (.aload_n 0, 1) := by decide +kernel
theorem dX9_left_15 : decode cX9_left 15 = .ok (.aload_n 0, 1) := by decide +kernel
theorem dX9_left_16 : decode cX9_left 16 = .ok (.getfield 10, 3) := by decide +kernel
theorem dX9_left_19 : decode cX9_left 19 = .ok (.getfield 149, 3) := by decide +kernel
theorem dX9_left_22 : decode cX9_left 22 = .ok (.iload_n 1, 1) := by decide +kernel
theorem dX9_left_23 : decode cX9_left 23 = .ok (.invokevirtual 177, 3) := by decide +kernel
theorem dX9_left_26 : decode cX9_left 26 = .ok (.invokestatic 123, 3) := by decide +kernel
theorem dX9_left_29 : decode cX9_left 29 = .ok (.invokevirtual 103, 3) := by decide +kernel
theorem dX9_left_32 : decode cX9_left 32 = .ok (.ireturn, 1) := by decide +kernel
theorem dX9_known_0 : decode cX9_known 0 = .ok (.aload_n 0, 1) := by decide +kernel
theorem dX9_known_1 : decode cX9_known 1 = .ok (.iload_n 1, 1) := by decide +kernel
theorem dX9_known_2 : decode cX9_known 2 = .ok (.invokevirtual 161, 3) := by decide +kernel
theorem dX9_known_5 : decode cX9_known 5 = .ok (.ifCond .eq 11, 3) := by decide +kernel
theorem dX9_known_8 : decode cX9_known 8 = .ok (.aload_n 0, 1) := by decide +kernel
theorem dX9_known_9 : decode cX9_known 9 = .ok (.iload_n 2, 1) := by decide +kernel
theorem dX9_known_10 : decode cX9_known 10 = .ok (.invokevirtual 133, 3) := by decide +kernel
theorem dX9_known_13 : decode cX9_known 13 = .ok (.ifCond .ne 9, 3) := by decide +kernel
theorem dX9_known_16 : decode cX9_known 16 = .ok (.aload_n 0, 1) := by decide +kernel
theorem dX9_known_17 : decode cX9_known 17 = .ok (.iconst 1, 1) := by decide +kernel
theorem dX9_known_18 : decode cX9_known 18 = .ok (.invokevirtual 70, 3) := by decide +kernel
theorem dX9_known_21 : decode cX9_known 21 = .ok (.ireturn, 1) := by decide +kernel
theorem dX9_known_22 : decode cX9_known 22 = .ok (.aload_n 0, 1) := by decide +kernel
theorem dX9_known_23 : decode cX9_known 23 = .ok (.aload_n 0, 1) := by decide +kernel
theorem dX9_known_24 : decode cX9_known 24 = .ok (.getfield 10, 3) := by decide +kernel
theorem dX9_known_27 : decode cX9_known 27 = .ok (.getfield 149, 3) := by decide +kernel
theorem dX9_known_30 : decode cX9_known 30 = .ok (.iload_n 1, 1) := by decide +kernel
theorem dX9_known_31 : decode cX9_known 31 = .ok (.invokevirtual 177, 3) := by decide +kernel
theorem dX9_known_34 : decode cX9_known 34 = .ok (.aload_n 0, 1) := by decide +kernel
theorem dX9_known_35 : decode cX9_known 35 = .ok (.getfield 10, 3) := by decide +kernel
theorem dX9_known_38 : decode cX9_known 38 = .ok (.getfield 37, 3) := by decide +kernel
theorem dX9_known_41 : decode cX9_known 41 = .ok (.iload_n 2, 1) := by decide +kernel
theorem dX9_known_42 : decode cX9_known 42 = .ok (.invokevirtual 136, 3) := by decide +kernel
theorem dX9_known_45 : decode cX9_known 45 = .ok (.invokestatic 180, 3) := by decide +kernel
theorem dX9_known_48 : decode cX9_known 48 = .ok (.invokevirtual 103, 3) := by decide +kernel
theorem dX9_known_51 : decode cX9_known 51 = .ok (.ireturn, 1) := by decide +kernel
theorem dX9_fact_0 : decode cX9_fact 0 = .ok (.aload_n 0, 1) := by decide +kernel
theorem dX9_fact_1 : decode cX9_fact 1 = .ok (.iload_n 1, 1) := by decide +kernel
theorem dX9_fact_2 : decode cX9_fact 2 = .ok (.invokevirtual 161, 3) := by decide +kernel
theorem dX9_fact_5 : decode cX9_fact 5 = .ok (.ifCond .eq 27, 3) := by decide +kernel
theorem dX9_fact_8 : decode cX9_fact 8 = .ok (.iload_n 2, 1) := by decide +kernel
theorem dX9_fact_9 : decode cX9_fact 9 = .ok (.ifCond .lt 23, 3) := by decide +kernel
theorem dX9_fact_12 : decode cX9_fact 12 = .ok (.iload_n 2, 1) := by decide +kernel
theorem dX9_fact_13 : decode cX9_fact 13 = .ok (.aload_n 0, 1) := by decide +kernel
theorem dX9_fact_14 : decode cX9_fact 14 = .ok (.getfield 10, 3) := by decide +kernel
theorem dX9_fact_17 : decode cX9_fact 17 = .ok (.getfield 37, 3) := by decide +kernel
theorem dX9_fact_20 : decode cX9_fact 20 = .ok (.getfield 184, 3) := by decide +kernel
theorem dX9_fact_23 : decode cX9_fact 23 = .ok (.if_icmp .ge 9, 3) := by decide +kernel
theorem dX9_fact_26 : decode cX9_fact 26 = .ok (.iload_n 2, 1) := by decide +kernel
theorem dX9_fact_27 : decode cX9_fact 27 = .ok (.bipush 6, 2) := by decide +kernel
theorem dX9_fact_29 : decode cX9_fact 29 = .ok (.if_icmp .lt 9, 3) := by decide +kernel
theorem dX9_fact_32 : decode cX9_fact 32 = .ok (.aload_n 0, 1) := by decide +kernel
theorem dX9_fact_33 : decode cX9_fact 33 = .ok (.iconst 1, 1) := by decide +kernel
theorem dX9_fact_34 : decode cX9_fact 34 = .ok (.invokevirtual 70, 3) := by decide +kernel
theorem dX9_fact_37 : decode cX9_fact 37 = .ok (.ireturn, 1) := by decide +kernel
theorem dX9_fact_38 : decode cX9_fact 38 = .ok (.aload_n 0, 1) := by decide +kernel
theorem dX9_fact_39 : decode cX9_fact 39 = .ok (.aload_n 0, 1) := by decide +kernel
theorem dX9_fact_40 : decode cX9_fact 40 = .ok (.getfield 10, 3) := by decide +kernel
theorem dX9_fact_43 : decode cX9_fact 43 = .ok (.getfield 149, 3) := by decide +kernel
theorem dX9_fact_46 : decode cX9_fact 46 = .ok (.iload_n 1, 1) := by decide +kernel
theorem dX9_fact_47 : decode cX9_fact 47 = .ok (.invokevirtual 177, 3) := by decide +kernel
theorem dX9_fact_50 : decode cX9_fact 50 = .ok (.getstatic 187, 3) := by decide +kernel
theorem dX9_fact_53 : decode cX9_fact 53 = .ok (.iload_n 2, 1) := by decide +kernel
theorem dX9_fact_54 : decode cX9_fact 54 = .ok (.laload, 1) := by decide +kernel
theorem dX9_fact_55 : decode cX9_fact 55 = .ok (.invokestatic 180, 3) := by decide +kernel
theorem dX9_fact_58 : decode cX9_fact 58 = .ok (.invokevirtual 103, 3) := by decide +kernel
theorem dX9_fact_61 : decode cX9_fact 61 = .ok (.ireturn, 1) := by decide +kernel
theorem dX9_knownByAll_0 : decode cX9_knownByAll 0 = .ok (.aload_n 0, 1) := by decide +kernel
theorem dX9_knownByAll_1 : decode cX9_knownByAll 1 = .ok (.iload_n 1, 1) := by decide +kernel
theorem dX9_knownByAll_2 : decode cX9_knownByAll 2 = .ok (.invokevirtual 133, 3) := by decide +kernel
theorem dX9_knownByAll_5 : decode cX9_knownByAll 5 = .ok (.ifCond .ne 9, 3) := by decide +kernel
theorem dX9_knownByAll_8 : decode cX9_knownByAll 8 = .ok (.aload_n 0, 1) := by decide +kernel
theorem dX9_knownByAll_9 : decode cX9_knownByAll 9 = .ok (.iconst 1, 1) := by decide +kernel
theorem dX9_knownByAll_10 : decode cX9_knownByAll 10 = .ok (.invokevirtual 70, 3) := by decide +kernel
theorem dX9_knownByAll_13 : decode cX9_knownByAll 13 = .ok (.ireturn, 1) := by decide +kernel
theorem dX9_knownByAll_14 : decode cX9_knownByAll 14 = .ok (.aload_n 0, 1) := by decide +kernel
theorem dX9_knownByAll_15 : decode cX9_knownByAll 15 = .ok (.aload_n 0, 1) := by decide +kernel
theorem dX9_knownByAll_16 : decode cX9_knownByAll 16 = .ok (.getfield 10, 3) := by decide +kernel
theorem dX9_knownByAll_19 : decode cX9_knownByAll 19 = .ok (.getfield 149, 3) := by decide +kernel
theorem dX9_knownByAll_22 : decode cX9_knownByAll 22 = .ok (.invokevirtual 191, 3) := by decide +kernel
theorem dX9_knownByAll_25 : decode cX9_knownByAll 25 = .ok (.aload_n 0, 1) := by decide +kernel
theorem dX9_knownByAll_26 : decode cX9_knownByAll 26 = .ok (.getfield 10, 3) := by decide +kernel
theorem dX9_knownByAll_29 : decode cX9_knownByAll 29 = .ok (.getfield 37, 3) := by decide +kernel
theorem dX9_knownByAll_32 : decode cX9_knownByAll 32 = .ok (.iload_n 1, 1) := by decide +kernel
theorem dX9_knownByAll_33 : decode cX9_knownByAll 33 = .ok (.invokevirtual 136, 3) := by decide +kernel
theorem dX9_knownByAll_36 : decode cX9_knownByAll 36 = .ok (.invokestatic 180, 3) := by decide +kernel
theorem dX9_knownByAll_39 : decode cX9_knownByAll 39 = .ok (.invokevirtual 103, 3) := by decide +kernel
theorem dX9_knownByAll_42 : decode cX9_knownByAll 42 = .ok (.ireturn, 1) := by decide +kernel
theorem dX9_onlyTogether_0 : decode cX9_onlyTogether 0 = .ok (.aload_n 0, 1) := by decide +kernel
theorem dX9_onlyTogether_1 : decode cX9_onlyTogether 1 = .ok (.getfield 90, 3) := by decide +kernel
theorem dX9_onlyTogether_4 : decode cX9_onlyTogether 4 = .ok (.ifCond .ne 9, 3) := by decide +kernel
theorem dX9_onlyTogether_7 : decode cX9_onlyTogether 7 = .ok (.aload_n 0, 1) := by decide +kernel
theorem dX9_onlyTogether_8 : decode cX9_onlyTogether 8 = .ok (.iconst 1, 1) := by decide +kernel
theorem dX9_onlyTogether_9 : decode cX9_onlyTogether 9 = .ok (.invokevirtual 70, 3) := by decide +kernel
theorem dX9_onlyTogether_12 : decode cX9_onlyTogether 12 = .ok (.ireturn, 1) := by decide +kernel
theorem dX9_onlyTogether_13 : decode cX9_onlyTogether 13 = .ok (.aload_n 0, 1) := by decide +kernel
theorem dX9_onlyTogether_14 : decode cX9_onlyTogether 14 = .ok (.getfield 10, 3) := by decide +kernel
theorem dX9_onlyTogether_17 : decode cX9_onlyTogether 17 = .ok (.getfield 37, 3) := by decide +kernel
theorem dX9_onlyTogether_20 : decode cX9_onlyTogether 20 = .ok (.astore_n 1, 1) := by decide +kernel
theorem dX9_onlyTogether_21 : decode cX9_onlyTogether 21 = .ok (.aload_n 1, 1) := by decide +kernel
theorem dX9_onlyTogether_22 : decode cX9_onlyTogether 22 = .ok (.aload_n 0, 1) := by decide +kernel
theorem dX9_onlyTogether_23 : decode cX9_onlyTogether 23 = .ok (.getfield 10, 3) := by decide +kernel
theorem dX9_onlyTogether_26 : decode cX9_onlyTogether 26 = .ok (.getfield 149, 3) := by decide +kernel
theorem dX9_onlyTogether_29 : decode cX9_onlyTogether 29 = .ok (.invokevirtual 191, 3) := by decide +kernel
theorem dX9_onlyTogether_32 : decode cX9_onlyTogether 32 = .ok (.invokevirtual 195, 3) := by decide +kernel
theorem dX9_onlyTogether_35 : decode cX9_onlyTogether 35 = .ok (.istore_n 2, 1) := by decide +kernel
theorem dX9_onlyTogether_36 : decode cX9_onlyTogether 36 = .ok (.iconst 0, 1) := by decide +kernel
theorem dX9_onlyTogether_37 : decode cX9_onlyTogether 37 = .ok (.istore_n 3, 1) := by decide +kernel
theorem dX9_onlyTogether_38 : decode cX9_onlyTogether 38 = .ok (.iload_n 3, 1) := by decide +kernel
theorem dX9_onlyTogether_39 : decode cX9_onlyTogether 39 = .ok (.aload_n 0, 1) := by decide +kernel
theorem dX9_onlyTogether_40 : decode cX9_onlyTogether 40 = .ok (.getfield 10, 3) := by decide +kernel
theorem dX9_onlyTogether_43 : decode cX9_onlyTogether 43 = .ok (.getfield 100, 3) := by decide +kernel
theorem dX9_onlyTogether_46 : decode cX9_onlyTogether 46 = .ok (.if_icmp .ge 29, 3) := by decide +kernel
theorem dX9_onlyTogether_49 : decode cX9_onlyTogether 49 = .ok (.iload_n 2, 1) := by decide +kernel
theorem dX9_onlyTogether_50 : decode cX9_onlyTogether 50 = .ok (.aload_n 1, 1) := by decide +kernel
theorem dX9_onlyTogether_51 : decode cX9_onlyTogether 51 = .ok (.aload_n 0, 1) := by decide +kernel
theorem dX9_onlyTogether_52 : decode cX9_onlyTogether 52 = .ok (.getfield 10, 3) := by decide +kernel
theorem dX9_onlyTogether_55 : decode cX9_onlyTogether 55 = .ok (.getfield 149, 3) := by decide +kernel
theorem dX9_onlyTogether_58 : decode cX9_onlyTogether 58 = .ok (.iload_n 3, 1) := by decide +kernel
theorem dX9_onlyTogether_59 : decode cX9_onlyTogether 59 = .ok (.invokevirtual 177, 3) := by decide +kernel
theorem dX9_onlyTogether_62 : decode cX9_onlyTogether 62 = .ok (.invokevirtual 195, 3) := by decide +kernel
theorem dX9_onlyTogether_65 : decode cX9_onlyTogether 65 = .ok (.iconst (-1), 1) := by decide +kernel
theorem dX9_onlyTogether_66 : decode cX9_onlyTogether 66 = .ok (.ixor, 1) := by decide +kernel
theorem dX9_onlyTogether_67 : decode cX9_onlyTogether 67 = .ok (.iand, 1) := by decide +kernel
theorem dX9_onlyTogether_68 : decode cX9_onlyTogether 68 = .ok (.istore_n 2, 1) := by decide +kernel
theorem dX9_onlyTogether_69 : decode cX9_onlyTogether 69 = .ok (.iinc 3 1, 3) := by decide +kernel
theorem dX9_onlyTogether_72 : decode cX9_onlyTogether 72 = .ok (.goto (-34), 3) := by decide +kernel
theorem dX9_onlyTogether_75 : decode cX9_onlyTogether 75 = .ok (.aload_n 0, 1) := by decide +kernel
theorem dX9_onlyTogether_76 : decode cX9_onlyTogether 76 = .ok (.iload_n 2, 1) := by decide +kernel
theorem dX9_onlyTogether_77 : decode cX9_onlyTogether 77 = .ok (.invokevirtual 103, 3) := by decide +kernel
theorem dX9_onlyTogether_80 : decode cX9_onlyTogether 80 = .ok (.ireturn, 1) := by decide +kernel
theorem dX9_bestWedding_0 : decode cX9_bestWedding 0 = .ok (.aload_n 0, 1) := by decide +kernel
theorem dX9_bestWedding_1 : decode cX9_bestWedding 1 = .ok (.getfield 90, 3) := by decide +kernel
theorem dX9_bestWedding_4 : decode cX9_bestWedding 4 = .ok (.ifCond .ne 9, 3) := by decide +kernel
theorem dX9_bestWedding_7 : decode cX9_bestWedding 7 = .ok (.aload_n 0, 1) := by decide +kernel
theorem dX9_bestWedding_8 : decode cX9_bestWedding 8 = .ok (.iconst 1, 1) := by decide +kernel
theorem dX9_bestWedding_9 : decode cX9_bestWedding 9 = .ok (.invokevirtual 70, 3) := by decide +kernel
theorem dX9_bestWedding_12 : decode cX9_bestWedding 12 = .ok (.ireturn, 1) := by decide +kernel
theorem dX9_bestWedding_13 : decode cX9_bestWedding 13 = .ok (.iconst (-1), 1) := by decide +kernel
theorem dX9_bestWedding_14 : decode cX9_bestWedding 14 = .ok (.istore_n 1, 1) := by decide +kernel
theorem dX9_bestWedding_15 : decode cX9_bestWedding 15 = .ok (.bipush (-2), 2) := by decide +kernel
theorem dX9_bestWedding_17 : decode cX9_bestWedding 17 = .ok (.istore_n 2, 1) := by decide +kernel
theorem dX9_bestWedding_18 : decode cX9_bestWedding 18 = .ok (.iconst 0, 1) := by decide +kernel
theorem dX9_bestWedding_19 : decode cX9_bestWedding 19 = .ok (.istore_n 3, 1) := by decide +kernel
theorem dX9_bestWedding_20 : decode cX9_bestWedding 20 = .ok (.iload_n 3, 1) := by decide +kernel
theorem dX9_bestWedding_21 : decode cX9_bestWedding 21 = .ok (.aload_n 0, 1) := by decide +kernel
theorem dX9_bestWedding_22 : decode cX9_bestWedding 22 = .ok (.getfield 10, 3) := by decide +kernel
theorem dX9_bestWedding_25 : decode cX9_bestWedding 25 = .ok (.getfield 100, 3) := by decide +kernel
theorem dX9_bestWedding_28 : decode cX9_bestWedding 28 = .ok (.if_icmp .ge 58, 3) := by decide +kernel
theorem dX9_bestWedding_31 : decode cX9_bestWedding 31 = .ok (.iload_n 3, 1) := by decide +kernel
theorem dX9_bestWedding_32 : decode cX9_bestWedding 32 = .ok (.iconst 1, 1) := by decide +kernel
theorem dX9_bestWedding_33 : decode cX9_bestWedding 33 = .ok (.iadd, 1) := by decide +kernel
theorem dX9_bestWedding_34 : decode cX9_bestWedding 34 = .ok (.istore 4, 2) := by decide +kernel
theorem dX9_bestWedding_36 : decode cX9_bestWedding 36 = .ok (.iload 4, 2) := by decide +kernel
theorem dX9_bestWedding_38 : decode cX9_bestWedding 38 = .ok (.aload_n 0, 1) := by decide +kernel
theorem dX9_bestWedding_39 : decode cX9_bestWedding 39 = .ok (.getfield 10, 3) := by decide +kernel
theorem dX9_bestWedding_42 : decode cX9_bestWedding 42 = .ok (.getfield 100, 3) := by decide +kernel
theorem dX9_bestWedding_45 : decode cX9_bestWedding 45 = .ok (.if_icmp .ge 35, 3) := by decide +kernel
theorem dX9_bestWedding_48 : decode cX9_bestWedding 48 = .ok (.aload_n 0, 1) := by decide +kernel
theorem dX9_bestWedding_49 : decode cX9_bestWedding 49 = .ok (.iload_n 3, 1) := by decide +kernel
theorem dX9_bestWedding_50 : decode cX9_bestWedding 50 = .ok (.iload 4, 2) := by decide +kernel
theorem dX9_bestWedding_52 : decode cX9_bestWedding 52 = .ok (.invokevirtual 198, 3) := by decide +kernel
theorem dX9_bestWedding_55 : decode cX9_bestWedding 55 = .ok (.istore 5, 2) := by decide +kernel
theorem dX9_bestWedding_57 : decode cX9_bestWedding 57 = .ok (.iload 5, 2) := by decide +kernel
theorem dX9_bestWedding_59 : decode cX9_bestWedding 59 = .ok (.iload_n 1, 1) := by decide +kernel
theorem dX9_bestWedding_60 : decode cX9_bestWedding 60 = .ok (.if_icmp .le 14, 3) := by decide +kernel
theorem dX9_bestWedding_63 : decode cX9_bestWedding 63 = .ok (.iload 5, 2) := by decide +kernel
theorem dX9_bestWedding_65 : decode cX9_bestWedding 65 = .ok (.istore_n 1, 1) := by decide +kernel
theorem dX9_bestWedding_66 : decode cX9_bestWedding 66 = .ok (.bipush 10, 2) := by decide +kernel
theorem dX9_bestWedding_68 : decode cX9_bestWedding 68 = .ok (.iload_n 3, 1) := by decide +kernel
theorem dX9_bestWedding_69 : decode cX9_bestWedding 69 = .ok (.imul, 1) := by decide +kernel
theorem dX9_bestWedding_70 : decode cX9_bestWedding 70 = .ok (.iload 4, 2) := by decide +kernel
theorem dX9_bestWedding_72 : decode cX9_bestWedding 72 = .ok (.iadd, 1) := by decide +kernel
theorem dX9_bestWedding_73 : decode cX9_bestWedding 73 = .ok (.istore_n 2, 1) := by decide +kernel
theorem dX9_bestWedding_74 : decode cX9_bestWedding 74 = .ok (.iinc 4 1, 3) := by decide +kernel
theorem dX9_bestWedding_77 : decode cX9_bestWedding 77 = .ok (.goto (-41), 3) := by decide +kernel
theorem dX9_bestWedding_80 : decode cX9_bestWedding 80 = .ok (.iinc 3 1, 3) := by decide +kernel
theorem dX9_bestWedding_83 : decode cX9_bestWedding 83 = .ok (.goto (-63), 3) := by decide +kernel
theorem dX9_bestWedding_86 : decode cX9_bestWedding 86 = .ok (.aload_n 0, 1) := by decide +kernel
theorem dX9_bestWedding_87 : decode cX9_bestWedding 87 = .ok (.iload_n 2, 1) := by decide +kernel
theorem dX9_bestWedding_88 : decode cX9_bestWedding 88 = .ok (.invokevirtual 103, 3) := by decide +kernel
theorem dX9_bestWedding_91 : decode cX9_bestWedding 91 = .ok (.ireturn, 1) := by decide +kernel
theorem dX9_likeliest_0 : decode cX9_likeliest 0 = .ok (.aload_n 0, 1) := by decide +kernel
theorem dX9_likeliest_1 : decode cX9_likeliest 1 = .ok (.iload_n 1, 1) := by decide +kernel
theorem dX9_likeliest_2 : decode cX9_likeliest 2 = .ok (.invokevirtual 161, 3) := by decide +kernel
theorem dX9_likeliest_5 : decode cX9_likeliest 5 = .ok (.ifCond .ne 9, 3) := by decide +kernel
theorem dX9_likeliest_8 : decode cX9_likeliest 8 = .ok (.aload_n 0, 1) := by decide +kernel
theorem dX9_likeliest_9 : decode cX9_likeliest 9 = .ok (.iconst 1, 1) := by decide +kernel
theorem dX9_likeliest_10 : decode cX9_likeliest 10 = .ok (.invokevirtual 70, 3) := by decide +kernel
theorem dX9_likeliest_13 : decode cX9_likeliest 13 = .ok (.ireturn, 1) := by decide +kernel
theorem dX9_likeliest_14 : decode cX9_likeliest 14 = .ok (.aload_n 0, 1) := by decide +kernel
theorem dX9_likeliest_15 : decode cX9_likeliest 15 = .ok (.aload_n 0, 1) := by decide +kernel
theorem dX9_likeliest_16 : decode cX9_likeliest 16 = .ok (.getfield 10, 3) := by decide +kernel
theorem dX9_likeliest_19 : decode cX9_likeliest 19 = .ok (.getfield 37, 3) := by decide +kernel
theorem dX9_likeliest_22 : decode cX9_likeliest 22 = .ok (.aload_n 0, 1) := by decide +kernel
theorem dX9_likeliest_23 : decode cX9_likeliest 23 = .ok (.getfield 10, 3) := by decide +kernel
theorem dX9_likeliest_26 : decode cX9_likeliest 26 = .ok (.getfield 149, 3) := by decide +kernel
theorem dX9_likeliest_29 : decode cX9_likeliest 29 = .ok (.iload_n 1, 1) := by decide +kernel
theorem dX9_likeliest_30 : decode cX9_likeliest 30 = .ok (.invokevirtual 177, 3) := by decide +kernel
theorem dX9_likeliest_33 : decode cX9_likeliest 33 = .ok (.invokevirtual 202, 3) := by decide +kernel
theorem dX9_likeliest_36 : decode cX9_likeliest 36 = .ok (.invokevirtual 103, 3) := by decide +kernel
theorem dX9_likeliest_39 : decode cX9_likeliest 39 = .ok (.ireturn, 1) := by decide +kernel
theorem dX9_chanceOf_0 : decode cX9_chanceOf 0 = .ok (.aload_n 0, 1) := by decide +kernel
theorem dX9_chanceOf_1 : decode cX9_chanceOf 1 = .ok (.iload_n 1, 1) := by decide +kernel
theorem dX9_chanceOf_2 : decode cX9_chanceOf 2 = .ok (.invokevirtual 161, 3) := by decide +kernel
theorem dX9_chanceOf_5 : decode cX9_chanceOf 5 = .ok (.ifCond .eq 11, 3) := by decide +kernel
theorem dX9_chanceOf_8 : decode cX9_chanceOf 8 = .ok (.aload_n 0, 1) := by decide +kernel
theorem dX9_chanceOf_9 : decode cX9_chanceOf 9 = .ok (.iload_n 2, 1) := by decide +kernel
theorem dX9_chanceOf_10 : decode cX9_chanceOf 10 = .ok (.invokevirtual 133, 3) := by decide +kernel
theorem dX9_chanceOf_13 : decode cX9_chanceOf 13 = .ok (.ifCond .ne 10, 3) := by decide +kernel
theorem dX9_chanceOf_16 : decode cX9_chanceOf 16 = .ok (.aload_n 0, 1) := by decide +kernel
theorem dX9_chanceOf_17 : decode cX9_chanceOf 17 = .ok (.iconst 1, 1) := by decide +kernel
theorem dX9_chanceOf_18 : decode cX9_chanceOf 18 = .ok (.invokevirtual 70, 3) := by decide +kernel
theorem dX9_chanceOf_21 : decode cX9_chanceOf 21 = .ok (.i2l, 1) := by decide +kernel
theorem dX9_chanceOf_22 : decode cX9_chanceOf 22 = .ok (.lreturn, 1) := by decide +kernel
theorem dX9_chanceOf_23 : decode cX9_chanceOf 23 = .ok (.aload_n 0, 1) := by decide +kernel
theorem dX9_chanceOf_24 : decode cX9_chanceOf 24 = .ok (.getfield 10, 3) := by decide +kernel
theorem dX9_chanceOf_27 : decode cX9_chanceOf 27 = .ok (.getfield 149, 3) := by decide +kernel
theorem dX9_chanceOf_30 : decode cX9_chanceOf 30 = .ok (.iload_n 1, 1) := by decide +kernel
theorem dX9_chanceOf_31 : decode cX9_chanceOf 31 = .ok (.invokevirtual 177, 3) := by decide +kernel
theorem dX9_chanceOf_34 : decode cX9_chanceOf 34 = .ok (.lstore 4, 2) := by decide +kernel
theorem dX9_chanceOf_36 : decode cX9_chanceOf 36 = .ok (.lload 4, 2) := by decide +kernel
theorem dX9_chanceOf_38 : decode cX9_chanceOf 38 = .ok (.lconst 0, 1) := by decide +kernel
theorem dX9_chanceOf_39 : decode cX9_chanceOf 39 = .ok (.lcmp, 1) := by decide +kernel
theorem dX9_chanceOf_40 : decode cX9_chanceOf 40 = .ok (.ifCond .ne 11, 3) := by decide +kernel
theorem dX9_chanceOf_43 : decode cX9_chanceOf 43 = .ok (.aload_n 0, 1) := by decide +kernel
theorem dX9_chanceOf_44 : decode cX9_chanceOf 44 = .ok (.bipush 6, 2) := by decide +kernel
theorem dX9_chanceOf_46 : decode cX9_chanceOf 46 = .ok (.invokevirtual 70, 3) := by decide +kernel
theorem dX9_chanceOf_49 : decode cX9_chanceOf 49 = .ok (.i2l, 1) := by decide +kernel
theorem dX9_chanceOf_50 : decode cX9_chanceOf 50 = .ok (.lreturn, 1) := by decide +kernel
theorem dX9_chanceOf_51 : decode cX9_chanceOf 51 = .ok (.aload_n 0, 1) := by decide +kernel
theorem dX9_chanceOf_52 : decode cX9_chanceOf 52 = .ok (.lload 4, 2) := by decide +kernel
theorem dX9_chanceOf_54 : decode cX9_chanceOf 54 = .ok (.iload_n 2, 1) := by decide +kernel
theorem dX9_chanceOf_55 : decode cX9_chanceOf 55 = .ok (.iload_n 3, 1) := by decide +kernel
theorem dX9_chanceOf_56 : decode cX9_chanceOf 56 = .ok (.invokevirtual 140, 3) := by decide +kernel
theorem dX9_chanceOf_59 : decode cX9_chanceOf 59 = .ok (.lreturn, 1) := by decide +kernel
theorem dX9_wouldKnow_0 : decode cX9_wouldKnow 0 = .ok (.aload_n 0, 1) := by decide +kernel
theorem dX9_wouldKnow_1 : decode cX9_wouldKnow 1 = .ok (.iload_n 1, 1) := by decide +kernel
theorem dX9_wouldKnow_2 : decode cX9_wouldKnow 2 = .ok (.invokevirtual 161, 3) := by decide +kernel
theorem dX9_wouldKnow_5 : decode cX9_wouldKnow 5 = .ok (.ifCond .eq 11, 3) := by decide +kernel
theorem dX9_wouldKnow_8 : decode cX9_wouldKnow 8 = .ok (.aload_n 0, 1) := by decide +kernel
theorem dX9_wouldKnow_9 : decode cX9_wouldKnow 9 = .ok (.iload_n 2, 1) := by decide +kernel
theorem dX9_wouldKnow_10 : decode cX9_wouldKnow 10 = .ok (.invokevirtual 133, 3) := by decide +kernel
theorem dX9_wouldKnow_13 : decode cX9_wouldKnow 13 = .ok (.ifCond .ne 9, 3) := by decide +kernel
theorem dX9_wouldKnow_16 : decode cX9_wouldKnow 16 = .ok (.aload_n 0, 1) := by decide +kernel
theorem dX9_wouldKnow_17 : decode cX9_wouldKnow 17 = .ok (.iconst 1, 1) := by decide +kernel
theorem dX9_wouldKnow_18 : decode cX9_wouldKnow 18 = .ok (.invokevirtual 70, 3) := by decide +kernel
theorem dX9_wouldKnow_21 : decode cX9_wouldKnow 21 = .ok (.ireturn, 1) := by decide +kernel
theorem dX9_wouldKnow_22 : decode cX9_wouldKnow 22 = .ok (.aload_n 0, 1) := by decide +kernel
theorem dX9_wouldKnow_23 : decode cX9_wouldKnow 23 = .ok (.getfield 10, 3) := by decide +kernel
theorem dX9_wouldKnow_26 : decode cX9_wouldKnow 26 = .ok (.getfield 149, 3) := by decide +kernel
theorem dX9_wouldKnow_29 : decode cX9_wouldKnow 29 = .ok (.iload_n 1, 1) := by decide +kernel
theorem dX9_wouldKnow_30 : decode cX9_wouldKnow 30 = .ok (.invokevirtual 177, 3) := by decide +kernel
theorem dX9_wouldKnow_33 : decode cX9_wouldKnow 33 = .ok (.aload_n 0, 1) := by decide +kernel
theorem dX9_wouldKnow_34 : decode cX9_wouldKnow 34 = .ok (.getfield 10, 3) := by decide +kernel
theorem dX9_wouldKnow_37 : decode cX9_wouldKnow 37 = .ok (.getfield 37, 3) := by decide +kernel
theorem dX9_wouldKnow_40 : decode cX9_wouldKnow 40 = .ok (.iload_n 2, 1) := by decide +kernel
theorem dX9_wouldKnow_41 : decode cX9_wouldKnow 41 = .ok (.iload_n 3, 1) := by decide +kernel
theorem dX9_wouldKnow_42 : decode cX9_wouldKnow 42 = .ok (.invokevirtual 205, 3) := by decide +kernel
theorem dX9_wouldKnow_45 : decode cX9_wouldKnow 45 = .ok (.land, 1) := by decide +kernel
theorem dX9_wouldKnow_46 : decode cX9_wouldKnow 46 = .ok (.lstore 4, 2) := by decide +kernel
theorem dX9_wouldKnow_48 : decode cX9_wouldKnow 48 = .ok (.aload_n 0, 1) := by decide +kernel
theorem dX9_wouldKnow_49 : decode cX9_wouldKnow 49 = .ok (.lload 4, 2) := by decide +kernel
theorem dX9_wouldKnow_51 : decode cX9_wouldKnow 51 = .ok (.lconst 0, 1) := by decide +kernel
theorem dX9_wouldKnow_52 : decode cX9_wouldKnow 52 = .ok (.lcmp, 1) := by decide +kernel
theorem dX9_wouldKnow_53 : decode cX9_wouldKnow 53 = .ok (.ifCond .ne 8, 3) := by decide +kernel
theorem dX9_wouldKnow_56 : decode cX9_wouldKnow 56 = .ok (.bipush (-2), 2) := by decide +kernel
theorem dX9_wouldKnow_58 : decode cX9_wouldKnow 58 = .ok (.goto 15, 3) := by decide +kernel
theorem dX9_wouldKnow_61 : decode cX9_wouldKnow 61 = .ok (.aload_n 0, 1) := by decide +kernel
theorem dX9_wouldKnow_62 : decode cX9_wouldKnow 62 = .ok (.getfield 10, 3) := by decide +kernel
theorem dX9_wouldKnow_65 : decode cX9_wouldKnow 65 = .ok (.getfield 37, 3) := by decide +kernel
theorem dX9_wouldKnow_68 : decode cX9_wouldKnow 68 = .ok (.lload 4, 2) := by decide +kernel
theorem dX9_wouldKnow_70 : decode cX9_wouldKnow 70 = .ok (.invokevirtual 195, 3) := by decide +kernel
theorem dX9_wouldKnow_73 : decode cX9_wouldKnow 73 = .ok (.invokevirtual 103, 3) := by decide +kernel
theorem dX9_wouldKnow_76 : decode cX9_wouldKnow 76 = .ok (.ireturn, 1) := by decide +kernel
theorem dX9_needless_0 : decode cX9_needless 0 = .ok (.aload_n 0, 1) := by decide +kernel
theorem dX9_needless_1 : decode cX9_needless 1 = .ok (.iload_n 1, 1) := by decide +kernel
theorem dX9_needless_2 : decode cX9_needless 2 = .ok (.invokevirtual 161, 3) := by decide +kernel
theorem dX9_needless_5 : decode cX9_needless 5 = .ok (.ifCond .ne 9, 3) := by decide +kernel
theorem dX9_needless_8 : decode cX9_needless 8 = .ok (.aload_n 0, 1) := by decide +kernel
theorem dX9_needless_9 : decode cX9_needless 9 = .ok (.iconst 1, 1) := by decide +kernel
theorem dX9_needless_10 : decode cX9_needless 10 = .ok (.invokevirtual 70, 3) := by decide +kernel
theorem dX9_needless_13 : decode cX9_needless 13 = .ok (.ireturn, 1) := by decide +kernel
theorem dX9_needless_14 : decode cX9_needless 14 = .ok (.aload_n 0, 1) := by decide +kernel
theorem dX9_needless_15 : decode cX9_needless 15 = .ok (.aload_n 0, 1) := by decide +kernel
theorem dX9_needless_16 : decode cX9_needless 16 = .ok (.getfield 10, 3) := by decide +kernel
theorem dX9_needless_19 : decode cX9_needless 19 = .ok (.getfield 149, 3) := by decide +kernel
theorem dX9_needless_22 : decode cX9_needless 22 = .ok (.aload_n 0, 1) := by decide +kernel
theorem dX9_needless_23 : decode cX9_needless 23 = .ok (.getfield 10, 3) := by decide +kernel
theorem dX9_needless_26 : decode cX9_needless 26 = .ok (.getfield 170, 3) := by decide +kernel
theorem dX9_needless_29 : decode cX9_needless 29 = .ok (.iload_n 1, 1) := by decide +kernel
theorem dX9_needless_30 : decode cX9_needless 30 = .ok (.invokevirtual 174, 3) := by decide +kernel
theorem dX9_needless_33 : decode cX9_needless 33 = .ok (.invokevirtual 209, 3) := by decide +kernel
theorem dX9_needless_36 : decode cX9_needless 36 = .ok (.invokevirtual 103, 3) := by decide +kernel
theorem dX9_needless_39 : decode cX9_needless 39 = .ok (.ireturn, 1) := by decide +kernel
theorem dX9_told_0 : decode cX9_told 0 = .ok (.aload_n 0, 1) := by decide +kernel
theorem dX9_told_1 : decode cX9_told 1 = .ok (.iload_n 1, 1) := by decide +kernel
theorem dX9_told_2 : decode cX9_told 2 = .ok (.invokevirtual 212, 3) := by decide +kernel
theorem dX9_told_5 : decode cX9_told 5 = .ok (.ifCond .ne 9, 3) := by decide +kernel
theorem dX9_told_8 : decode cX9_told 8 = .ok (.aload_n 0, 1) := by decide +kernel
theorem dX9_told_9 : decode cX9_told 9 = .ok (.iconst 1, 1) := by decide +kernel
theorem dX9_told_10 : decode cX9_told 10 = .ok (.invokevirtual 70, 3) := by decide +kernel
theorem dX9_told_13 : decode cX9_told 13 = .ok (.ireturn, 1) := by decide +kernel
theorem dX9_told_14 : decode cX9_told 14 = .ok (.iload_n 2, 1) := by decide +kernel
theorem dX9_told_15 : decode cX9_told 15 = .ok (.tableswitch 133 0 4 #[33, 50, 67, 92, 116], 33) := by decide +kernel
theorem dX9_told_48 : decode cX9_told 48 = .ok (.aload_n 0, 1) := by decide +kernel
theorem dX9_told_49 : decode cX9_told 49 = .ok (.aload_n 0, 1) := by decide +kernel
theorem dX9_told_50 : decode cX9_told 50 = .ok (.getfield 10, 3) := by decide +kernel
theorem dX9_told_53 : decode cX9_told 53 = .ok (.getfield 170, 3) := by decide +kernel
theorem dX9_told_56 : decode cX9_told 56 = .ok (.getfield 215, 3) := by decide +kernel
theorem dX9_told_59 : decode cX9_told 59 = .ok (.iload_n 1, 1) := by decide +kernel
theorem dX9_told_60 : decode cX9_told 60 = .ok (.iaload, 1) := by decide +kernel
theorem dX9_told_61 : decode cX9_told 61 = .ok (.invokevirtual 103, 3) := by decide +kernel
theorem dX9_told_64 : decode cX9_told 64 = .ok (.ireturn, 1) := by decide +kernel
theorem dX9_told_65 : decode cX9_told 65 = .ok (.aload_n 0, 1) := by decide +kernel
theorem dX9_told_66 : decode cX9_told 66 = .ok (.aload_n 0, 1) := by decide +kernel
theorem dX9_told_67 : decode cX9_told 67 = .ok (.getfield 10, 3) := by decide +kernel
theorem dX9_told_70 : decode cX9_told 70 = .ok (.getfield 170, 3) := by decide +kernel
theorem dX9_told_73 : decode cX9_told 73 = .ok (.getfield 218, 3) := by decide +kernel
theorem dX9_told_76 : decode cX9_told 76 = .ok (.iload_n 1, 1) := by decide +kernel
theorem dX9_told_77 : decode cX9_told 77 = .ok (.iaload, 1) := by decide +kernel
theorem dX9_told_78 : decode cX9_told 78 = .ok (.invokevirtual 103, 3) := by decide +kernel
theorem dX9_told_81 : decode cX9_told 81 = .ok (.ireturn, 1) := by decide +kernel
theorem dX9_told_82 : decode cX9_told 82 = .ok (.aload_n 0, 1) := by decide +kernel
theorem dX9_told_83 : decode cX9_told 83 = .ok (.aload_n 0, 1) := by decide +kernel
theorem dX9_told_84 : decode cX9_told 84 = .ok (.getfield 10, 3) := by decide +kernel
theorem dX9_told_87 : decode cX9_told 87 = .ok (.getfield 170, 3) := by decide +kernel
theorem dX9_told_90 : decode cX9_told 90 = .ok (.getfield 221, 3) := by decide +kernel
theorem dX9_told_93 : decode cX9_told 93 = .ok (.iload_n 1, 1) := by decide +kernel
theorem dX9_told_94 : decode cX9_told 94 = .ok (.baload, 1) := by decide +kernel
theorem dX9_told_95 : decode cX9_told 95 = .ok (.ifCond .eq 7, 3) := by decide +kernel
theorem dX9_told_98 : decode cX9_told 98 = .ok (.iconst 1, 1) := by decide +kernel
theorem dX9_told_99 : decode cX9_told 99 = .ok (.goto 4, 3) := by decide +kernel
theorem dX9_told_102 : decode cX9_told 102 = .ok (.iconst 0, 1) := by decide +kernel
theorem dX9_told_103 : decode cX9_told 103 = .ok (.invokevirtual 103, 3) := by decide +kernel
theorem dX9_told_106 : decode cX9_told 106 = .ok (.ireturn, 1) := by decide +kernel
theorem dX9_told_107 : decode cX9_told 107 = .ok (.aload_n 0, 1) := by decide +kernel
theorem dX9_told_108 : decode cX9_told 108 = .ok (.aload_n 0, 1) := by decide +kernel
theorem dX9_told_109 : decode cX9_told 109 = .ok (.getfield 10, 3) := by decide +kernel
theorem dX9_told_112 : decode cX9_told 112 = .ok (.getfield 149, 3) := by decide +kernel
theorem dX9_told_115 : decode cX9_told 115 = .ok (.iload_n 1, 1) := by decide +kernel
theorem dX9_told_116 : decode cX9_told 116 = .ok (.invokevirtual 225, 3) := by decide +kernel
theorem dX9_told_119 : decode cX9_told 119 = .ok (.ifCond .ne 7, 3) := by decide +kernel
theorem dX9_told_122 : decode cX9_told 122 = .ok (.iconst 1, 1) := by decide +kernel
theorem dX9_told_123 : decode cX9_told 123 = .ok (.goto 4, 3) := by decide +kernel
theorem dX9_told_126 : decode cX9_told 126 = .ok (.iconst 0, 1) := by decide +kernel
theorem dX9_told_127 : decode cX9_told 127 = .ok (.invokevirtual 103, 3) := by decide +kernel
theorem dX9_told_130 : decode cX9_told 130 = .ok (.ireturn, 1) := by decide +kernel
theorem dX9_told_131 : decode cX9_told 131 = .ok (.aload_n 0, 1) := by decide +kernel
theorem dX9_told_132 : decode cX9_told 132 = .ok (.aload_n 0, 1) := by decide +kernel
theorem dX9_told_133 : decode cX9_told 133 = .ok (.getfield 10, 3) := by decide +kernel
theorem dX9_told_136 : decode cX9_told 136 = .ok (.getfield 149, 3) := by decide +kernel
theorem dX9_told_139 : decode cX9_told 139 = .ok (.iload_n 1, 1) := by decide +kernel
theorem dX9_told_140 : decode cX9_told 140 = .ok (.iconst 0, 1) := by decide +kernel
theorem dX9_told_141 : decode cX9_told 141 = .ok (.invokevirtual 228, 3) := by decide +kernel
theorem dX9_told_144 : decode cX9_told 144 = .ok (.invokevirtual 103, 3) := by decide +kernel
theorem dX9_told_147 : decode cX9_told 147 = .ok (.ireturn, 1) := by decide +kernel
theorem dX9_told_148 : decode cX9_told 148 = .ok (.aload_n 0, 1) := by decide +kernel
theorem dX9_told_149 : decode cX9_told 149 = .ok (.iconst 1, 1) := by decide +kernel
theorem dX9_told_150 : decode cX9_told 150 = .ok (.invokevirtual 70, 3) := by decide +kernel
theorem dX9_told_153 : decode cX9_told 153 = .ok (.ireturn, 1) := by decide +kernel
theorem dX9_clashes_0 : decode cX9_clashes 0 = .ok (.aload_n 0, 1) := by decide +kernel
theorem dX9_clashes_1 : decode cX9_clashes 1 = .ok (.getfield 90, 3) := by decide +kernel
theorem dX9_clashes_4 : decode cX9_clashes 4 = .ok (.ifCond .ne 9, 3) := by decide +kernel
theorem dX9_clashes_7 : decode cX9_clashes 7 = .ok (.aload_n 0, 1) := by decide +kernel
theorem dX9_clashes_8 : decode cX9_clashes 8 = .ok (.iconst 1, 1) := by decide +kernel
theorem dX9_clashes_9 : decode cX9_clashes 9 = .ok (.invokevirtual 70, 3) := by decide +kernel
theorem dX9_clashes_12 : decode cX9_clashes 12 = .ok (.ireturn, 1) := by decide +kernel
theorem dX9_clashes_13 : decode cX9_clashes 13 = .ok (.iconst 0, 1) := by decide +kernel
theorem dX9_clashes_14 : decode cX9_clashes 14 = .ok (.istore_n 1, 1) := by decide +kernel
theorem dX9_clashes_15 : decode cX9_clashes 15 = .ok (.iconst 0, 1) := by decide +kernel
theorem dX9_clashes_16 : decode cX9_clashes 16 = .ok (.istore_n 2, 1) := by decide +kernel
theorem dX9_clashes_17 : decode cX9_clashes 17 = .ok (.iload_n 2, 1) := by decide +kernel
theorem dX9_clashes_18 : decode cX9_clashes 18 = .ok (.aload_n 0, 1) := by decide +kernel
theorem dX9_clashes_19 : decode cX9_clashes 19 = .ok (.getfield 10, 3) := by decide +kernel
theorem dX9_clashes_22 : decode cX9_clashes 22 = .ok (.getfield 170, 3) := by decide +kernel
theorem dX9_clashes_25 : decode cX9_clashes 25 = .ok (.getfield 231, 3) := by decide +kernel
theorem dX9_clashes_28 : decode cX9_clashes 28 = .ok (.if_icmp .ge 26, 3) := by decide +kernel
theorem dX9_clashes_31 : decode cX9_clashes 31 = .ok (.iload_n 1, 1) := by decide +kernel
theorem dX9_clashes_32 : decode cX9_clashes 32 = .ok (.aload_n 0, 1) := by decide +kernel
theorem dX9_clashes_33 : decode cX9_clashes 33 = .ok (.getfield 10, 3) := by decide +kernel
theorem dX9_clashes_36 : decode cX9_clashes 36 = .ok (.getfield 149, 3) := by decide +kernel
theorem dX9_clashes_39 : decode cX9_clashes 39 = .ok (.iload_n 2, 1) := by decide +kernel
theorem dX9_clashes_40 : decode cX9_clashes 40 = .ok (.iload_n 2, 1) := by decide +kernel
theorem dX9_clashes_41 : decode cX9_clashes 41 = .ok (.iconst 1, 1) := by decide +kernel
theorem dX9_clashes_42 : decode cX9_clashes 42 = .ok (.iadd, 1) := by decide +kernel
theorem dX9_clashes_43 : decode cX9_clashes 43 = .ok (.invokevirtual 228, 3) := by decide +kernel
theorem dX9_clashes_46 : decode cX9_clashes 46 = .ok (.iadd, 1) := by decide +kernel
theorem dX9_clashes_47 : decode cX9_clashes 47 = .ok (.istore_n 1, 1) := by decide +kernel
theorem dX9_clashes_48 : decode cX9_clashes 48 = .ok (.iinc 2 1, 3) := by decide +kernel
theorem dX9_clashes_51 : decode cX9_clashes 51 = .ok (.goto (-34), 3) := by decide +kernel
theorem dX9_clashes_54 : decode cX9_clashes 54 = .ok (.aload_n 0, 1) := by decide +kernel
theorem dX9_clashes_55 : decode cX9_clashes 55 = .ok (.iload_n 1, 1) := by decide +kernel
theorem dX9_clashes_56 : decode cX9_clashes 56 = .ok (.invokevirtual 103, 3) := by decide +kernel
theorem dX9_clashes_59 : decode cX9_clashes 59 = .ok (.ireturn, 1) := by decide +kernel
theorem dX9_takes_0 : decode cX9_takes 0 = .ok (.aload_n 0, 1) := by decide +kernel
theorem dX9_takes_1 : decode cX9_takes 1 = .ok (.iload_n 1, 1) := by decide +kernel
theorem dX9_takes_2 : decode cX9_takes 2 = .ok (.invokevirtual 212, 3) := by decide +kernel
theorem dX9_takes_5 : decode cX9_takes 5 = .ok (.ifCond .ne 9, 3) := by decide +kernel
theorem dX9_takes_8 : decode cX9_takes 8 = .ok (.aload_n 0, 1) := by decide +kernel
theorem dX9_takes_9 : decode cX9_takes 9 = .ok (.iconst 1, 1) := by decide +kernel
theorem dX9_takes_10 : decode cX9_takes 10 = .ok (.invokevirtual 70, 3) := by decide +kernel
theorem dX9_takes_13 : decode cX9_takes 13 = .ok (.ireturn, 1) := by decide +kernel
theorem dX9_takes_14 : decode cX9_takes 14 = .ok (.aload_n 0, 1) := by decide +kernel
theorem dX9_takes_15 : decode cX9_takes 15 = .ok (.aload_n 0, 1) := by decide +kernel
theorem dX9_takes_16 : decode cX9_takes 16 = .ok (.getfield 10, 3) := by decide +kernel
theorem dX9_takes_19 : decode cX9_takes 19 = .ok (.getfield 149, 3) := by decide +kernel
theorem dX9_takes_22 : decode cX9_takes 22 = .ok (.iload_n 1, 1) := by decide +kernel
theorem dX9_takes_23 : decode cX9_takes 23 = .ok (.invokevirtual 225, 3) := by decide +kernel
theorem dX9_takes_26 : decode cX9_takes 26 = .ok (.invokevirtual 103, 3) := by decide +kernel
theorem dX9_takes_29 : decode cX9_takes 29 = .ok (.ireturn, 1) := by decide +kernel
theorem dX9_graves_0 : decode cX9_graves 0 = .ok (.aload_n 0, 1) := by decide +kernel
theorem dX9_graves_1 : decode cX9_graves 1 = .ok (.iload_n 1, 1) := by decide +kernel
theorem dX9_graves_2 : decode cX9_graves 2 = .ok (.invokevirtual 161, 3) := by decide +kernel
theorem dX9_graves_5 : decode cX9_graves 5 = .ok (.ifCond .ne 9, 3) := by decide +kernel
theorem dX9_graves_8 : decode cX9_graves 8 = .ok (.aload_n 0, 1) := by decide +kernel
theorem dX9_graves_9 : decode cX9_graves 9 = .ok (.iconst 1, 1) := by decide +kernel
theorem dX9_graves_10 : decode cX9_graves 10 = .ok (.invokevirtual 70, 3) := by decide +kernel
theorem dX9_graves_13 : decode cX9_graves 13 = .ok (.ireturn, 1) := by decide +kernel
theorem dX9_graves_14 : decode cX9_graves 14 = .ok (.aload_n 0, 1) := by decide +kernel
theorem dX9_graves_15 : decode cX9_graves 15 = .ok (.aload_n 0, 1) := by decide +kernel
theorem dX9_graves_16 : decode cX9_graves 16 = .ok (.getfield 10, 3) := by decide +kernel
theorem dX9_graves_19 : decode cX9_graves 19 = .ok (.getfield 170, 3) := by decide +kernel
theorem dX9_graves_22 : decode cX9_graves 22 = .ok (.iload_n 1, 1) := by decide +kernel
theorem dX9_graves_23 : decode cX9_graves 23 = .ok (.invokevirtual 234, 3) := by decide +kernel
theorem dX9_graves_26 : decode cX9_graves 26 = .ok (.invokevirtual 103, 3) := by decide +kernel
theorem dX9_graves_29 : decode cX9_graves 29 = .ok (.ireturn, 1) := by decide +kernel
theorem dX9_could_0 : decode cX9_could 0 = .ok (.aload_n 0, 1) := by decide +kernel
theorem dX9_could_1 : decode cX9_could 1 = .ok (.iload_n 1, 1) := by decide +kernel
theorem dX9_could_2 : decode cX9_could 2 = .ok (.invokevirtual 237, 3) := by decide +kernel
theorem dX9_could_5 : decode cX9_could 5 = .ok (.ifCond .ne 9, 3) := by decide +kernel
theorem dX9_could_8 : decode cX9_could 8 = .ok (.aload_n 0, 1) := by decide +kernel
theorem dX9_could_9 : decode cX9_could 9 = .ok (.iconst 1, 1) := by decide +kernel
theorem dX9_could_10 : decode cX9_could 10 = .ok (.invokevirtual 70, 3) := by decide +kernel
theorem dX9_could_13 : decode cX9_could 13 = .ok (.ireturn, 1) := by decide +kernel
theorem dX9_could_14 : decode cX9_could 14 = .ok (.aload_n 0, 1) := by decide +kernel
theorem dX9_could_15 : decode cX9_could 15 = .ok (.aload_n 0, 1) := by decide +kernel
theorem dX9_could_16 : decode cX9_could 16 = .ok (.getfield 10, 3) := by decide +kernel
theorem dX9_could_19 : decode cX9_could 19 = .ok (.getfield 37, 3) := by decide +kernel
theorem dX9_could_22 : decode cX9_could 22 = .ok (.iload_n 1, 1) := by decide +kernel
theorem dX9_could_23 : decode cX9_could 23 = .ok (.aload_n 0, 1) := by decide +kernel
theorem dX9_could_24 : decode cX9_could 24 = .ok (.getfield 10, 3) := by decide +kernel
theorem dX9_could_27 : decode cX9_could 27 = .ok (.getfield 149, 3) := by decide +kernel
theorem dX9_could_30 : decode cX9_could 30 = .ok (.invokevirtual 191, 3) := by decide +kernel
theorem dX9_could_33 : decode cX9_could 33 = .ok (.invokevirtual 240, 3) := by decide +kernel
theorem dX9_could_36 : decode cX9_could 36 = .ok (.invokevirtual 103, 3) := by decide +kernel
theorem dX9_could_39 : decode cX9_could 39 = .ok (.ireturn, 1) := by decide +kernel
theorem dX9_surely_0 : decode cX9_surely 0 = .ok (.aload_n 0, 1) := by decide +kernel
theorem dX9_surely_1 : decode cX9_surely 1 = .ok (.iload_n 1, 1) := by decide +kernel
theorem dX9_surely_2 : decode cX9_surely 2 = .ok (.invokevirtual 237, 3) := by decide +kernel
theorem dX9_surely_5 : decode cX9_surely 5 = .ok (.ifCond .ne 9, 3) := by decide +kernel
theorem dX9_surely_8 : decode cX9_surely 8 = .ok (.aload_n 0, 1) := by decide +kernel
theorem dX9_surely_9 : decode cX9_surely 9 = .ok (.iconst 1, 1) := by decide +kernel
theorem dX9_surely_10 : decode cX9_surely 10 = .ok (.invokevirtual 70, 3) := by decide +kernel
theorem dX9_surely_13 : decode cX9_surely 13 = .ok (.ireturn, 1) := by decide +kernel
theorem dX9_surely_14 : decode cX9_surely 14 = .ok (.aload_n 0, 1) := by decide +kernel
theorem dX9_surely_15 : decode cX9_surely 15 = .ok (.getfield 10, 3) := by decide +kernel
theorem dX9_surely_18 : decode cX9_surely 18 = .ok (.getfield 37, 3) := by decide +kernel
theorem dX9_surely_21 : decode cX9_surely 21 = .ok (.astore_n 2, 1) := by decide +kernel
theorem dX9_surely_22 : decode cX9_surely 22 = .ok (.aload_n 0, 1) := by decide +kernel
theorem dX9_surely_23 : decode cX9_surely 23 = .ok (.getfield 10, 3) := by decide +kernel
theorem dX9_surely_26 : decode cX9_surely 26 = .ok (.getfield 149, 3) := by decide +kernel
theorem dX9_surely_29 : decode cX9_surely 29 = .ok (.invokevirtual 191, 3) := by decide +kernel
theorem dX9_surely_32 : decode cX9_surely 32 = .ok (.lstore_n 3, 1) := by decide +kernel
theorem dX9_surely_33 : decode cX9_surely 33 = .ok (.aload_n 2, 1) := by decide +kernel
theorem dX9_surely_34 : decode cX9_surely 34 = .ok (.iload_n 1, 1) := by decide +kernel
theorem dX9_surely_35 : decode cX9_surely 35 = .ok (.invokevirtual 244, 3) := by decide +kernel
theorem dX9_surely_38 : decode cX9_surely 38 = .ok (.ifCond .eq 7, 3) := by decide +kernel
theorem dX9_surely_41 : decode cX9_surely 41 = .ok (.iconst 1, 1) := by decide +kernel
theorem dX9_surely_42 : decode cX9_surely 42 = .ok (.goto 4, 3) := by decide +kernel
theorem dX9_surely_45 : decode cX9_surely 45 = .ok (.iconst 0, 1) := by decide +kernel
theorem dX9_surely_46 : decode cX9_surely 46 = .ok (.istore 5, 2) := by decide +kernel
theorem dX9_surely_48 : decode cX9_surely 48 = .ok (.iconst 0, 1) := by decide +kernel
theorem dX9_surely_49 : decode cX9_surely 49 = .ok (.istore 6, 2) := by decide +kernel
theorem dX9_surely_51 : decode cX9_surely 51 = .ok (.iconst 0, 1) := by decide +kernel
theorem dX9_surely_52 : decode cX9_surely 52 = .ok (.istore 7, 2) := by decide +kernel
theorem dX9_surely_54 : decode cX9_surely 54 = .ok (.iload 7, 2) := by decide +kernel
theorem dX9_surely_56 : decode cX9_surely 56 = .ok (.aload_n 2, 1) := by decide +kernel
theorem dX9_surely_57 : decode cX9_surely 57 = .ok (.getfield 144, 3) := by decide +kernel
theorem dX9_surely_60 : decode cX9_surely 60 = .ok (.if_icmp .ge 33, 3) := by decide +kernel
theorem dX9_surely_63 : decode cX9_surely 63 = .ok (.lload_n 3, 1) := by decide +kernel
theorem dX9_surely_64 : decode cX9_surely 64 = .ok (.aload_n 2, 1) := by decide +kernel
theorem dX9_surely_65 : decode cX9_surely 65 = .ok (.iload 7, 2) := by decide +kernel
theorem dX9_surely_67 : decode cX9_surely 67 = .ok (.invokevirtual 136, 3) := by decide +kernel
theorem dX9_surely_70 : decode cX9_surely 70 = .ok (.invokestatic 180, 3) := by decide +kernel
theorem dX9_surely_73 : decode cX9_surely 73 = .ok (.iload 5, 2) := by decide +kernel
theorem dX9_surely_75 : decode cX9_surely 75 = .ok (.if_icmp .ne 12, 3) := by decide +kernel
theorem dX9_surely_78 : decode cX9_surely 78 = .ok (.iload 6, 2) := by decide +kernel
theorem dX9_surely_80 : decode cX9_surely 80 = .ok (.iconst 1, 1) := by decide +kernel
theorem dX9_surely_81 : decode cX9_surely 81 = .ok (.iload 7, 2) := by decide +kernel
theorem dX9_surely_83 : decode cX9_surely 83 = .ok (.ishl, 1) := by decide +kernel
theorem dX9_surely_84 : decode cX9_surely 84 = .ok (.ior, 1) := by decide +kernel
theorem dX9_surely_85 : decode cX9_surely 85 = .ok (.istore 6, 2) := by decide +kernel
theorem dX9_surely_87 : decode cX9_surely 87 = .ok (.iinc 7 1, 3) := by decide +kernel
theorem dX9_surely_90 : decode cX9_surely 90 = .ok (.goto (-36), 3) := by decide +kernel
theorem dX9_surely_93 : decode cX9_surely 93 = .ok (.aload_n 0, 1) := by decide +kernel
theorem dX9_surely_94 : decode cX9_surely 94 = .ok (.iload 6, 2) := by decide +kernel
theorem dX9_surely_96 : decode cX9_surely 96 = .ok (.invokevirtual 103, 3) := by decide +kernel
theorem dX9_surely_99 : decode cX9_surely 99 = .ok (.ireturn, 1) := by decide +kernel
theorem dX9_best_0 : decode cX9_best 0 = .ok (.aload_n 0, 1) := by decide +kernel
theorem dX9_best_1 : decode cX9_best 1 = .ok (.iload_n 1, 1) := by decide +kernel
theorem dX9_best_2 : decode cX9_best 2 = .ok (.invokevirtual 161, 3) := by decide +kernel
theorem dX9_best_5 : decode cX9_best 5 = .ok (.ifCond .ne 9, 3) := by decide +kernel
theorem dX9_best_8 : decode cX9_best 8 = .ok (.aload_n 0, 1) := by decide +kernel
theorem dX9_best_9 : decode cX9_best 9 = .ok (.iconst 1, 1) := by decide +kernel
theorem dX9_best_10 : decode cX9_best 10 = .ok (.invokevirtual 70, 3) := by decide +kernel
theorem dX9_best_13 : decode cX9_best 13 = .ok (.ireturn, 1) := by decide +kernel
theorem dX9_best_14 : decode cX9_best 14 = .ok (.aload_n 0, 1) := by decide +kernel
theorem dX9_best_15 : decode cX9_best 15 = .ok (.aload_n 0, 1) := by decide +kernel
theorem dX9_best_16 : decode cX9_best 16 = .ok (.getfield 10, 3) := by decide +kernel
theorem dX9_best_19 : decode cX9_best 19 = .ok (.getfield 37, 3) := by decide +kernel
theorem dX9_best_22 : decode cX9_best 22 = .ok (.aload_n 0, 1) := by decide +kernel
theorem dX9_best_23 : decode cX9_best 23 = .ok (.getfield 10, 3) := by decide +kernel
theorem dX9_best_26 : decode cX9_best 26 = .ok (.getfield 149, 3) := by decide +kernel
theorem dX9_best_29 : decode cX9_best 29 = .ok (.iload_n 1, 1) := by decide +kernel
theorem dX9_best_30 : decode cX9_best 30 = .ok (.invokevirtual 177, 3) := by decide +kernel
theorem dX9_best_33 : decode cX9_best 33 = .ok (.invokevirtual 247, 3) := by decide +kernel
theorem dX9_best_36 : decode cX9_best 36 = .ok (.invokevirtual 103, 3) := by decide +kernel
theorem dX9_best_39 : decode cX9_best 39 = .ok (.ireturn, 1) := by decide +kernel
theorem dX9_bestLeft_0 : decode cX9_bestLeft 0 = .ok (.aload_n 0, 1) := by decide +kernel
theorem dX9_bestLeft_1 : decode cX9_bestLeft 1 = .ok (.iload_n 1, 1) := by decide +kernel
theorem dX9_bestLeft_2 : decode cX9_bestLeft 2 = .ok (.invokevirtual 161, 3) := by decide +kernel
theorem dX9_bestLeft_5 : decode cX9_bestLeft 5 = .ok (.ifCond .ne 9, 3) := by decide +kernel
theorem dX9_bestLeft_8 : decode cX9_bestLeft 8 = .ok (.aload_n 0, 1) := by decide +kernel
theorem dX9_bestLeft_9 : decode cX9_bestLeft 9 = .ok (.iconst 1, 1) := by decide +kernel
theorem dX9_bestLeft_10 : decode cX9_bestLeft 10 = .ok (.invokevirtual 70, 3) := by decide +kernel
theorem dX9_bestLeft_13 : decode cX9_bestLeft 13 = .ok (.ireturn, 1) := by decide +kernel
theorem dX9_bestLeft_14 : decode cX9_bestLeft 14 = .ok (.aload_n 0, 1) := by decide +kernel
theorem dX9_bestLeft_15 : decode cX9_bestLeft 15 = .ok (.getfield 10, 3) := by decide +kernel
theorem dX9_bestLeft_18 : decode cX9_bestLeft 18 = .ok (.getfield 149, 3) := by decide +kernel
theorem dX9_bestLeft_21 : decode cX9_bestLeft 21 = .ok (.iload_n 1, 1) := by decide +kernel
theorem dX9_bestLeft_22 : decode cX9_bestLeft 22 = .ok (.invokevirtual 177, 3) := by decide +kernel
theorem dX9_bestLeft_25 : decode cX9_bestLeft 25 = .ok (.lstore_n 2, 1) := by decide +kernel
theorem dX9_bestLeft_26 : decode cX9_bestLeft 26 = .ok (.aload_n 0, 1) := by decide +kernel
theorem dX9_bestLeft_27 : decode cX9_bestLeft 27 = .ok (.getfield 10, 3) := by decide +kernel
theorem dX9_bestLeft_30 : decode cX9_bestLeft 30 = .ok (.getfield 37, 3) := by decide +kernel
theorem dX9_bestLeft_33 : decode cX9_bestLeft 33 = .ok (.lload_n 2, 1) := by decide +kernel
theorem dX9_bestLeft_34 : decode cX9_bestLeft 34 = .ok (.invokevirtual 247, 3) := by decide +kernel
theorem dX9_bestLeft_37 : decode cX9_bestLeft 37 = .ok (.istore 4, 2) := by decide +kernel
theorem dX9_bestLeft_39 : decode cX9_bestLeft 39 = .ok (.aload_n 0, 1) := by decide +kernel
theorem dX9_bestLeft_40 : decode cX9_bestLeft 40 = .ok (.iload 4, 2) := by decide +kernel
theorem dX9_bestLeft_42 : decode cX9_bestLeft 42 = .ok (.invokevirtual 133, 3) := by decide +kernel
theorem dX9_bestLeft_45 : decode cX9_bestLeft 45 = .ok (.ifCond .ne 10, 3) := by decide +kernel
theorem dX9_bestLeft_48 : decode cX9_bestLeft 48 = .ok (.aload_n 0, 1) := by decide +kernel
theorem dX9_bestLeft_49 : decode cX9_bestLeft 49 = .ok (.bipush 6, 2) := by decide +kernel
theorem dX9_bestLeft_51 : decode cX9_bestLeft 51 = .ok (.invokevirtual 70, 3) := by decide +kernel
theorem dX9_bestLeft_54 : decode cX9_bestLeft 54 = .ok (.ireturn, 1) := by decide +kernel
theorem dX9_bestLeft_55 : decode cX9_bestLeft 55 = .ok (.aload_n 0, 1) := by decide +kernel
theorem dX9_bestLeft_56 : decode cX9_bestLeft 56 = .ok (.aload_n 0, 1) := by decide +kernel
theorem dX9_bestLeft_57 : decode cX9_bestLeft 57 = .ok (.getfield 10, 3) := by decide +kernel
theorem dX9_bestLeft_60 : decode cX9_bestLeft 60 = .ok (.getfield 37, 3) := by decide +kernel
theorem dX9_bestLeft_63 : decode cX9_bestLeft 63 = .ok (.lload_n 2, 1) := by decide +kernel
theorem dX9_bestLeft_64 : decode cX9_bestLeft 64 = .ok (.iload 4, 2) := by decide +kernel
theorem dX9_bestLeft_66 : decode cX9_bestLeft 66 = .ok (.invokevirtual 250, 3) := by decide +kernel
theorem dX9_bestLeft_69 : decode cX9_bestLeft 69 = .ok (.invokevirtual 103, 3) := by decide +kernel
theorem dX9_bestLeft_72 : decode cX9_bestLeft 72 = .ok (.ireturn, 1) := by decide +kernel
theorem dX9_leftMean_0 : decode cX9_leftMean 0 = .ok (.aload_n 0, 1) := by decide +kernel
theorem dX9_leftMean_1 : decode cX9_leftMean 1 = .ok (.iload_n 1, 1) := by decide +kernel
theorem dX9_leftMean_2 : decode cX9_leftMean 2 = .ok (.invokevirtual 161, 3) := by decide +kernel
theorem dX9_leftMean_5 : decode cX9_leftMean 5 = .ok (.ifCond .eq 11, 3) := by decide +kernel
theorem dX9_leftMean_8 : decode cX9_leftMean 8 = .ok (.aload_n 0, 1) := by decide +kernel
theorem dX9_leftMean_9 : decode cX9_leftMean 9 = .ok (.iload_n 2, 1) := by decide +kernel
theorem dX9_leftMean_10 : decode cX9_leftMean 10 = .ok (.invokevirtual 133, 3) := by decide +kernel
theorem dX9_leftMean_13 : decode cX9_leftMean 13 = .ok (.ifCond .ne 10, 3) := by decide +kernel
theorem dX9_leftMean_16 : decode cX9_leftMean 16 = .ok (.aload_n 0, 1) := by decide +kernel
theorem dX9_leftMean_17 : decode cX9_leftMean 17 = .ok (.iconst 1, 1) := by decide +kernel
theorem dX9_leftMean_18 : decode cX9_leftMean 18 = .ok (.invokevirtual 70, 3) := by decide +kernel
theorem dX9_leftMean_21 : decode cX9_leftMean 21 = .ok (.i2l, 1) := by decide +kernel
theorem dX9_leftMean_22 : decode cX9_leftMean 22 = .ok (.lreturn, 1) := by decide +kernel
theorem dX9_leftMean_23 : decode cX9_leftMean 23 = .ok (.aload_n 0, 1) := by decide +kernel
theorem dX9_leftMean_24 : decode cX9_leftMean 24 = .ok (.getfield 10, 3) := by decide +kernel
theorem dX9_leftMean_27 : decode cX9_leftMean 27 = .ok (.getfield 37, 3) := by decide +kernel
theorem dX9_leftMean_30 : decode cX9_leftMean 30 = .ok (.astore 4, 2) := by decide +kernel
theorem dX9_leftMean_32 : decode cX9_leftMean 32 = .ok (.aload_n 0, 1) := by decide +kernel
theorem dX9_leftMean_33 : decode cX9_leftMean 33 = .ok (.getfield 10, 3) := by decide +kernel
theorem dX9_leftMean_36 : decode cX9_leftMean 36 = .ok (.getfield 149, 3) := by decide +kernel
theorem dX9_leftMean_39 : decode cX9_leftMean 39 = .ok (.iload_n 1, 1) := by decide +kernel
theorem dX9_leftMean_40 : decode cX9_leftMean 40 = .ok (.invokevirtual 177, 3) := by decide +kernel
theorem dX9_leftMean_43 : decode cX9_leftMean 43 = .ok (.lstore 5, 2) := by decide +kernel
theorem dX9_leftMean_45 : decode cX9_leftMean 45 = .ok (.lload 5, 2) := by decide +kernel
theorem dX9_leftMean_47 : decode cX9_leftMean 47 = .ok (.lconst 0, 1) := by decide +kernel
theorem dX9_leftMean_48 : decode cX9_leftMean 48 = .ok (.lcmp, 1) := by decide +kernel
theorem dX9_leftMean_49 : decode cX9_leftMean 49 = .ok (.ifCond .ne 11, 3) := by decide +kernel
theorem dX9_leftMean_52 : decode cX9_leftMean 52 = .ok (.aload_n 0, 1) := by decide +kernel
theorem dX9_leftMean_53 : decode cX9_leftMean 53 = .ok (.bipush 6, 2) := by decide +kernel
theorem dX9_leftMean_55 : decode cX9_leftMean 55 = .ok (.invokevirtual 70, 3) := by decide +kernel
theorem dX9_leftMean_58 : decode cX9_leftMean 58 = .ok (.i2l, 1) := by decide +kernel
theorem dX9_leftMean_59 : decode cX9_leftMean 59 = .ok (.lreturn, 1) := by decide +kernel
theorem dX9_leftMean_60 : decode cX9_leftMean 60 = .ok (.aload 4, 2) := by decide +kernel
theorem dX9_leftMean_62 : decode cX9_leftMean 62 = .ok (.lload 5, 2) := by decide +kernel
theorem dX9_leftMean_64 : decode cX9_leftMean 64 = .ok (.invokevirtual 253, 3) := by decide +kernel
theorem dX9_leftMean_67 : decode cX9_leftMean 67 = .ok (.i2l, 1) := by decide +kernel
theorem dX9_leftMean_68 : decode cX9_leftMean 68 = .ok (.lstore 7, 2) := by decide +kernel
theorem dX9_leftMean_70 : decode cX9_leftMean 70 = .ok (.aload 4, 2) := by decide +kernel
theorem dX9_leftMean_72 : decode cX9_leftMean 72 = .ok (.lload 5, 2) := by decide +kernel
theorem dX9_leftMean_74 : decode cX9_leftMean 74 = .ok (.aload 4, 2) := by decide +kernel
theorem dX9_leftMean_76 : decode cX9_leftMean 76 = .ok (.iload_n 2, 1) := by decide +kernel
theorem dX9_leftMean_77 : decode cX9_leftMean 77 = .ok (.invokevirtual 136, 3) := by decide +kernel
theorem dX9_leftMean_80 : decode cX9_leftMean 80 = .ok (.land, 1) := by decide +kernel
theorem dX9_leftMean_81 : decode cX9_leftMean 81 = .ok (.invokevirtual 253, 3) := by decide +kernel
theorem dX9_leftMean_84 : decode cX9_leftMean 84 = .ok (.i2l, 1) := by decide +kernel
theorem dX9_leftMean_85 : decode cX9_leftMean 85 = .ok (.lstore 9, 2) := by decide +kernel
theorem dX9_leftMean_87 : decode cX9_leftMean 87 = .ok (.lload 7, 2) := by decide +kernel
theorem dX9_leftMean_89 : decode cX9_leftMean 89 = .ok (.lload 9, 2) := by decide +kernel
theorem dX9_leftMean_91 : decode cX9_leftMean 91 = .ok (.lsub, 1) := by decide +kernel
theorem dX9_leftMean_92 : decode cX9_leftMean 92 = .ok (.lstore 11, 2) := by decide +kernel
theorem dX9_leftMean_94 : decode cX9_leftMean 94 = .ok (.aload_n 0, 1) := by decide +kernel
theorem dX9_leftMean_95 : decode cX9_leftMean 95 = .ok (.lload 9, 2) := by decide +kernel
theorem dX9_leftMean_97 : decode cX9_leftMean 97 = .ok (.lload 9, 2) := by decide +kernel
theorem dX9_leftMean_99 : decode cX9_leftMean 99 = .ok (.lmul, 1) := by decide +kernel
theorem dX9_leftMean_100 : decode cX9_leftMean 100 = .ok (.lload 11, 2) := by decide +kernel
theorem dX9_leftMean_102 : decode cX9_leftMean 102 = .ok (.lload 11, 2) := by decide +kernel
theorem dX9_leftMean_104 : decode cX9_leftMean 104 = .ok (.lmul, 1) := by decide +kernel
theorem dX9_leftMean_105 : decode cX9_leftMean 105 = .ok (.ladd, 1) := by decide +kernel
theorem dX9_leftMean_106 : decode cX9_leftMean 106 = .ok (.lload 7, 2) := by decide +kernel
theorem dX9_leftMean_108 : decode cX9_leftMean 108 = .ok (.iload_n 3, 1) := by decide +kernel
theorem dX9_leftMean_109 : decode cX9_leftMean 109 = .ok (.invokevirtual 256, 3) := by decide +kernel
theorem dX9_leftMean_112 : decode cX9_leftMean 112 = .ok (.lreturn, 1) := by decide +kernel
theorem dX9_tells_0 : decode cX9_tells 0 = .ok (.aload_n 0, 1) := by decide +kernel
theorem dX9_tells_1 : decode cX9_tells 1 = .ok (.getfield 90, 3) := by decide +kernel
theorem dX9_tells_4 : decode cX9_tells 4 = .ok (.ifCond .ne 9, 3) := by decide +kernel
theorem dX9_tells_7 : decode cX9_tells 7 = .ok (.aload_n 0, 1) := by decide +kernel
theorem dX9_tells_8 : decode cX9_tells 8 = .ok (.iconst 1, 1) := by decide +kernel
theorem dX9_tells_9 : decode cX9_tells 9 = .ok (.invokevirtual 70, 3) := by decide +kernel
theorem dX9_tells_12 : decode cX9_tells 12 = .ok (.ireturn, 1) := by decide +kernel
theorem dX9_tells_13 : decode cX9_tells 13 = .ok (.aload_n 0, 1) := by decide +kernel
theorem dX9_tells_14 : decode cX9_tells 14 = .ok (.getfield 10, 3) := by decide +kernel
theorem dX9_tells_17 : decode cX9_tells 17 = .ok (.getfield 149, 3) := by decide +kernel
theorem dX9_tells_20 : decode cX9_tells 20 = .ok (.invokevirtual 191, 3) := by decide +kernel
theorem dX9_tells_23 : decode cX9_tells 23 = .ok (.lstore_n 1, 1) := by decide +kernel
theorem dX9_tells_24 : decode cX9_tells 24 = .ok (.iconst 0, 1) := by decide +kernel
theorem dX9_tells_25 : decode cX9_tells 25 = .ok (.istore_n 3, 1) := by decide +kernel
theorem dX9_tells_26 : decode cX9_tells 26 = .ok (.bipush (-2), 2) := by decide +kernel
theorem dX9_tells_28 : decode cX9_tells 28 = .ok (.istore 4, 2) := by decide +kernel
theorem dX9_tells_30 : decode cX9_tells 30 = .ok (.iconst 0, 1) := by decide +kernel
theorem dX9_tells_31 : decode cX9_tells 31 = .ok (.istore 5, 2) := by decide +kernel
theorem dX9_tells_33 : decode cX9_tells 33 = .ok (.iload 5, 2) := by decide +kernel
theorem dX9_tells_35 : decode cX9_tells 35 = .ok (.aload_n 0, 1) := by decide +kernel
theorem dX9_tells_36 : decode cX9_tells 36 = .ok (.getfield 10, 3) := by decide +kernel
theorem dX9_tells_39 : decode cX9_tells 39 = .ok (.getfield 37, 3) := by decide +kernel
theorem dX9_tells_42 : decode cX9_tells 42 = .ok (.getfield 144, 3) := by decide +kernel
theorem dX9_tells_45 : decode cX9_tells 45 = .ok (.if_icmp .ge 44, 3) := by decide +kernel
theorem dX9_tells_48 : decode cX9_tells 48 = .ok (.aload_n 0, 1) := by decide +kernel
theorem dX9_tells_49 : decode cX9_tells 49 = .ok (.getfield 10, 3) := by decide +kernel
theorem dX9_tells_52 : decode cX9_tells 52 = .ok (.getfield 37, 3) := by decide +kernel
theorem dX9_tells_55 : decode cX9_tells 55 = .ok (.lload_n 1, 1) := by decide +kernel
theorem dX9_tells_56 : decode cX9_tells 56 = .ok (.iload 5, 2) := by decide +kernel
theorem dX9_tells_58 : decode cX9_tells 58 = .ok (.invokevirtual 260, 3) := by decide +kernel
theorem dX9_tells_61 : decode cX9_tells 61 = .ok (.istore 6, 2) := by decide +kernel
theorem dX9_tells_63 : decode cX9_tells 63 = .ok (.iload 4, 2) := by decide +kernel
theorem dX9_tells_65 : decode cX9_tells 65 = .ok (.bipush (-2), 2) := by decide +kernel
theorem dX9_tells_67 : decode cX9_tells 67 = .ok (.if_icmp .eq 9, 3) := by decide +kernel
theorem dX9_tells_70 : decode cX9_tells 70 = .ok (.iload 6, 2) := by decide +kernel
theorem dX9_tells_72 : decode cX9_tells 72 = .ok (.iload_n 3, 1) := by decide +kernel
theorem dX9_tells_73 : decode cX9_tells 73 = .ok (.if_icmp .ge 10, 3) := by decide +kernel
theorem dX9_tells_76 : decode cX9_tells 76 = .ok (.iload 6, 2) := by decide +kernel
theorem dX9_tells_78 : decode cX9_tells 78 = .ok (.istore_n 3, 1) := by decide +kernel
theorem dX9_tells_79 : decode cX9_tells 79 = .ok (.iload 5, 2) := by decide +kernel
theorem dX9_tells_81 : decode cX9_tells 81 = .ok (.istore 4, 2) := by decide +kernel
theorem dX9_tells_83 : decode cX9_tells 83 = .ok (.iinc 5 1, 3) := by decide +kernel
theorem dX9_tells_86 : decode cX9_tells 86 = .ok (.goto (-53), 3) := by decide +kernel
theorem dX9_tells_89 : decode cX9_tells 89 = .ok (.aload_n 0, 1) := by decide +kernel
theorem dX9_tells_90 : decode cX9_tells 90 = .ok (.iload 4, 2) := by decide +kernel
theorem dX9_tells_92 : decode cX9_tells 92 = .ok (.invokevirtual 103, 3) := by decide +kernel
theorem dX9_tells_95 : decode cX9_tells 95 = .ok (.ireturn, 1) := by decide +kernel
theorem dX9_fewest_0 : decode cX9_fewest 0 = .ok (.aload_n 0, 1) := by decide +kernel
theorem dX9_fewest_1 : decode cX9_fewest 1 = .ok (.iload_n 1, 1) := by decide +kernel
theorem dX9_fewest_2 : decode cX9_fewest 2 = .ok (.invokevirtual 161, 3) := by decide +kernel
theorem dX9_fewest_5 : decode cX9_fewest 5 = .ok (.ifCond .eq 11, 3) := by decide +kernel
theorem dX9_fewest_8 : decode cX9_fewest 8 = .ok (.aload_n 0, 1) := by decide +kernel
theorem dX9_fewest_9 : decode cX9_fewest 9 = .ok (.iload_n 2, 1) := by decide +kernel
theorem dX9_fewest_10 : decode cX9_fewest 10 = .ok (.invokevirtual 133, 3) := by decide +kernel
theorem dX9_fewest_13 : decode cX9_fewest 13 = .ok (.ifCond .ne 9, 3) := by decide +kernel
theorem dX9_fewest_16 : decode cX9_fewest 16 = .ok (.aload_n 0, 1) := by decide +kernel
theorem dX9_fewest_17 : decode cX9_fewest 17 = .ok (.iconst 1, 1) := by decide +kernel
theorem dX9_fewest_18 : decode cX9_fewest 18 = .ok (.invokevirtual 70, 3) := by decide +kernel
theorem dX9_fewest_21 : decode cX9_fewest 21 = .ok (.ireturn, 1) := by decide +kernel
theorem dX9_fewest_22 : decode cX9_fewest 22 = .ok (.aload_n 0, 1) := by decide +kernel
theorem dX9_fewest_23 : decode cX9_fewest 23 = .ok (.getfield 44, 3) := by decide +kernel
theorem dX9_fewest_26 : decode cX9_fewest 26 = .ok (.aload_n 0, 1) := by decide +kernel
theorem dX9_fewest_27 : decode cX9_fewest 27 = .ok (.getfield 10, 3) := by decide +kernel
theorem dX9_fewest_30 : decode cX9_fewest 30 = .ok (.getfield 37, 3) := by decide +kernel
theorem dX9_fewest_33 : decode cX9_fewest 33 = .ok (.aload_n 0, 1) := by decide +kernel
theorem dX9_fewest_34 : decode cX9_fewest 34 = .ok (.getfield 10, 3) := by decide +kernel
theorem dX9_fewest_37 : decode cX9_fewest 37 = .ok (.getfield 149, 3) := by decide +kernel
theorem dX9_fewest_40 : decode cX9_fewest 40 = .ok (.iload_n 1, 1) := by decide +kernel
theorem dX9_fewest_41 : decode cX9_fewest 41 = .ok (.invokevirtual 177, 3) := by decide +kernel
theorem dX9_fewest_44 : decode cX9_fewest 44 = .ok (.iload_n 2, 1) := by decide +kernel
theorem dX9_fewest_45 : decode cX9_fewest 45 = .ok (.iconst 0, 1) := by decide +kernel
theorem dX9_fewest_46 : decode cX9_fewest 46 = .ok (.invokevirtual 263, 3) := by decide +kernel
theorem dX9_fewest_49 : decode cX9_fewest 49 = .ok (.istore_n 3, 1) := by decide +kernel
theorem dX9_fewest_50 : decode cX9_fewest 50 = .ok (.aload_n 0, 1) := by decide +kernel
theorem dX9_fewest_51 : decode cX9_fewest 51 = .ok (.iload_n 3, 1) := by decide +kernel
theorem dX9_fewest_52 : decode cX9_fewest 52 = .ok (.ldc_w 267, 3) := by decide +kernel
theorem dX9_fewest_55 : decode cX9_fewest 55 = .ok (.if_icmp .ne 8, 3) := by decide +kernel
theorem dX9_fewest_58 : decode cX9_fewest 58 = .ok (.bipush (-2), 2) := by decide +kernel
theorem dX9_fewest_60 : decode cX9_fewest 60 = .ok (.goto 4, 3) := by decide +kernel
theorem dX9_fewest_63 : decode cX9_fewest 63 = .ok (.iload_n 3, 1) := by decide +kernel
theorem dX9_fewest_64 : decode cX9_fewest 64 = .ok (.invokevirtual 103, 3) := by decide +kernel
theorem dX9_fewest_67 : decode cX9_fewest 67 = .ok (.ireturn, 1) := by decide +kernel
theorem dX9_first_0 : decode cX9_first 0 = .ok (.aload_n 0, 1) := by decide +kernel
theorem dX9_first_1 : decode cX9_first 1 = .ok (.iload_n 1, 1) := by decide +kernel
theorem dX9_first_2 : decode cX9_first 2 = .ok (.invokevirtual 161, 3) := by decide +kernel
theorem dX9_first_5 : decode cX9_first 5 = .ok (.ifCond .eq 11, 3) := by decide +kernel
theorem dX9_first_8 : decode cX9_first 8 = .ok (.aload_n 0, 1) := by decide +kernel
theorem dX9_first_9 : decode cX9_first 9 = .ok (.iload_n 2, 1) := by decide +kernel
theorem dX9_first_10 : decode cX9_first 10 = .ok (.invokevirtual 133, 3) := by decide +kernel
theorem dX9_first_13 : decode cX9_first 13 = .ok (.ifCond .ne 9, 3) := by decide +kernel
theorem dX9_first_16 : decode cX9_first 16 = .ok (.aload_n 0, 1) := by decide +kernel
theorem dX9_first_17 : decode cX9_first 17 = .ok (.iconst 1, 1) := by decide +kernel
theorem dX9_first_18 : decode cX9_first 18 = .ok (.invokevirtual 70, 3) := by decide +kernel
theorem dX9_first_21 : decode cX9_first 21 = .ok (.ireturn, 1) := by decide +kernel
theorem dX9_first_22 : decode cX9_first 22 = .ok (.aload_n 0, 1) := by decide +kernel
theorem dX9_first_23 : decode cX9_first 23 = .ok (.getfield 44, 3) := by decide +kernel
theorem dX9_first_26 : decode cX9_first 26 = .ok (.aload_n 0, 1) := by decide +kernel
theorem dX9_first_27 : decode cX9_first 27 = .ok (.getfield 10, 3) := by decide +kernel
theorem dX9_first_30 : decode cX9_first 30 = .ok (.getfield 37, 3) := by decide +kernel
theorem dX9_first_33 : decode cX9_first 33 = .ok (.aload_n 0, 1) := by decide +kernel
theorem dX9_first_34 : decode cX9_first 34 = .ok (.getfield 10, 3) := by decide +kernel
theorem dX9_first_37 : decode cX9_first 37 = .ok (.getfield 149, 3) := by decide +kernel
theorem dX9_first_40 : decode cX9_first 40 = .ok (.iload_n 1, 1) := by decide +kernel
theorem dX9_first_41 : decode cX9_first 41 = .ok (.invokevirtual 177, 3) := by decide +kernel
theorem dX9_first_44 : decode cX9_first 44 = .ok (.iload_n 2, 1) := by decide +kernel
theorem dX9_first_45 : decode cX9_first 45 = .ok (.iconst 0, 1) := by decide +kernel
theorem dX9_first_46 : decode cX9_first 46 = .ok (.invokevirtual 263, 3) := by decide +kernel
theorem dX9_first_49 : decode cX9_first 49 = .ok (.istore_n 3, 1) := by decide +kernel
theorem dX9_first_50 : decode cX9_first 50 = .ok (.aload_n 0, 1) := by decide +kernel
theorem dX9_first_51 : decode cX9_first 51 = .ok (.iload_n 3, 1) := by decide +kernel
theorem dX9_first_52 : decode cX9_first 52 = .ok (.ldc_w 267, 3) := by decide +kernel
theorem dX9_first_55 : decode cX9_first 55 = .ok (.if_icmp .ne 8, 3) := by decide +kernel
theorem dX9_first_58 : decode cX9_first 58 = .ok (.bipush (-2), 2) := by decide +kernel
theorem dX9_first_60 : decode cX9_first 60 = .ok (.goto 11, 3) := by decide +kernel
theorem dX9_first_63 : decode cX9_first 63 = .ok (.aload_n 0, 1) := by decide +kernel
theorem dX9_first_64 : decode cX9_first 64 = .ok (.getfield 44, 3) := by decide +kernel
theorem dX9_first_67 : decode cX9_first 67 = .ok (.iload_n 3, 1) := by decide +kernel
theorem dX9_first_68 : decode cX9_first 68 = .ok (.invokevirtual 268, 3) := by decide +kernel
theorem dX9_first_71 : decode cX9_first 71 = .ok (.invokevirtual 103, 3) := by decide +kernel
theorem dX9_first_74 : decode cX9_first 74 = .ok (.ireturn, 1) := by decide +kernel
theorem dX9_mean_0 : decode cX9_mean 0 = .ok (.aload_n 0, 1) := by decide +kernel
theorem dX9_mean_1 : decode cX9_mean 1 = .ok (.iload_n 1, 1) := by decide +kernel
theorem dX9_mean_2 : decode cX9_mean 2 = .ok (.invokevirtual 161, 3) := by decide +kernel
theorem dX9_mean_5 : decode cX9_mean 5 = .ok (.ifCond .eq 11, 3) := by decide +kernel
theorem dX9_mean_8 : decode cX9_mean 8 = .ok (.aload_n 0, 1) := by decide +kernel
theorem dX9_mean_9 : decode cX9_mean 9 = .ok (.iload_n 2, 1) := by decide +kernel
theorem dX9_mean_10 : decode cX9_mean 10 = .ok (.invokevirtual 133, 3) := by decide +kernel
theorem dX9_mean_13 : decode cX9_mean 13 = .ok (.ifCond .ne 10, 3) := by decide +kernel
theorem dX9_mean_16 : decode cX9_mean 16 = .ok (.aload_n 0, 1) := by decide +kernel
theorem dX9_mean_17 : decode cX9_mean 17 = .ok (.iconst 1, 1) := by decide +kernel
theorem dX9_mean_18 : decode cX9_mean 18 = .ok (.invokevirtual 70, 3) := by decide +kernel
theorem dX9_mean_21 : decode cX9_mean 21 = .ok (.i2l, 1) := by decide +kernel
