theorem dX9_mean_22 : decode cX9_mean 22 = .ok (.lreturn, 1) := by decide +kernel
theorem dX9_mean_23 : decode cX9_mean 23 = .ok (.aload_n 0, 1) := by decide +kernel
theorem dX9_mean_24 : decode cX9_mean 24 = .ok (.getfield 10, 3) := by decide +kernel
theorem dX9_mean_27 : decode cX9_mean 27 = .ok (.getfield 149, 3) := by decide +kernel
theorem dX9_mean_30 : decode cX9_mean 30 = .ok (.iload_n 1, 1) := by decide +kernel
theorem dX9_mean_31 : decode cX9_mean 31 = .ok (.invokevirtual 177, 3) := by decide +kernel
theorem dX9_mean_34 : decode cX9_mean 34 = .ok (.lstore 4, 2) := by decide +kernel
theorem dX9_mean_36 : decode cX9_mean 36 = .ok (.aload_n 0, 1) := by decide +kernel
theorem dX9_mean_37 : decode cX9_mean 37 = .ok (.getfield 44, 3) := by decide +kernel
theorem dX9_mean_40 : decode cX9_mean 40 = .ok (.aload_n 0, 1) := by decide +kernel
theorem dX9_mean_41 : decode cX9_mean 41 = .ok (.getfield 10, 3) := by decide +kernel
theorem dX9_mean_44 : decode cX9_mean 44 = .ok (.getfield 37, 3) := by decide +kernel
theorem dX9_mean_47 : decode cX9_mean 47 = .ok (.lload 4, 2) := by decide +kernel
theorem dX9_mean_49 : decode cX9_mean 49 = .ok (.iload_n 2, 1) := by decide +kernel
theorem dX9_mean_50 : decode cX9_mean 50 = .ok (.iconst 1, 1) := by decide +kernel
theorem dX9_mean_51 : decode cX9_mean 51 = .ok (.invokevirtual 263, 3) := by decide +kernel
theorem dX9_mean_54 : decode cX9_mean 54 = .ok (.istore 6, 2) := by decide +kernel
theorem dX9_mean_56 : decode cX9_mean 56 = .ok (.iload 6, 2) := by decide +kernel
theorem dX9_mean_58 : decode cX9_mean 58 = .ok (.ldc_w 267, 3) := by decide +kernel
theorem dX9_mean_61 : decode cX9_mean 61 = .ok (.if_icmp .ne 11, 3) := by decide +kernel
theorem dX9_mean_64 : decode cX9_mean 64 = .ok (.aload_n 0, 1) := by decide +kernel
theorem dX9_mean_65 : decode cX9_mean 65 = .ok (.bipush 6, 2) := by decide +kernel
theorem dX9_mean_67 : decode cX9_mean 67 = .ok (.invokevirtual 70, 3) := by decide +kernel
theorem dX9_mean_70 : decode cX9_mean 70 = .ok (.i2l, 1) := by decide +kernel
theorem dX9_mean_71 : decode cX9_mean 71 = .ok (.lreturn, 1) := by decide +kernel
theorem dX9_mean_72 : decode cX9_mean 72 = .ok (.aload_n 0, 1) := by decide +kernel
theorem dX9_mean_73 : decode cX9_mean 73 = .ok (.iload 6, 2) := by decide +kernel
theorem dX9_mean_75 : decode cX9_mean 75 = .ok (.i2l, 1) := by decide +kernel
theorem dX9_mean_76 : decode cX9_mean 76 = .ok (.aload_n 0, 1) := by decide +kernel
theorem dX9_mean_77 : decode cX9_mean 77 = .ok (.getfield 10, 3) := by decide +kernel
theorem dX9_mean_80 : decode cX9_mean 80 = .ok (.getfield 37, 3) := by decide +kernel
theorem dX9_mean_83 : decode cX9_mean 83 = .ok (.lload 4, 2) := by decide +kernel
theorem dX9_mean_85 : decode cX9_mean 85 = .ok (.invokevirtual 253, 3) := by decide +kernel
theorem dX9_mean_88 : decode cX9_mean 88 = .ok (.i2l, 1) := by decide +kernel
theorem dX9_mean_89 : decode cX9_mean 89 = .ok (.iload_n 3, 1) := by decide +kernel
theorem dX9_mean_90 : decode cX9_mean 90 = .ok (.invokevirtual 256, 3) := by decide +kernel
theorem dX9_mean_93 : decode cX9_mean 93 = .ok (.lreturn, 1) := by decide +kernel
theorem dX9_asking_0 : decode cX9_asking 0 = .ok (.aload_n 0, 1) := by decide +kernel
theorem dX9_asking_1 : decode cX9_asking 1 = .ok (.iload_n 1, 1) := by decide +kernel
theorem dX9_asking_2 : decode cX9_asking 2 = .ok (.invokevirtual 161, 3) := by decide +kernel
theorem dX9_asking_5 : decode cX9_asking 5 = .ok (.ifCond .ne 9, 3) := by decide +kernel
theorem dX9_asking_8 : decode cX9_asking 8 = .ok (.aload_n 0, 1) := by decide +kernel
theorem dX9_asking_9 : decode cX9_asking 9 = .ok (.iconst 1, 1) := by decide +kernel
theorem dX9_asking_10 : decode cX9_asking 10 = .ok (.invokevirtual 70, 3) := by decide +kernel
theorem dX9_asking_13 : decode cX9_asking 13 = .ok (.ireturn, 1) := by decide +kernel
theorem dX9_asking_14 : decode cX9_asking 14 = .ok (.iload_n 2, 1) := by decide +kernel
theorem dX9_asking_15 : decode cX9_asking 15 = .ok (.ifCond .lt 9, 3) := by decide +kernel
theorem dX9_asking_18 : decode cX9_asking 18 = .ok (.iload_n 2, 1) := by decide +kernel
theorem dX9_asking_19 : decode cX9_asking 19 = .ok (.bipush 99, 2) := by decide +kernel
theorem dX9_asking_21 : decode cX9_asking 21 = .ok (.if_icmp .le 9, 3) := by decide +kernel
theorem dX9_asking_24 : decode cX9_asking 24 = .ok (.aload_n 0, 1) := by decide +kernel
theorem dX9_asking_25 : decode cX9_asking 25 = .ok (.iconst 2, 1) := by decide +kernel
theorem dX9_asking_26 : decode cX9_asking 26 = .ok (.invokevirtual 70, 3) := by decide +kernel
theorem dX9_asking_29 : decode cX9_asking 29 = .ok (.ireturn, 1) := by decide +kernel
theorem dX9_asking_30 : decode cX9_asking 30 = .ok (.aload_n 0, 1) := by decide +kernel
theorem dX9_asking_31 : decode cX9_asking 31 = .ok (.aload_n 0, 1) := by decide +kernel
theorem dX9_asking_32 : decode cX9_asking 32 = .ok (.getfield 10, 3) := by decide +kernel
theorem dX9_asking_35 : decode cX9_asking 35 = .ok (.getfield 271, 3) := by decide +kernel
theorem dX9_asking_38 : decode cX9_asking 38 = .ok (.iload_n 1, 1) := by decide +kernel
theorem dX9_asking_39 : decode cX9_asking 39 = .ok (.aaload, 1) := by decide +kernel
theorem dX9_asking_40 : decode cX9_asking 40 = .ok (.iload_n 2, 1) := by decide +kernel
theorem dX9_asking_41 : decode cX9_asking 41 = .ok (.invokevirtual 274, 3) := by decide +kernel
theorem dX9_asking_44 : decode cX9_asking 44 = .ok (.invokevirtual 103, 3) := by decide +kernel
theorem dX9_asking_47 : decode cX9_asking 47 = .ok (.ireturn, 1) := by decide +kernel
theorem dX9_next_0 : decode cX9_next 0 = .ok (.aload_n 0, 1) := by decide +kernel
theorem dX9_next_1 : decode cX9_next 1 = .ok (.iload_n 1, 1) := by decide +kernel
theorem dX9_next_2 : decode cX9_next 2 = .ok (.invokevirtual 161, 3) := by decide +kernel
theorem dX9_next_5 : decode cX9_next 5 = .ok (.ifCond .ne 9, 3) := by decide +kernel
theorem dX9_next_8 : decode cX9_next 8 = .ok (.aload_n 0, 1) := by decide +kernel
theorem dX9_next_9 : decode cX9_next 9 = .ok (.iconst 1, 1) := by decide +kernel
theorem dX9_next_10 : decode cX9_next 10 = .ok (.invokevirtual 70, 3) := by decide +kernel
theorem dX9_next_13 : decode cX9_next 13 = .ok (.ireturn, 1) := by decide +kernel
theorem dX9_next_14 : decode cX9_next 14 = .ok (.aload_n 0, 1) := by decide +kernel
theorem dX9_next_15 : decode cX9_next 15 = .ok (.aload_n 0, 1) := by decide +kernel
theorem dX9_next_16 : decode cX9_next 16 = .ok (.getfield 10, 3) := by decide +kernel
theorem dX9_next_19 : decode cX9_next 19 = .ok (.getfield 271, 3) := by decide +kernel
theorem dX9_next_22 : decode cX9_next 22 = .ok (.iload_n 1, 1) := by decide +kernel
theorem dX9_next_23 : decode cX9_next 23 = .ok (.aaload, 1) := by decide +kernel
theorem dX9_next_24 : decode cX9_next 24 = .ok (.aload_n 0, 1) := by decide +kernel
theorem dX9_next_25 : decode cX9_next 25 = .ok (.getfield 10, 3) := by decide +kernel
theorem dX9_next_28 : decode cX9_next 28 = .ok (.getfield 170, 3) := by decide +kernel
theorem dX9_next_31 : decode cX9_next 31 = .ok (.getfield 279, 3) := by decide +kernel
theorem dX9_next_34 : decode cX9_next 34 = .ok (.invokevirtual 282, 3) := by decide +kernel
theorem dX9_next_37 : decode cX9_next 37 = .ok (.invokevirtual 103, 3) := by decide +kernel
theorem dX9_next_40 : decode cX9_next 40 = .ok (.ireturn, 1) := by decide +kernel
theorem dX9_turnOf_0 : decode cX9_turnOf 0 = .ok (.aload_n 0, 1) := by decide +kernel
theorem dX9_turnOf_1 : decode cX9_turnOf 1 = .ok (.getfield 90, 3) := by decide +kernel
theorem dX9_turnOf_4 : decode cX9_turnOf 4 = .ok (.ifCond .ne 9, 3) := by decide +kernel
theorem dX9_turnOf_7 : decode cX9_turnOf 7 = .ok (.aload_n 0, 1) := by decide +kernel
theorem dX9_turnOf_8 : decode cX9_turnOf 8 = .ok (.iconst 1, 1) := by decide +kernel
theorem dX9_turnOf_9 : decode cX9_turnOf 9 = .ok (.invokevirtual 70, 3) := by decide +kernel
theorem dX9_turnOf_12 : decode cX9_turnOf 12 = .ok (.ireturn, 1) := by decide +kernel
theorem dX9_turnOf_13 : decode cX9_turnOf 13 = .ok (.iload_n 1, 1) := by decide +kernel
theorem dX9_turnOf_14 : decode cX9_turnOf 14 = .ok (.ifCond .lt 9, 3) := by decide +kernel
theorem dX9_turnOf_17 : decode cX9_turnOf 17 = .ok (.iload_n 1, 1) := by decide +kernel
theorem dX9_turnOf_18 : decode cX9_turnOf 18 = .ok (.bipush 99, 2) := by decide +kernel
theorem dX9_turnOf_20 : decode cX9_turnOf 20 = .ok (.if_icmp .le 9, 3) := by decide +kernel
theorem dX9_turnOf_23 : decode cX9_turnOf 23 = .ok (.aload_n 0, 1) := by decide +kernel
theorem dX9_turnOf_24 : decode cX9_turnOf 24 = .ok (.iconst 2, 1) := by decide +kernel
theorem dX9_turnOf_25 : decode cX9_turnOf 25 = .ok (.invokevirtual 70, 3) := by decide +kernel
theorem dX9_turnOf_28 : decode cX9_turnOf 28 = .ok (.ireturn, 1) := by decide +kernel
theorem dX9_turnOf_29 : decode cX9_turnOf 29 = .ok (.aload_n 0, 1) := by decide +kernel
theorem dX9_turnOf_30 : decode cX9_turnOf 30 = .ok (.aload_n 0, 1) := by decide +kernel
theorem dX9_turnOf_31 : decode cX9_turnOf 31 = .ok (.getfield 10, 3) := by decide +kernel
theorem dX9_turnOf_34 : decode cX9_turnOf 34 = .ok (.iload_n 1, 1) := by decide +kernel
theorem dX9_turnOf_35 : decode cX9_turnOf 35 = .ok (.invokevirtual 285, 3) := by decide +kernel
theorem dX9_turnOf_38 : decode cX9_turnOf 38 = .ok (.invokevirtual 103, 3) := by decide +kernel
theorem dX9_turnOf_41 : decode cX9_turnOf 41 = .ok (.ireturn, 1) := by decide +kernel
theorem dX9_turnsTo_0 : decode cX9_turnsTo 0 = .ok (.aload_n 0, 1) := by decide +kernel
theorem dX9_turnsTo_1 : decode cX9_turnsTo 1 = .ok (.getfield 90, 3) := by decide +kernel
theorem dX9_turnsTo_4 : decode cX9_turnsTo 4 = .ok (.ifCond .ne 9, 3) := by decide +kernel
theorem dX9_turnsTo_7 : decode cX9_turnsTo 7 = .ok (.aload_n 0, 1) := by decide +kernel
theorem dX9_turnsTo_8 : decode cX9_turnsTo 8 = .ok (.iconst 1, 1) := by decide +kernel
theorem dX9_turnsTo_9 : decode cX9_turnsTo 9 = .ok (.invokevirtual 70, 3) := by decide +kernel
theorem dX9_turnsTo_12 : decode cX9_turnsTo 12 = .ok (.ireturn, 1) := by decide +kernel
theorem dX9_turnsTo_13 : decode cX9_turnsTo 13 = .ok (.iload_n 1, 1) := by decide +kernel
theorem dX9_turnsTo_14 : decode cX9_turnsTo 14 = .ok (.ifCond .lt 10, 3) := by decide +kernel
theorem dX9_turnsTo_17 : decode cX9_turnsTo 17 = .ok (.iload_n 1, 1) := by decide +kernel
theorem dX9_turnsTo_18 : decode cX9_turnsTo 18 = .ok (.sipush 999, 3) := by decide +kernel
theorem dX9_turnsTo_21 : decode cX9_turnsTo 21 = .ok (.if_icmp .le 9, 3) := by decide +kernel
theorem dX9_turnsTo_24 : decode cX9_turnsTo 24 = .ok (.aload_n 0, 1) := by decide +kernel
theorem dX9_turnsTo_25 : decode cX9_turnsTo 25 = .ok (.iconst 2, 1) := by decide +kernel
theorem dX9_turnsTo_26 : decode cX9_turnsTo 26 = .ok (.invokevirtual 70, 3) := by decide +kernel
theorem dX9_turnsTo_29 : decode cX9_turnsTo 29 = .ok (.ireturn, 1) := by decide +kernel
theorem dX9_turnsTo_30 : decode cX9_turnsTo 30 = .ok (.aload_n 0, 1) := by decide +kernel
theorem dX9_turnsTo_31 : decode cX9_turnsTo 31 = .ok (.aload_n 0, 1) := by decide +kernel
theorem dX9_turnsTo_32 : decode cX9_turnsTo 32 = .ok (.getfield 10, 3) := by decide +kernel
theorem dX9_turnsTo_35 : decode cX9_turnsTo 35 = .ok (.iload_n 1, 1) := by decide +kernel
theorem dX9_turnsTo_36 : decode cX9_turnsTo 36 = .ok (.invokevirtual 288, 3) := by decide +kernel
theorem dX9_turnsTo_39 : decode cX9_turnsTo 39 = .ok (.invokevirtual 103, 3) := by decide +kernel
theorem dX9_turnsTo_42 : decode cX9_turnsTo 42 = .ok (.ireturn, 1) := by decide +kernel
theorem dX9_births_0 : decode cX9_births 0 = .ok (.aload_n 0, 1) := by decide +kernel
theorem dX9_births_1 : decode cX9_births 1 = .ok (.iload_n 1, 1) := by decide +kernel
theorem dX9_births_2 : decode cX9_births 2 = .ok (.invokevirtual 161, 3) := by decide +kernel
theorem dX9_births_5 : decode cX9_births 5 = .ok (.ifCond .ne 9, 3) := by decide +kernel
theorem dX9_births_8 : decode cX9_births 8 = .ok (.aload_n 0, 1) := by decide +kernel
theorem dX9_births_9 : decode cX9_births 9 = .ok (.iconst 1, 1) := by decide +kernel
theorem dX9_births_10 : decode cX9_births 10 = .ok (.invokevirtual 70, 3) := by decide +kernel
theorem dX9_births_13 : decode cX9_births 13 = .ok (.ireturn, 1) := by decide +kernel
theorem dX9_births_14 : decode cX9_births 14 = .ok (.iload_n 2, 1) := by decide +kernel
theorem dX9_births_15 : decode cX9_births 15 = .ok (.ifCond .lt 20, 3) := by decide +kernel
theorem dX9_births_18 : decode cX9_births 18 = .ok (.iload_n 2, 1) := by decide +kernel
theorem dX9_births_19 : decode cX9_births 19 = .ok (.ldc_w 291, 3) := by decide +kernel
theorem dX9_births_22 : decode cX9_births 22 = .ok (.if_icmp .ge 13, 3) := by decide +kernel
theorem dX9_births_25 : decode cX9_births 25 = .ok (.iload_n 3, 1) := by decide +kernel
theorem dX9_births_26 : decode cX9_births 26 = .ok (.ifCond .lt 9, 3) := by decide +kernel
theorem dX9_births_29 : decode cX9_births 29 = .ok (.iload_n 3, 1) := by decide +kernel
theorem dX9_births_30 : decode cX9_births 30 = .ok (.bipush 99, 2) := by decide +kernel
theorem dX9_births_32 : decode cX9_births 32 = .ok (.if_icmp .le 9, 3) := by decide +kernel
theorem dX9_births_35 : decode cX9_births 35 = .ok (.aload_n 0, 1) := by decide +kernel
theorem dX9_births_36 : decode cX9_births 36 = .ok (.iconst 2, 1) := by decide +kernel
theorem dX9_births_37 : decode cX9_births 37 = .ok (.invokevirtual 70, 3) := by decide +kernel
theorem dX9_births_40 : decode cX9_births 40 = .ok (.ireturn, 1) := by decide +kernel
theorem dX9_births_41 : decode cX9_births 41 = .ok (.iconst 0, 1) := by decide +kernel
theorem dX9_births_42 : decode cX9_births 42 = .ok (.istore 4, 2) := by decide +kernel
theorem dX9_births_44 : decode cX9_births 44 = .ok (.iload_n 2, 1) := by decide +kernel
theorem dX9_births_45 : decode cX9_births 45 = .ok (.istore 5, 2) := by decide +kernel
theorem dX9_births_47 : decode cX9_births 47 = .ok (.iconst 0, 1) := by decide +kernel
theorem dX9_births_48 : decode cX9_births 48 = .ok (.istore 6, 2) := by decide +kernel
theorem dX9_births_50 : decode cX9_births 50 = .ok (.iload 6, 2) := by decide +kernel
theorem dX9_births_52 : decode cX9_births 52 = .ok (.iload_n 3, 1) := by decide +kernel
theorem dX9_births_53 : decode cX9_births 53 = .ok (.if_icmp .ge 53, 3) := by decide +kernel
theorem dX9_births_56 : decode cX9_births 56 = .ok (.bipush 75, 2) := by decide +kernel
theorem dX9_births_58 : decode cX9_births 58 = .ok (.iload 5, 2) := by decide +kernel
theorem dX9_births_60 : decode cX9_births 60 = .ok (.imul, 1) := by decide +kernel
theorem dX9_births_61 : decode cX9_births 61 = .ok (.bipush 74, 2) := by decide +kernel
theorem dX9_births_63 : decode cX9_births 63 = .ok (.iadd, 1) := by decide +kernel
theorem dX9_births_64 : decode cX9_births 64 = .ok (.ldc_w 291, 3) := by decide +kernel
theorem dX9_births_67 : decode cX9_births 67 = .ok (.irem, 1) := by decide +kernel
theorem dX9_births_68 : decode cX9_births 68 = .ok (.istore 5, 2) := by decide +kernel
theorem dX9_births_70 : decode cX9_births 70 = .ok (.iload 4, 2) := by decide +kernel
theorem dX9_births_72 : decode cX9_births 72 = .ok (.iload 5, 2) := by decide +kernel
theorem dX9_births_74 : decode cX9_births 74 = .ok (.bipush 100, 2) := by decide +kernel
theorem dX9_births_76 : decode cX9_births 76 = .ok (.irem, 1) := by decide +kernel
theorem dX9_births_77 : decode cX9_births 77 = .ok (.aload_n 0, 1) := by decide +kernel
theorem dX9_births_78 : decode cX9_births 78 = .ok (.getfield 10, 3) := by decide +kernel
theorem dX9_births_81 : decode cX9_births 81 = .ok (.getfield 271, 3) := by decide +kernel
theorem dX9_births_84 : decode cX9_births 84 = .ok (.iload_n 1, 1) := by decide +kernel
theorem dX9_births_85 : decode cX9_births 85 = .ok (.aaload, 1) := by decide +kernel
theorem dX9_births_86 : decode cX9_births 86 = .ok (.getfield 292, 3) := by decide +kernel
theorem dX9_births_89 : decode cX9_births 89 = .ok (.if_icmp .ge 7, 3) := by decide +kernel
theorem dX9_births_92 : decode cX9_births 92 = .ok (.iconst 2, 1) := by decide +kernel
theorem dX9_births_93 : decode cX9_births 93 = .ok (.goto 4, 3) := by decide +kernel
theorem dX9_births_96 : decode cX9_births 96 = .ok (.iconst 1, 1) := by decide +kernel
theorem dX9_births_97 : decode cX9_births 97 = .ok (.iadd, 1) := by decide +kernel
theorem dX9_births_98 : decode cX9_births 98 = .ok (.istore 4, 2) := by decide +kernel
theorem dX9_births_100 : decode cX9_births 100 = .ok (.iinc 6 1, 3) := by decide +kernel
theorem dX9_births_103 : decode cX9_births 103 = .ok (.goto (-53), 3) := by decide +kernel
theorem dX9_births_106 : decode cX9_births 106 = .ok (.aload_n 0, 1) := by decide +kernel
theorem dX9_births_107 : decode cX9_births 107 = .ok (.iload 4, 2) := by decide +kernel
theorem dX9_births_109 : decode cX9_births 109 = .ok (.invokevirtual 103, 3) := by decide +kernel
theorem dX9_births_112 : decode cX9_births 112 = .ok (.ireturn, 1) := by decide +kernel
theorem dX9_ask_0 : decode cX9_ask 0 = .ok (.aload_n 0, 1) := by decide +kernel
theorem dX9_ask_1 : decode cX9_ask 1 = .ok (.iload_n 1, 1) := by decide +kernel
theorem dX9_ask_2 : decode cX9_ask 2 = .ok (.iload_n 2, 1) := by decide +kernel
theorem dX9_ask_3 : decode cX9_ask 3 = .ok (.iconst 0, 1) := by decide +kernel
theorem dX9_ask_4 : decode cX9_ask 4 = .ok (.invokevirtual 295, 3) := by decide +kernel
theorem dX9_ask_7 : decode cX9_ask 7 = .ok (.ireturn, 1) := by decide +kernel
theorem dX9_lie_0 : decode cX9_lie 0 = .ok (.aload_n 0, 1) := by decide +kernel
theorem dX9_lie_1 : decode cX9_lie 1 = .ok (.iload_n 1, 1) := by decide +kernel
theorem dX9_lie_2 : decode cX9_lie 2 = .ok (.iload_n 2, 1) := by decide +kernel
theorem dX9_lie_3 : decode cX9_lie 3 = .ok (.iconst 1, 1) := by decide +kernel
theorem dX9_lie_4 : decode cX9_lie 4 = .ok (.invokevirtual 295, 3) := by decide +kernel
theorem dX9_lie_7 : decode cX9_lie 7 = .ok (.ireturn, 1) := by decide +kernel
theorem dX9_wed_0 : decode cX9_wed 0 = .ok (.aload_n 0, 1) := by decide +kernel
theorem dX9_wed_1 : decode cX9_wed 1 = .ok (.iload_n 1, 1) := by decide +kernel
theorem dX9_wed_2 : decode cX9_wed 2 = .ok (.invokevirtual 161, 3) := by decide +kernel
theorem dX9_wed_5 : decode cX9_wed 5 = .ok (.ifCond .eq 16, 3) := by decide +kernel
theorem dX9_wed_8 : decode cX9_wed 8 = .ok (.aload_n 0, 1) := by decide +kernel
theorem dX9_wed_9 : decode cX9_wed 9 = .ok (.iload_n 2, 1) := by decide +kernel
theorem dX9_wed_10 : decode cX9_wed 10 = .ok (.invokevirtual 161, 3) := by decide +kernel
theorem dX9_wed_13 : decode cX9_wed 13 = .ok (.ifCond .eq 8, 3) := by decide +kernel
theorem dX9_wed_16 : decode cX9_wed 16 = .ok (.iload_n 1, 1) := by decide +kernel
theorem dX9_wed_17 : decode cX9_wed 17 = .ok (.iload_n 2, 1) := by decide +kernel
theorem dX9_wed_18 : decode cX9_wed 18 = .ok (.if_icmp .ne 11, 3) := by decide +kernel
theorem dX9_wed_21 : decode cX9_wed 21 = .ok (.aload_n 0, 1) := by decide +kernel
theorem dX9_wed_22 : decode cX9_wed 22 = .ok (.iconst 1, 1) := by decide +kernel
theorem dX9_wed_23 : decode cX9_wed 23 = .ok (.invokevirtual 70, 3) := by decide +kernel
theorem dX9_wed_26 : decode cX9_wed 26 = .ok (.pop, 1) := by decide +kernel
theorem dX9_wed_27 : decode cX9_wed 27 = .ok (.iconst 0, 1) := by decide +kernel
theorem dX9_wed_28 : decode cX9_wed 28 = .ok (.ireturn, 1) := by decide +kernel
theorem dX9_wed_29 : decode cX9_wed 29 = .ok (.aload_n 0, 1) := by decide +kernel
theorem dX9_wed_30 : decode cX9_wed 30 = .ok (.getfield 10, 3) := by decide +kernel
theorem dX9_wed_33 : decode cX9_wed 33 = .ok (.getfield 170, 3) := by decide +kernel
theorem dX9_wed_36 : decode cX9_wed 36 = .ok (.iload_n 1, 1) := by decide +kernel
theorem dX9_wed_37 : decode cX9_wed 37 = .ok (.iload_n 2, 1) := by decide +kernel
theorem dX9_wed_38 : decode cX9_wed 38 = .ok (.invokevirtual 299, 3) := by decide +kernel
theorem dX9_wed_41 : decode cX9_wed 41 = .ok (.ifCond .eq 11, 3) := by decide +kernel
theorem dX9_wed_44 : decode cX9_wed 44 = .ok (.aload_n 0, 1) := by decide +kernel
theorem dX9_wed_45 : decode cX9_wed 45 = .ok (.iconst 5, 1) := by decide +kernel
theorem dX9_wed_46 : decode cX9_wed 46 = .ok (.invokevirtual 70, 3) := by decide +kernel
theorem dX9_wed_49 : decode cX9_wed 49 = .ok (.pop, 1) := by decide +kernel
theorem dX9_wed_50 : decode cX9_wed 50 = .ok (.iconst 0, 1) := by decide +kernel
theorem dX9_wed_51 : decode cX9_wed 51 = .ok (.ireturn, 1) := by decide +kernel
theorem dX9_wed_52 : decode cX9_wed 52 = .ok (.aload_n 0, 1) := by decide +kernel
theorem dX9_wed_53 : decode cX9_wed 53 = .ok (.getfield 10, 3) := by decide +kernel
theorem dX9_wed_56 : decode cX9_wed 56 = .ok (.getfield 170, 3) := by decide +kernel
theorem dX9_wed_59 : decode cX9_wed 59 = .ok (.iload_n 1, 1) := by decide +kernel
theorem dX9_wed_60 : decode cX9_wed 60 = .ok (.iload_n 2, 1) := by decide +kernel
theorem dX9_wed_61 : decode cX9_wed 61 = .ok (.invokevirtual 303, 3) := by decide +kernel
theorem dX9_wed_64 : decode cX9_wed 64 = .ok (.aload_n 0, 1) := by decide +kernel
theorem dX9_wed_65 : decode cX9_wed 65 = .ok (.getfield 51, 3) := by decide +kernel
theorem dX9_wed_68 : decode cX9_wed 68 = .ok (.iconst 1, 1) := by decide +kernel
theorem dX9_wed_69 : decode cX9_wed 69 = .ok (.iload_n 1, 1) := by decide +kernel
theorem dX9_wed_70 : decode cX9_wed 70 = .ok (.iload_n 2, 1) := by decide +kernel
theorem dX9_wed_71 : decode cX9_wed 71 = .ok (.invokevirtual 307, 3) := by decide +kernel
theorem dX9_wed_74 : decode cX9_wed 74 = .ok (.aload_n 0, 1) := by decide +kernel
theorem dX9_wed_75 : decode cX9_wed 75 = .ok (.iconst 0, 1) := by decide +kernel
theorem dX9_wed_76 : decode cX9_wed 76 = .ok (.putfield 106, 3) := by decide +kernel
theorem dX9_wed_79 : decode cX9_wed 79 = .ok (.iconst 1, 1) := by decide +kernel
theorem dX9_wed_80 : decode cX9_wed 80 = .ok (.ireturn, 1) := by decide +kernel
theorem dX9_years_0 : decode cX9_years 0 = .ok (.aload_n 0, 1) := by decide +kernel
theorem dX9_years_1 : decode cX9_years 1 = .ok (.getfield 90, 3) := by decide +kernel
theorem dX9_years_4 : decode cX9_years 4 = .ok (.ifCond .ne 9, 3) := by decide +kernel
theorem dX9_years_7 : decode cX9_years 7 = .ok (.aload_n 0, 1) := by decide +kernel
theorem dX9_years_8 : decode cX9_years 8 = .ok (.iconst 1, 1) := by decide +kernel
theorem dX9_years_9 : decode cX9_years 9 = .ok (.invokevirtual 70, 3) := by decide +kernel
theorem dX9_years_12 : decode cX9_years 12 = .ok (.ireturn, 1) := by decide +kernel
theorem dX9_years_13 : decode cX9_years 13 = .ok (.iload_n 1, 1) := by decide +kernel
theorem dX9_years_14 : decode cX9_years 14 = .ok (.iconst 1, 1) := by decide +kernel
theorem dX9_years_15 : decode cX9_years 15 = .ok (.if_icmp .lt 9, 3) := by decide +kernel
theorem dX9_years_18 : decode cX9_years 18 = .ok (.iload_n 1, 1) := by decide +kernel
theorem dX9_years_19 : decode cX9_years 19 = .ok (.bipush 99, 2) := by decide +kernel
theorem dX9_years_21 : decode cX9_years 21 = .ok (.if_icmp .le 9, 3) := by decide +kernel
theorem dX9_years_24 : decode cX9_years 24 = .ok (.aload_n 0, 1) := by decide +kernel
theorem dX9_years_25 : decode cX9_years 25 = .ok (.iconst 2, 1) := by decide +kernel
theorem dX9_years_26 : decode cX9_years 26 = .ok (.invokevirtual 70, 3) := by decide +kernel
theorem dX9_years_29 : decode cX9_years 29 = .ok (.ireturn, 1) := by decide +kernel
theorem dX9_years_30 : decode cX9_years 30 = .ok (.aload_n 0, 1) := by decide +kernel
theorem dX9_years_31 : decode cX9_years 31 = .ok (.getfield 10, 3) := by decide +kernel
theorem dX9_years_34 : decode cX9_years 34 = .ok (.getfield 170, 3) := by decide +kernel
theorem dX9_years_37 : decode cX9_years 37 = .ok (.getfield 279, 3) := by decide +kernel
theorem dX9_years_40 : decode cX9_years 40 = .ok (.iload_n 1, 1) := by decide +kernel
theorem dX9_years_41 : decode cX9_years 41 = .ok (.iadd, 1) := by decide +kernel
theorem dX9_years_42 : decode cX9_years 42 = .ok (.sipush 999, 3) := by decide +kernel
theorem dX9_years_45 : decode cX9_years 45 = .ok (.if_icmp .le 9, 3) := by decide +kernel
theorem dX9_years_48 : decode cX9_years 48 = .ok (.aload_n 0, 1) := by decide +kernel
theorem dX9_years_49 : decode cX9_years 49 = .ok (.iconst 3, 1) := by decide +kernel
theorem dX9_years_50 : decode cX9_years 50 = .ok (.invokevirtual 70, 3) := by decide +kernel
theorem dX9_years_53 : decode cX9_years 53 = .ok (.ireturn, 1) := by decide +kernel
theorem dX9_years_54 : decode cX9_years 54 = .ok (.aload_n 0, 1) := by decide +kernel
theorem dX9_years_55 : decode cX9_years 55 = .ok (.getfield 10, 3) := by decide +kernel
theorem dX9_years_58 : decode cX9_years 58 = .ok (.getfield 170, 3) := by decide +kernel
theorem dX9_years_61 : decode cX9_years 61 = .ok (.dup, 1) := by decide +kernel
theorem dX9_years_62 : decode cX9_years 62 = .ok (.getfield 279, 3) := by decide +kernel
theorem dX9_years_65 : decode cX9_years 65 = .ok (.iload_n 1, 1) := by decide +kernel
theorem dX9_years_66 : decode cX9_years 66 = .ok (.iadd, 1) := by decide +kernel
theorem dX9_years_67 : decode cX9_years 67 = .ok (.putfield 279, 3) := by decide +kernel
theorem dX9_years_70 : decode cX9_years 70 = .ok (.aload_n 0, 1) := by decide +kernel
theorem dX9_years_71 : decode cX9_years 71 = .ok (.getfield 51, 3) := by decide +kernel
theorem dX9_years_74 : decode cX9_years 74 = .ok (.iconst 2, 1) := by decide +kernel
theorem dX9_years_75 : decode cX9_years 75 = .ok (.iload_n 1, 1) := by decide +kernel
theorem dX9_years_76 : decode cX9_years 76 = .ok (.iconst 0, 1) := by decide +kernel
theorem dX9_years_77 : decode cX9_years 77 = .ok (.invokevirtual 307, 3) := by decide +kernel
theorem dX9_years_80 : decode cX9_years 80 = .ok (.aload_n 0, 1) := by decide +kernel
theorem dX9_years_81 : decode cX9_years 81 = .ok (.aload_n 0, 1) := by decide +kernel
theorem dX9_years_82 : decode cX9_years 82 = .ok (.getfield 10, 3) := by decide +kernel
theorem dX9_years_85 : decode cX9_years 85 = .ok (.getfield 170, 3) := by decide +kernel
theorem dX9_years_88 : decode cX9_years 88 = .ok (.getfield 279, 3) := by decide +kernel
theorem dX9_years_91 : decode cX9_years 91 = .ok (.invokevirtual 103, 3) := by decide +kernel
theorem dX9_years_94 : decode cX9_years 94 = .ok (.ireturn, 1) := by decide +kernel
theorem dX9_undo_0 : decode cX9_undo 0 = .ok (.aload_n 0, 1) := by decide +kernel
theorem dX9_undo_1 : decode cX9_undo 1 = .ok (.getfield 51, 3) := by decide +kernel
theorem dX9_undo_4 : decode cX9_undo 4 = .ok (.aload_n 0, 1) := by decide +kernel
theorem dX9_undo_5 : decode cX9_undo 5 = .ok (.getfield 10, 3) := by decide +kernel
theorem dX9_undo_8 : decode cX9_undo 8 = .ok (.getfield 170, 3) := by decide +kernel
theorem dX9_undo_11 : decode cX9_undo 11 = .ok (.invokevirtual 311, 3) := by decide +kernel
theorem dX9_undo_14 : decode cX9_undo 14 = .ok (.ifCond .ne 12, 3) := by decide +kernel
theorem dX9_undo_17 : decode cX9_undo 17 = .ok (.aload_n 0, 1) := by decide +kernel
theorem dX9_undo_18 : decode cX9_undo 18 = .ok (.bipush 6, 2) := by decide +kernel
theorem dX9_undo_20 : decode cX9_undo 20 = .ok (.invokevirtual 70, 3) := by decide +kernel
theorem dX9_undo_23 : decode cX9_undo 23 = .ok (.pop, 1) := by decide +kernel
theorem dX9_undo_24 : decode cX9_undo 24 = .ok (.iconst 0, 1) := by decide +kernel
theorem dX9_undo_25 : decode cX9_undo 25 = .ok (.ireturn, 1) := by decide +kernel
theorem dX9_undo_26 : decode cX9_undo 26 = .ok (.aload_n 0, 1) := by decide +kernel
theorem dX9_undo_27 : decode cX9_undo 27 = .ok (.getfield 10, 3) := by decide +kernel
theorem dX9_undo_30 : decode cX9_undo 30 = .ok (.getfield 149, 3) := by decide +kernel
theorem dX9_undo_33 : decode cX9_undo 33 = .ok (.aload_n 0, 1) := by decide +kernel
theorem dX9_undo_34 : decode cX9_undo 34 = .ok (.getfield 10, 3) := by decide +kernel
theorem dX9_undo_37 : decode cX9_undo 37 = .ok (.getfield 100, 3) := by decide +kernel
theorem dX9_undo_40 : decode cX9_undo 40 = .ok (.invokevirtual 315, 3) := by decide +kernel
theorem dX9_undo_43 : decode cX9_undo 43 = .ok (.aload_n 0, 1) := by decide +kernel
theorem dX9_undo_44 : decode cX9_undo 44 = .ok (.iconst 0, 1) := by decide +kernel
theorem dX9_undo_45 : decode cX9_undo 45 = .ok (.putfield 106, 3) := by decide +kernel
theorem dX9_undo_48 : decode cX9_undo 48 = .ok (.iconst 1, 1) := by decide +kernel
theorem dX9_undo_49 : decode cX9_undo 49 = .ok (.ireturn, 1) := by decide +kernel
theorem dX9_image_0 : decode cX9_image 0 = .ok (.aload_n 0, 1) := by decide +kernel
theorem dX9_image_1 : decode cX9_image 1 = .ok (.getfield 90, 3) := by decide +kernel
theorem dX9_image_4 : decode cX9_image 4 = .ok (.ifCond .ne 9, 3) := by decide +kernel
theorem dX9_image_7 : decode cX9_image 7 = .ok (.aload_n 0, 1) := by decide +kernel
theorem dX9_image_8 : decode cX9_image 8 = .ok (.iconst 1, 1) := by decide +kernel
theorem dX9_image_9 : decode cX9_image 9 = .ok (.invokevirtual 70, 3) := by decide +kernel
theorem dX9_image_12 : decode cX9_image 12 = .ok (.ireturn, 1) := by decide +kernel
theorem dX9_image_13 : decode cX9_image 13 = .ok (.aload_n 0, 1) := by decide +kernel
theorem dX9_image_14 : decode cX9_image 14 = .ok (.getfield 94, 3) := by decide +kernel
theorem dX9_image_17 : decode cX9_image 17 = .ok (.ifCond .lt 11, 3) := by decide +kernel
theorem dX9_image_20 : decode cX9_image 20 = .ok (.aload_n 0, 1) := by decide +kernel
theorem dX9_image_21 : decode cX9_image 21 = .ok (.getfield 94, 3) := by decide +kernel
theorem dX9_image_24 : decode cX9_image 24 = .ok (.iconst 3, 1) := by decide +kernel
theorem dX9_image_25 : decode cX9_image 25 = .ok (.if_icmp .lt 9, 3) := by decide +kernel
theorem dX9_image_28 : decode cX9_image 28 = .ok (.aload_n 0, 1) := by decide +kernel
theorem dX9_image_29 : decode cX9_image 29 = .ok (.iconst 3, 1) := by decide +kernel
theorem dX9_image_30 : decode cX9_image 30 = .ok (.invokevirtual 70, 3) := by decide +kernel
theorem dX9_image_33 : decode cX9_image 33 = .ok (.ireturn, 1) := by decide +kernel
theorem dX9_image_34 : decode cX9_image 34 = .ok (.aload_n 0, 1) := by decide +kernel
theorem dX9_image_35 : decode cX9_image 35 = .ok (.getfield 58, 3) := by decide +kernel
theorem dX9_image_38 : decode cX9_image 38 = .ok (.aload_n 0, 1) := by decide +kernel
theorem dX9_image_39 : decode cX9_image 39 = .ok (.getfield 94, 3) := by decide +kernel
theorem dX9_image_42 : decode cX9_image 42 = .ok (.aaload, 1) := by decide +kernel
theorem dX9_image_43 : decode cX9_image 43 = .ok (.aload_n 0, 1) := by decide +kernel
theorem dX9_image_44 : decode cX9_image 44 = .ok (.getfield 10, 3) := by decide +kernel
theorem dX9_image_47 : decode cX9_image 47 = .ok (.getfield 170, 3) := by decide +kernel
theorem dX9_image_50 : decode cX9_image 50 = .ok (.invokevirtual 318, 3) := by decide +kernel
theorem dX9_image_53 : decode cX9_image 53 = .ok (.aload_n 0, 1) := by decide +kernel
theorem dX9_image_54 : decode cX9_image 54 = .ok (.dup, 1) := by decide +kernel
theorem dX9_image_55 : decode cX9_image 55 = .ok (.getfield 94, 3) := by decide +kernel
theorem dX9_image_58 : decode cX9_image 58 = .ok (.iconst 1, 1) := by decide +kernel
theorem dX9_image_59 : decode cX9_image 59 = .ok (.iadd, 1) := by decide +kernel
theorem dX9_image_60 : decode cX9_image 60 = .ok (.putfield 94, 3) := by decide +kernel
theorem dX9_image_63 : decode cX9_image 63 = .ok (.aload_n 0, 1) := by decide +kernel
theorem dX9_image_64 : decode cX9_image 64 = .ok (.aload_n 0, 1) := by decide +kernel
theorem dX9_image_65 : decode cX9_image 65 = .ok (.getfield 94, 3) := by decide +kernel
theorem dX9_image_68 : decode cX9_image 68 = .ok (.iconst 1, 1) := by decide +kernel
theorem dX9_image_69 : decode cX9_image 69 = .ok (.isub, 1) := by decide +kernel
theorem dX9_image_70 : decode cX9_image 70 = .ok (.invokevirtual 103, 3) := by decide +kernel
theorem dX9_image_73 : decode cX9_image 73 = .ok (.ireturn, 1) := by decide +kernel
theorem dX9_back_0 : decode cX9_back 0 = .ok (.iload_n 1, 1) := by decide +kernel
theorem dX9_back_1 : decode cX9_back 1 = .ok (.ifCond .lt 16, 3) := by decide +kernel
theorem dX9_back_4 : decode cX9_back 4 = .ok (.iload_n 1, 1) := by decide +kernel
theorem dX9_back_5 : decode cX9_back 5 = .ok (.aload_n 0, 1) := by decide +kernel
theorem dX9_back_6 : decode cX9_back 6 = .ok (.getfield 94, 3) := by decide +kernel
theorem dX9_back_9 : decode cX9_back 9 = .ok (.if_icmp .ge 8, 3) := by decide +kernel
theorem dX9_back_12 : decode cX9_back 12 = .ok (.iload_n 1, 1) := by decide +kernel
theorem dX9_back_13 : decode cX9_back 13 = .ok (.iconst 3, 1) := by decide +kernel
theorem dX9_back_14 : decode cX9_back 14 = .ok (.if_icmp .lt 11, 3) := by decide +kernel
theorem dX9_back_17 : decode cX9_back 17 = .ok (.aload_n 0, 1) := by decide +kernel
theorem dX9_back_18 : decode cX9_back 18 = .ok (.iconst 1, 1) := by decide +kernel
theorem dX9_back_19 : decode cX9_back 19 = .ok (.invokevirtual 70, 3) := by decide +kernel
theorem dX9_back_22 : decode cX9_back 22 = .ok (.pop, 1) := by decide +kernel
theorem dX9_back_23 : decode cX9_back 23 = .ok (.iconst 0, 1) := by decide +kernel
theorem dX9_back_24 : decode cX9_back 24 = .ok (.ireturn, 1) := by decide +kernel
theorem dX9_back_25 : decode cX9_back 25 = .ok (.aload_n 0, 1) := by decide +kernel
theorem dX9_back_26 : decode cX9_back 26 = .ok (.getfield 10, 3) := by decide +kernel
theorem dX9_back_29 : decode cX9_back 29 = .ok (.getfield 170, 3) := by decide +kernel
theorem dX9_back_32 : decode cX9_back 32 = .ok (.aload_n 0, 1) := by decide +kernel
theorem dX9_back_33 : decode cX9_back 33 = .ok (.getfield 58, 3) := by decide +kernel
theorem dX9_back_36 : decode cX9_back 36 = .ok (.iload_n 1, 1) := by decide +kernel
theorem dX9_back_37 : decode cX9_back 37 = .ok (.aaload, 1) := by decide +kernel
theorem dX9_back_38 : decode cX9_back 38 = .ok (.invokevirtual 318, 3) := by decide +kernel
theorem dX9_back_41 : decode cX9_back 41 = .ok (.aload_n 0, 1) := by decide +kernel
theorem dX9_back_42 : decode cX9_back 42 = .ok (.getfield 10, 3) := by decide +kernel
theorem dX9_back_45 : decode cX9_back 45 = .ok (.getfield 149, 3) := by decide +kernel
theorem dX9_back_48 : decode cX9_back 48 = .ok (.aload_n 0, 1) := by decide +kernel
theorem dX9_back_49 : decode cX9_back 49 = .ok (.getfield 10, 3) := by decide +kernel
theorem dX9_back_52 : decode cX9_back 52 = .ok (.getfield 100, 3) := by decide +kernel
theorem dX9_back_55 : decode cX9_back 55 = .ok (.invokevirtual 315, 3) := by decide +kernel
theorem dX9_back_58 : decode cX9_back 58 = .ok (.aload_n 0, 1) := by decide +kernel
theorem dX9_back_59 : decode cX9_back 59 = .ok (.getfield 51, 3) := by decide +kernel
theorem dX9_back_62 : decode cX9_back 62 = .ok (.invokevirtual 97, 3) := by decide +kernel
theorem dX9_back_65 : decode cX9_back 65 = .ok (.aload_n 0, 1) := by decide +kernel
theorem dX9_back_66 : decode cX9_back 66 = .ok (.iconst 0, 1) := by decide +kernel
theorem dX9_back_67 : decode cX9_back 67 = .ok (.putfield 106, 3) := by decide +kernel
theorem dX9_back_70 : decode cX9_back 70 = .ok (.iconst 1, 1) := by decide +kernel
theorem dX9_back_71 : decode cX9_back 71 = .ok (.ireturn, 1) := by decide +kernel
theorem dX9_led_0 : decode cX9_led 0 = .ok (.iconst 0, 1) := by decide +kernel
theorem dX9_led_1 : decode cX9_led 1 = .ok (.istore_n 2, 1) := by decide +kernel
theorem dX9_led_2 : decode cX9_led 2 = .ok (.iconst 0, 1) := by decide +kernel
theorem dX9_led_3 : decode cX9_led 3 = .ok (.istore_n 3, 1) := by decide +kernel
theorem dX9_led_4 : decode cX9_led 4 = .ok (.iload_n 3, 1) := by decide +kernel
theorem dX9_led_5 : decode cX9_led 5 = .ok (.aload_n 0, 1) := by decide +kernel
theorem dX9_led_6 : decode cX9_led 6 = .ok (.getfield 10, 3) := by decide +kernel
theorem dX9_led_9 : decode cX9_led 9 = .ok (.getfield 170, 3) := by decide +kernel
theorem dX9_led_12 : decode cX9_led 12 = .ok (.getfield 231, 3) := by decide +kernel
theorem dX9_led_15 : decode cX9_led 15 = .ok (.if_icmp .ge 33, 3) := by decide +kernel
theorem dX9_led_18 : decode cX9_led 18 = .ok (.aload_n 0, 1) := by decide +kernel
theorem dX9_led_19 : decode cX9_led 19 = .ok (.getfield 10, 3) := by decide +kernel
theorem dX9_led_22 : decode cX9_led 22 = .ok (.getfield 149, 3) := by decide +kernel
theorem dX9_led_25 : decode cX9_led 25 = .ok (.iload_n 3, 1) := by decide +kernel
theorem dX9_led_26 : decode cX9_led 26 = .ok (.invokevirtual 225, 3) := by decide +kernel
theorem dX9_led_29 : decode cX9_led 29 = .ok (.ifCond .ne 13, 3) := by decide +kernel
theorem dX9_led_32 : decode cX9_led 32 = .ok (.iload_n 2, 1) := by decide +kernel
theorem dX9_led_33 : decode cX9_led 33 = .ok (.iload_n 1, 1) := by decide +kernel
theorem dX9_led_34 : decode cX9_led 34 = .ok (.if_icmp .ne 5, 3) := by decide +kernel
theorem dX9_led_37 : decode cX9_led 37 = .ok (.iload_n 3, 1) := by decide +kernel
theorem dX9_led_38 : decode cX9_led 38 = .ok (.ireturn, 1) := by decide +kernel
theorem dX9_led_39 : decode cX9_led 39 = .ok (.iinc 2 1, 3) := by decide +kernel
theorem dX9_led_42 : decode cX9_led 42 = .ok (.iinc 3 1, 3) := by decide +kernel
theorem dX9_led_45 : decode cX9_led 45 = .ok (.goto (-41), 3) := by decide +kernel
theorem dX9_led_48 : decode cX9_led 48 = .ok (.new 322, 3) := by decide +kernel
theorem dX9_led_51 : decode cX9_led 51 = .ok (.dup, 1) := by decide +kernel
theorem dX9_led_52 : decode cX9_led 52 = .ok (.ldc_w 324, 3) := by decide +kernel
theorem dX9_led_55 : decode cX9_led 55 = .ok (.invokespecial 326, 3) := by decide +kernel
theorem dX9_led_58 : decode cX9_led 58 = .ok (.athrow, 1) := by decide +kernel
theorem dX9_size_0 : decode cX9_size 0 = .ok (.iload_n 1, 1) := by decide +kernel
theorem dX9_size_1 : decode cX9_size 1 = .ok (.tableswitch 200 0 12 #[67, 78, 89, 97, 105, 116, 127, 138, 149, 160, 179, 187, 192], 67) := by decide +kernel
theorem dX9_size_68 : decode cX9_size 68 = .ok (.aload_n 0, 1) := by decide +kernel
theorem dX9_size_69 : decode cX9_size 69 = .ok (.getfield 10, 3) := by decide +kernel
theorem dX9_size_72 : decode cX9_size 72 = .ok (.getfield 37, 3) := by decide +kernel
theorem dX9_size_75 : decode cX9_size 75 = .ok (.getfield 184, 3) := by decide +kernel
theorem dX9_size_78 : decode cX9_size 78 = .ok (.ireturn, 1) := by decide +kernel
theorem dX9_size_79 : decode cX9_size 79 = .ok (.aload_n 0, 1) := by decide +kernel
theorem dX9_size_80 : decode cX9_size 80 = .ok (.getfield 10, 3) := by decide +kernel
theorem dX9_size_83 : decode cX9_size 83 = .ok (.getfield 37, 3) := by decide +kernel
theorem dX9_size_86 : decode cX9_size 86 = .ok (.getfield 329, 3) := by decide +kernel
theorem dX9_size_89 : decode cX9_size 89 = .ok (.ireturn, 1) := by decide +kernel
theorem dX9_size_90 : decode cX9_size 90 = .ok (.aload_n 0, 1) := by decide +kernel
theorem dX9_size_91 : decode cX9_size 91 = .ok (.getfield 10, 3) := by decide +kernel
theorem dX9_size_94 : decode cX9_size 94 = .ok (.getfield 100, 3) := by decide +kernel
theorem dX9_size_97 : decode cX9_size 97 = .ok (.ireturn, 1) := by decide +kernel
theorem dX9_size_98 : decode cX9_size 98 = .ok (.aload_n 0, 1) := by decide +kernel
theorem dX9_size_99 : decode cX9_size 99 = .ok (.getfield 10, 3) := by decide +kernel
theorem dX9_size_102 : decode cX9_size 102 = .ok (.getfield 332, 3) := by decide +kernel
theorem dX9_size_105 : decode cX9_size 105 = .ok (.ireturn, 1) := by decide +kernel
theorem dX9_size_106 : decode cX9_size 106 = .ok (.aload_n 0, 1) := by decide +kernel
theorem dX9_size_107 : decode cX9_size 107 = .ok (.getfield 10, 3) := by decide +kernel
theorem dX9_size_110 : decode cX9_size 110 = .ok (.getfield 37, 3) := by decide +kernel
theorem dX9_size_113 : decode cX9_size 113 = .ok (.getfield 144, 3) := by decide +kernel
theorem dX9_size_116 : decode cX9_size 116 = .ok (.ireturn, 1) := by decide +kernel
theorem dX9_size_117 : decode cX9_size 117 = .ok (.aload_n 0, 1) := by decide +kernel
theorem dX9_size_118 : decode cX9_size 118 = .ok (.getfield 10, 3) := by decide +kernel
theorem dX9_size_121 : decode cX9_size 121 = .ok (.getfield 170, 3) := by decide +kernel
theorem dX9_size_124 : decode cX9_size 124 = .ok (.getfield 231, 3) := by decide +kernel
theorem dX9_size_127 : decode cX9_size 127 = .ok (.ireturn, 1) := by decide +kernel
theorem dX9_size_128 : decode cX9_size 128 = .ok (.aload_n 0, 1) := by decide +kernel
theorem dX9_size_129 : decode cX9_size 129 = .ok (.getfield 10, 3) := by decide +kernel
theorem dX9_size_132 : decode cX9_size 132 = .ok (.getfield 37, 3) := by decide +kernel
theorem dX9_size_135 : decode cX9_size 135 = .ok (.getfield 335, 3) := by decide +kernel
theorem dX9_size_138 : decode cX9_size 138 = .ok (.ireturn, 1) := by decide +kernel
theorem dX9_size_139 : decode cX9_size 139 = .ok (.aload_n 0, 1) := by decide +kernel
theorem dX9_size_140 : decode cX9_size 140 = .ok (.getfield 10, 3) := by decide +kernel
theorem dX9_size_143 : decode cX9_size 143 = .ok (.getfield 170, 3) := by decide +kernel
theorem dX9_size_146 : decode cX9_size 146 = .ok (.getfield 338, 3) := by decide +kernel
theorem dX9_size_149 : decode cX9_size 149 = .ok (.ireturn, 1) := by decide +kernel
theorem dX9_size_150 : decode cX9_size 150 = .ok (.aload_n 0, 1) := by decide +kernel
theorem dX9_size_151 : decode cX9_size 151 = .ok (.getfield 10, 3) := by decide +kernel
theorem dX9_size_154 : decode cX9_size 154 = .ok (.getfield 170, 3) := by decide +kernel
theorem dX9_size_157 : decode cX9_size 157 = .ok (.getfield 279, 3) := by decide +kernel
theorem dX9_size_160 : decode cX9_size 160 = .ok (.ireturn, 1) := by decide +kernel
theorem dX9_size_161 : decode cX9_size 161 = .ok (.aload_n 0, 1) := by decide +kernel
theorem dX9_size_162 : decode cX9_size 162 = .ok (.getfield 10, 3) := by decide +kernel
theorem dX9_size_165 : decode cX9_size 165 = .ok (.getfield 37, 3) := by decide +kernel
theorem dX9_size_168 : decode cX9_size 168 = .ok (.getfield 341, 3) := by decide +kernel
theorem dX9_size_171 : decode cX9_size 171 = .ok (.ifCond .eq 7, 3) := by decide +kernel
theorem dX9_size_174 : decode cX9_size 174 = .ok (.iconst 1, 1) := by decide +kernel
theorem dX9_size_175 : decode cX9_size 175 = .ok (.goto 4, 3) := by decide +kernel
theorem dX9_size_178 : decode cX9_size 178 = .ok (.iconst 0, 1) := by decide +kernel
theorem dX9_size_179 : decode cX9_size 179 = .ok (.ireturn, 1) := by decide +kernel
theorem dX9_size_180 : decode cX9_size 180 = .ok (.aload_n 0, 1) := by decide +kernel
theorem dX9_size_181 : decode cX9_size 181 = .ok (.getfield 51, 3) := by decide +kernel
theorem dX9_size_184 : decode cX9_size 184 = .ok (.getfield 344, 3) := by decide +kernel
theorem dX9_size_187 : decode cX9_size 187 = .ok (.ireturn, 1) := by decide +kernel
theorem dX9_size_188 : decode cX9_size 188 = .ok (.aload_n 0, 1) := by decide +kernel
theorem dX9_size_189 : decode cX9_size 189 = .ok (.getfield 94, 3) := by decide +kernel
theorem dX9_size_192 : decode cX9_size 192 = .ok (.ireturn, 1) := by decide +kernel
theorem dX9_size_193 : decode cX9_size 193 = .ok (.aload_n 0, 1) := by decide +kernel
theorem dX9_size_194 : decode cX9_size 194 = .ok (.getfield 22, 3) := by decide +kernel
theorem dX9_size_197 : decode cX9_size 197 = .ok (.getfield 62, 3) := by decide +kernel
theorem dX9_size_200 : decode cX9_size 200 = .ok (.ireturn, 1) := by decide +kernel
theorem dX9_size_201 : decode cX9_size 201 = .ok (.iconst (-1), 1) := by decide +kernel
theorem dX9_size_202 : decode cX9_size 202 = .ok (.ireturn, 1) := by decide +kernel
theorem dX9_trouble_0 : decode cX9_trouble 0 = .ok (.aload_n 0, 1) := by decide +kernel
theorem dX9_trouble_1 : decode cX9_trouble 1 = .ok (.getfield 106, 3) := by decide +kernel
theorem dX9_trouble_4 : decode cX9_trouble 4 = .ok (.ireturn, 1) := by decide +kernel
theorem dX9_refuse_0 : decode cX9_refuse 0 = .ok (.aload_n 0, 1) := by decide +kernel
theorem dX9_refuse_1 : decode cX9_refuse 1 = .ok (.iload_n 1, 1) := by decide +kernel
theorem dX9_refuse_2 : decode cX9_refuse 2 = .ok (.putfield 106, 3) := by decide +kernel
theorem dX9_refuse_5 : decode cX9_refuse 5 = .ok (.iconst (-1), 1) := by decide +kernel
theorem dX9_refuse_6 : decode cX9_refuse 6 = .ok (.ireturn, 1) := by decide +kernel
theorem dX9_answer_0 : decode cX9_answer 0 = .ok (.aload_n 0, 1) := by decide +kernel
theorem dX9_answer_1 : decode cX9_answer 1 = .ok (.iconst 0, 1) := by decide +kernel
theorem dX9_answer_2 : decode cX9_answer 2 = .ok (.putfield 106, 3) := by decide +kernel
theorem dX9_answer_5 : decode cX9_answer 5 = .ok (.iload_n 1, 1) := by decide +kernel
theorem dX9_answer_6 : decode cX9_answer 6 = .ok (.ireturn, 1) := by decide +kernel
theorem dX9_isWorld_0 : decode cX9_isWorld 0 = .ok (.aload_n 0, 1) := by decide +kernel
theorem dX9_isWorld_1 : decode cX9_isWorld 1 = .ok (.getfield 90, 3) := by decide +kernel
theorem dX9_isWorld_4 : decode cX9_isWorld 4 = .ok (.ifCond .eq 33, 3) := by decide +kernel
theorem dX9_isWorld_7 : decode cX9_isWorld 7 = .ok (.iload_n 1, 1) := by decide +kernel
theorem dX9_isWorld_8 : decode cX9_isWorld 8 = .ok (.ifCond .lt 29, 3) := by decide +kernel
theorem dX9_isWorld_11 : decode cX9_isWorld 11 = .ok (.iload_n 1, 1) := by decide +kernel
theorem dX9_isWorld_12 : decode cX9_isWorld 12 = .ok (.iconst 1, 1) := by decide +kernel
theorem dX9_isWorld_13 : decode cX9_isWorld 13 = .ok (.aload_n 0, 1) := by decide +kernel
theorem dX9_isWorld_14 : decode cX9_isWorld 14 = .ok (.getfield 10, 3) := by decide +kernel
theorem dX9_isWorld_17 : decode cX9_isWorld 17 = .ok (.getfield 37, 3) := by decide +kernel
theorem dX9_isWorld_20 : decode cX9_isWorld 20 = .ok (.getfield 184, 3) := by decide +kernel
theorem dX9_isWorld_23 : decode cX9_isWorld 23 = .ok (.ishl, 1) := by decide +kernel
theorem dX9_isWorld_24 : decode cX9_isWorld 24 = .ok (.if_icmp .ge 13, 3) := by decide +kernel
theorem dX9_isWorld_27 : decode cX9_isWorld 27 = .ok (.iload_n 1, 1) := by decide +kernel
theorem dX9_isWorld_28 : decode cX9_isWorld 28 = .ok (.bipush 64, 2) := by decide +kernel
theorem dX9_isWorld_30 : decode cX9_isWorld 30 = .ok (.if_icmp .ge 7, 3) := by decide +kernel
theorem dX9_isWorld_33 : decode cX9_isWorld 33 = .ok (.iconst 1, 1) := by decide +kernel
theorem dX9_isWorld_34 : decode cX9_isWorld 34 = .ok (.goto 4, 3) := by decide +kernel
theorem dX9_isWorld_37 : decode cX9_isWorld 37 = .ok (.iconst 0, 1) := by decide +kernel
theorem dX9_isWorld_38 : decode cX9_isWorld 38 = .ok (.ireturn, 1) := by decide +kernel
theorem dX9_isHouse_0 : decode cX9_isHouse 0 = .ok (.iload_n 1, 1) := by decide +kernel
theorem dX9_isHouse_1 : decode cX9_isHouse 1 = .ok (.ifCond .lt 24, 3) := by decide +kernel
theorem dX9_isHouse_4 : decode cX9_isHouse 4 = .ok (.iload_n 1, 1) := by decide +kernel
theorem dX9_isHouse_5 : decode cX9_isHouse 5 = .ok (.aload_n 0, 1) := by decide +kernel
theorem dX9_isHouse_6 : decode cX9_isHouse 6 = .ok (.getfield 10, 3) := by decide +kernel
theorem dX9_isHouse_9 : decode cX9_isHouse 9 = .ok (.getfield 100, 3) := by decide +kernel
theorem dX9_isHouse_12 : decode cX9_isHouse 12 = .ok (.if_icmp .ge 13, 3) := by decide +kernel
theorem dX9_isHouse_15 : decode cX9_isHouse 15 = .ok (.iload_n 1, 1) := by decide +kernel
theorem dX9_isHouse_16 : decode cX9_isHouse 16 = .ok (.bipush 6, 2) := by decide +kernel
theorem dX9_isHouse_18 : decode cX9_isHouse 18 = .ok (.if_icmp .ge 7, 3) := by decide +kernel
theorem dX9_isHouse_21 : decode cX9_isHouse 21 = .ok (.iconst 1, 1) := by decide +kernel
theorem dX9_isHouse_22 : decode cX9_isHouse 22 = .ok (.goto 4, 3) := by decide +kernel
theorem dX9_isHouse_25 : decode cX9_isHouse 25 = .ok (.iconst 0, 1) := by decide +kernel
theorem dX9_isHouse_26 : decode cX9_isHouse 26 = .ok (.ireturn, 1) := by decide +kernel
theorem dX9_isQuestion_0 : decode cX9_isQuestion 0 = .ok (.iload_n 1, 1) := by decide +kernel
theorem dX9_isQuestion_1 : decode cX9_isQuestion 1 = .ok (.ifCond .lt 27, 3) := by decide +kernel
theorem dX9_isQuestion_4 : decode cX9_isQuestion 4 = .ok (.iload_n 1, 1) := by decide +kernel
theorem dX9_isQuestion_5 : decode cX9_isQuestion 5 = .ok (.aload_n 0, 1) := by decide +kernel
theorem dX9_isQuestion_6 : decode cX9_isQuestion 6 = .ok (.getfield 10, 3) := by decide +kernel
theorem dX9_isQuestion_9 : decode cX9_isQuestion 9 = .ok (.getfield 37, 3) := by decide +kernel
theorem dX9_isQuestion_12 : decode cX9_isQuestion 12 = .ok (.getfield 144, 3) := by decide +kernel
theorem dX9_isQuestion_15 : decode cX9_isQuestion 15 = .ok (.if_icmp .ge 13, 3) := by decide +kernel
theorem dX9_isQuestion_18 : decode cX9_isQuestion 18 = .ok (.iload_n 1, 1) := by decide +kernel
theorem dX9_isQuestion_19 : decode cX9_isQuestion 19 = .ok (.bipush 8, 2) := by decide +kernel
theorem dX9_isQuestion_21 : decode cX9_isQuestion 21 = .ok (.if_icmp .ge 7, 3) := by decide +kernel
theorem dX9_isQuestion_24 : decode cX9_isQuestion 24 = .ok (.iconst 1, 1) := by decide +kernel
theorem dX9_isQuestion_25 : decode cX9_isQuestion 25 = .ok (.goto 4, 3) := by decide +kernel
theorem dX9_isQuestion_28 : decode cX9_isQuestion 28 = .ok (.iconst 0, 1) := by decide +kernel
theorem dX9_isQuestion_29 : decode cX9_isQuestion 29 = .ok (.ireturn, 1) := by decide +kernel
theorem dX9_isAnswer_0 : decode cX9_isAnswer 0 = .ok (.iload_n 1, 1) := by decide +kernel
theorem dX9_isAnswer_1 : decode cX9_isAnswer 1 = .ok (.ifCond .lt 27, 3) := by decide +kernel
theorem dX9_isAnswer_4 : decode cX9_isAnswer 4 = .ok (.iload_n 1, 1) := by decide +kernel
theorem dX9_isAnswer_5 : decode cX9_isAnswer 5 = .ok (.aload_n 0, 1) := by decide +kernel
theorem dX9_isAnswer_6 : decode cX9_isAnswer 6 = .ok (.getfield 10, 3) := by decide +kernel
theorem dX9_isAnswer_9 : decode cX9_isAnswer 9 = .ok (.getfield 170, 3) := by decide +kernel
theorem dX9_isAnswer_12 : decode cX9_isAnswer 12 = .ok (.getfield 231, 3) := by decide +kernel
theorem dX9_isAnswer_15 : decode cX9_isAnswer 15 = .ok (.if_icmp .ge 13, 3) := by decide +kernel
theorem dX9_isAnswer_18 : decode cX9_isAnswer 18 = .ok (.iload_n 1, 1) := by decide +kernel
theorem dX9_isAnswer_19 : decode cX9_isAnswer 19 = .ok (.bipush 20, 2) := by decide +kernel
theorem dX9_isAnswer_21 : decode cX9_isAnswer 21 = .ok (.if_icmp .ge 7, 3) := by decide +kernel
theorem dX9_isAnswer_24 : decode cX9_isAnswer 24 = .ok (.iconst 1, 1) := by decide +kernel
theorem dX9_isAnswer_25 : decode cX9_isAnswer 25 = .ok (.goto 4, 3) := by decide +kernel
theorem dX9_isAnswer_28 : decode cX9_isAnswer 28 = .ok (.iconst 0, 1) := by decide +kernel
theorem dX9_isAnswer_29 : decode cX9_isAnswer 29 = .ok (.ireturn, 1) := by decide +kernel
theorem dX9_isStone_0 : decode cX9_isStone 0 = .ok (.iload_n 1, 1) := by decide +kernel
theorem dX9_isStone_1 : decode cX9_isStone 1 = .ok (.ifCond .lt 21, 3) := by decide +kernel
theorem dX9_isStone_4 : decode cX9_isStone 4 = .ok (.iload_n 1, 1) := by decide +kernel
theorem dX9_isStone_5 : decode cX9_isStone 5 = .ok (.aload_n 0, 1) := by decide +kernel
theorem dX9_isStone_6 : decode cX9_isStone 6 = .ok (.getfield 10, 3) := by decide +kernel
theorem dX9_isStone_9 : decode cX9_isStone 9 = .ok (.getfield 37, 3) := by decide +kernel
theorem dX9_isStone_12 : decode cX9_isStone 12 = .ok (.getfield 335, 3) := by decide +kernel
theorem dX9_isStone_15 : decode cX9_isStone 15 = .ok (.if_icmp .ge 7, 3) := by decide +kernel
theorem dX9_isStone_18 : decode cX9_isStone 18 = .ok (.iconst 1, 1) := by decide +kernel
theorem dX9_isStone_19 : decode cX9_isStone 19 = .ok (.goto 4, 3) := by decide +kernel
theorem dX9_isStone_22 : decode cX9_isStone 22 = .ok (.iconst 0, 1) := by decide +kernel
theorem dX9_isStone_23 : decode cX9_isStone 23 = .ok (.ireturn, 1) := by decide +kernel
theorem dX9_gainOfWedding_0 : decode cX9_gainOfWedding 0 = .ok (.aload_n 0, 1) := by decide +kernel
theorem dX9_gainOfWedding_1 : decode cX9_gainOfWedding 1 = .ok (.getfield 10, 3) := by decide +kernel
theorem dX9_gainOfWedding_4 : decode cX9_gainOfWedding 4 = .ok (.getfield 170, 3) := by decide +kernel
theorem dX9_gainOfWedding_7 : decode cX9_gainOfWedding 7 = .ok (.iload_n 1, 1) := by decide +kernel
theorem dX9_gainOfWedding_8 : decode cX9_gainOfWedding 8 = .ok (.invokevirtual 174, 3) := by decide +kernel
theorem dX9_gainOfWedding_11 : decode cX9_gainOfWedding 11 = .ok (.istore_n 3, 1) := by decide +kernel
theorem dX9_gainOfWedding_12 : decode cX9_gainOfWedding 12 = .ok (.iload_n 3, 1) := by decide +kernel
theorem dX9_gainOfWedding_13 : decode cX9_gainOfWedding 13 = .ok (.i2l, 1) := by decide +kernel
theorem dX9_gainOfWedding_14 : decode cX9_gainOfWedding 14 = .ok (.iload_n 2, 1) := by decide +kernel
theorem dX9_gainOfWedding_15 : decode cX9_gainOfWedding 15 = .ok (.invokestatic 119, 3) := by decide +kernel
theorem dX9_gainOfWedding_18 : decode cX9_gainOfWedding 18 = .ok (.iconst 1, 1) := by decide +kernel
theorem dX9_gainOfWedding_19 : decode cX9_gainOfWedding 19 = .ok (.if_icmp .ne 5, 3) := by decide +kernel
theorem dX9_gainOfWedding_22 : decode cX9_gainOfWedding 22 = .ok (.iconst (-1), 1) := by decide +kernel
theorem dX9_gainOfWedding_23 : decode cX9_gainOfWedding 23 = .ok (.ireturn, 1) := by decide +kernel
theorem dX9_gainOfWedding_24 : decode cX9_gainOfWedding 24 = .ok (.aload_n 0, 1) := by decide +kernel
theorem dX9_gainOfWedding_25 : decode cX9_gainOfWedding 25 = .ok (.getfield 10, 3) := by decide +kernel
theorem dX9_gainOfWedding_28 : decode cX9_gainOfWedding 28 = .ok (.getfield 37, 3) := by decide +kernel
theorem dX9_gainOfWedding_31 : decode cX9_gainOfWedding 31 = .ok (.astore 4, 2) := by decide +kernel
theorem dX9_gainOfWedding_33 : decode cX9_gainOfWedding 33 = .ok (.aload 4, 2) := by decide +kernel
theorem dX9_gainOfWedding_35 : decode cX9_gainOfWedding 35 = .ok (.aload_n 0, 1) := by decide +kernel
theorem dX9_gainOfWedding_36 : decode cX9_gainOfWedding 36 = .ok (.getfield 10, 3) := by decide +kernel
theorem dX9_gainOfWedding_39 : decode cX9_gainOfWedding 39 = .ok (.getfield 149, 3) := by decide +kernel
theorem dX9_gainOfWedding_42 : decode cX9_gainOfWedding 42 = .ok (.iload_n 3, 1) := by decide +kernel
theorem dX9_gainOfWedding_43 : decode cX9_gainOfWedding 43 = .ok (.aload_n 0, 1) := by decide +kernel
theorem dX9_gainOfWedding_44 : decode cX9_gainOfWedding 44 = .ok (.getfield 10, 3) := by decide +kernel
theorem dX9_gainOfWedding_47 : decode cX9_gainOfWedding 47 = .ok (.getfield 170, 3) := by decide +kernel
theorem dX9_gainOfWedding_50 : decode cX9_gainOfWedding 50 = .ok (.iload_n 2, 1) := by decide +kernel
theorem dX9_gainOfWedding_51 : decode cX9_gainOfWedding 51 = .ok (.invokevirtual 174, 3) := by decide +kernel
theorem dX9_gainOfWedding_54 : decode cX9_gainOfWedding 54 = .ok (.ior, 1) := by decide +kernel
theorem dX9_gainOfWedding_55 : decode cX9_gainOfWedding 55 = .ok (.invokevirtual 345, 3) := by decide +kernel
theorem dX9_gainOfWedding_58 : decode cX9_gainOfWedding 58 = .ok (.invokevirtual 195, 3) := by decide +kernel
theorem dX9_gainOfWedding_61 : decode cX9_gainOfWedding 61 = .ok (.istore 5, 2) := by decide +kernel
theorem dX9_gainOfWedding_63 : decode cX9_gainOfWedding 63 = .ok (.aload 4, 2) := by decide +kernel
theorem dX9_gainOfWedding_65 : decode cX9_gainOfWedding 65 = .ok (.aload_n 0, 1) := by decide +kernel
theorem dX9_gainOfWedding_66 : decode cX9_gainOfWedding 66 = .ok (.getfield 10, 3) := by decide +kernel
theorem dX9_gainOfWedding_69 : decode cX9_gainOfWedding 69 = .ok (.getfield 149, 3) := by decide +kernel
theorem dX9_gainOfWedding_72 : decode cX9_gainOfWedding 72 = .ok (.iload_n 1, 1) := by decide +kernel
theorem dX9_gainOfWedding_73 : decode cX9_gainOfWedding 73 = .ok (.invokevirtual 177, 3) := by decide +kernel
theorem dX9_gainOfWedding_76 : decode cX9_gainOfWedding 76 = .ok (.invokevirtual 195, 3) := by decide +kernel
theorem dX9_gainOfWedding_79 : decode cX9_gainOfWedding 79 = .ok (.aload 4, 2) := by decide +kernel
theorem dX9_gainOfWedding_81 : decode cX9_gainOfWedding 81 = .ok (.aload_n 0, 1) := by decide +kernel
theorem dX9_gainOfWedding_82 : decode cX9_gainOfWedding 82 = .ok (.getfield 10, 3) := by decide +kernel
theorem dX9_gainOfWedding_85 : decode cX9_gainOfWedding 85 = .ok (.getfield 149, 3) := by decide +kernel
theorem dX9_gainOfWedding_88 : decode cX9_gainOfWedding 88 = .ok (.iload_n 2, 1) := by decide +kernel
theorem dX9_gainOfWedding_89 : decode cX9_gainOfWedding 89 = .ok (.invokevirtual 177, 3) := by decide +kernel
theorem dX9_gainOfWedding_92 : decode cX9_gainOfWedding 92 = .ok (.invokevirtual 195, 3) := by decide +kernel
theorem dX9_gainOfWedding_95 : decode cX9_gainOfWedding 95 = .ok (.ior, 1) := by decide +kernel
theorem dX9_gainOfWedding_96 : decode cX9_gainOfWedding 96 = .ok (.istore 6, 2) := by decide +kernel
theorem dX9_gainOfWedding_98 : decode cX9_gainOfWedding 98 = .ok (.iload 5, 2) := by decide +kernel
theorem dX9_gainOfWedding_100 : decode cX9_gainOfWedding 100 = .ok (.iload 6, 2) := by decide +kernel
theorem dX9_gainOfWedding_102 : decode cX9_gainOfWedding 102 = .ok (.iconst (-1), 1) := by decide +kernel
theorem dX9_gainOfWedding_103 : decode cX9_gainOfWedding 103 = .ok (.ixor, 1) := by decide +kernel
theorem dX9_gainOfWedding_104 : decode cX9_gainOfWedding 104 = .ok (.iand, 1) := by decide +kernel
theorem dX9_gainOfWedding_105 : decode cX9_gainOfWedding 105 = .ok (.invokestatic 348, 3) := by decide +kernel
theorem dX9_gainOfWedding_108 : decode cX9_gainOfWedding 108 = .ok (.ireturn, 1) := by decide +kernel
theorem dX9_tell_0 : decode cX9_tell 0 = .ok (.aload_n 0, 1) := by decide +kernel
theorem dX9_tell_1 : decode cX9_tell 1 = .ok (.iload_n 1, 1) := by decide +kernel
theorem dX9_tell_2 : decode cX9_tell 2 = .ok (.invokevirtual 161, 3) := by decide +kernel
theorem dX9_tell_5 : decode cX9_tell 5 = .ok (.ifCond .eq 11, 3) := by decide +kernel
theorem dX9_tell_8 : decode cX9_tell 8 = .ok (.aload_n 0, 1) := by decide +kernel
theorem dX9_tell_9 : decode cX9_tell 9 = .ok (.iload_n 2, 1) := by decide +kernel
theorem dX9_tell_10 : decode cX9_tell 10 = .ok (.invokevirtual 133, 3) := by decide +kernel
theorem dX9_tell_13 : decode cX9_tell 13 = .ok (.ifCond .ne 9, 3) := by decide +kernel
theorem dX9_tell_16 : decode cX9_tell 16 = .ok (.aload_n 0, 1) := by decide +kernel
theorem dX9_tell_17 : decode cX9_tell 17 = .ok (.iconst 1, 1) := by decide +kernel
theorem dX9_tell_18 : decode cX9_tell 18 = .ok (.invokevirtual 70, 3) := by decide +kernel
theorem dX9_tell_21 : decode cX9_tell 21 = .ok (.ireturn, 1) := by decide +kernel
theorem dX9_tell_22 : decode cX9_tell 22 = .ok (.aload_n 0, 1) := by decide +kernel
theorem dX9_tell_23 : decode cX9_tell 23 = .ok (.getfield 10, 3) := by decide +kernel
theorem dX9_tell_26 : decode cX9_tell 26 = .ok (.getfield 37, 3) := by decide +kernel
theorem dX9_tell_29 : decode cX9_tell 29 = .ok (.getfield 341, 3) := by decide +kernel
theorem dX9_tell_32 : decode cX9_tell 32 = .ok (.ifCond .ne 10, 3) := by decide +kernel
theorem dX9_tell_35 : decode cX9_tell 35 = .ok (.aload_n 0, 1) := by decide +kernel
theorem dX9_tell_36 : decode cX9_tell 36 = .ok (.bipush 6, 2) := by decide +kernel
theorem dX9_tell_38 : decode cX9_tell 38 = .ok (.invokevirtual 70, 3) := by decide +kernel
theorem dX9_tell_41 : decode cX9_tell 41 = .ok (.ireturn, 1) := by decide +kernel
theorem dX9_tell_42 : decode cX9_tell 42 = .ok (.aload_n 0, 1) := by decide +kernel
theorem dX9_tell_43 : decode cX9_tell 43 = .ok (.getfield 10, 3) := by decide +kernel
theorem dX9_tell_46 : decode cX9_tell 46 = .ok (.getfield 170, 3) := by decide +kernel
theorem dX9_tell_49 : decode cX9_tell 49 = .ok (.getfield 231, 3) := by decide +kernel
theorem dX9_tell_52 : decode cX9_tell 52 = .ok (.bipush 20, 2) := by decide +kernel
theorem dX9_tell_54 : decode cX9_tell 54 = .ok (.if_icmp .lt 9, 3) := by decide +kernel
theorem dX9_tell_57 : decode cX9_tell 57 = .ok (.aload_n 0, 1) := by decide +kernel
theorem dX9_tell_58 : decode cX9_tell 58 = .ok (.iconst 3, 1) := by decide +kernel
theorem dX9_tell_59 : decode cX9_tell 59 = .ok (.invokevirtual 70, 3) := by decide +kernel
theorem dX9_tell_62 : decode cX9_tell 62 = .ok (.ireturn, 1) := by decide +kernel
theorem dX9_tell_63 : decode cX9_tell 63 = .ok (.aload_n 0, 1) := by decide +kernel
theorem dX9_tell_64 : decode cX9_tell 64 = .ok (.getfield 10, 3) := by decide +kernel
theorem dX9_tell_67 : decode cX9_tell 67 = .ok (.getfield 37, 3) := by decide +kernel
theorem dX9_tell_70 : decode cX9_tell 70 = .ok (.iload_n 2, 1) := by decide +kernel
theorem dX9_tell_71 : decode cX9_tell 71 = .ok (.invokevirtual 136, 3) := by decide +kernel
theorem dX9_tell_74 : decode cX9_tell 74 = .ok (.aload_n 0, 1) := by decide +kernel
theorem dX9_tell_75 : decode cX9_tell 75 = .ok (.getfield 10, 3) := by decide +kernel
theorem dX9_tell_78 : decode cX9_tell 78 = .ok (.getfield 37, 3) := by decide +kernel
theorem dX9_tell_81 : decode cX9_tell 81 = .ok (.getfield 352, 3) := by decide +kernel
theorem dX9_tell_84 : decode cX9_tell 84 = .ok (.invokestatic 119, 3) := by decide +kernel
theorem dX9_tell_87 : decode cX9_tell 87 = .ok (.iconst 1, 1) := by decide +kernel
theorem dX9_tell_88 : decode cX9_tell 88 = .ok (.if_icmp .ne 7, 3) := by decide +kernel
theorem dX9_tell_91 : decode cX9_tell 91 = .ok (.iconst 1, 1) := by decide +kernel
theorem dX9_tell_92 : decode cX9_tell 92 = .ok (.goto 4, 3) := by decide +kernel
theorem dX9_tell_95 : decode cX9_tell 95 = .ok (.iconst 0, 1) := by decide +kernel
theorem dX9_tell_96 : decode cX9_tell 96 = .ok (.istore 4, 2) := by decide +kernel
theorem dX9_tell_98 : decode cX9_tell 98 = .ok (.iload 4, 2) := by decide +kernel
theorem dX9_tell_100 : decode cX9_tell 100 = .ok (.iload_n 3, 1) := by decide +kernel
theorem dX9_tell_101 : decode cX9_tell 101 = .ok (.if_icmp .eq 7, 3) := by decide +kernel
theorem dX9_tell_104 : decode cX9_tell 104 = .ok (.iconst 1, 1) := by decide +kernel
theorem dX9_tell_105 : decode cX9_tell 105 = .ok (.goto 4, 3) := by decide +kernel
theorem dX9_tell_108 : decode cX9_tell 108 = .ok (.iconst 0, 1) := by decide +kernel
theorem dX9_tell_109 : decode cX9_tell 109 = .ok (.istore 5, 2) := by decide +kernel
theorem dX9_tell_111 : decode cX9_tell 111 = .ok (.aload_n 0, 1) := by decide +kernel
theorem dX9_tell_112 : decode cX9_tell 112 = .ok (.getfield 10, 3) := by decide +kernel
theorem dX9_tell_115 : decode cX9_tell 115 = .ok (.getfield 170, 3) := by decide +kernel
theorem dX9_tell_118 : decode cX9_tell 118 = .ok (.iload_n 1, 1) := by decide +kernel
theorem dX9_tell_119 : decode cX9_tell 119 = .ok (.iload_n 2, 1) := by decide +kernel
theorem dX9_tell_120 : decode cX9_tell 120 = .ok (.iload 5, 2) := by decide +kernel
theorem dX9_tell_122 : decode cX9_tell 122 = .ok (.invokevirtual 355, 3) := by decide +kernel
theorem dX9_tell_125 : decode cX9_tell 125 = .ok (.aload_n 0, 1) := by decide +kernel
theorem dX9_tell_126 : decode cX9_tell 126 = .ok (.getfield 10, 3) := by decide +kernel
theorem dX9_tell_129 : decode cX9_tell 129 = .ok (.getfield 149, 3) := by decide +kernel
theorem dX9_tell_132 : decode cX9_tell 132 = .ok (.aload_n 0, 1) := by decide +kernel
theorem dX9_tell_133 : decode cX9_tell 133 = .ok (.getfield 10, 3) := by decide +kernel
theorem dX9_tell_136 : decode cX9_tell 136 = .ok (.getfield 100, 3) := by decide +kernel
theorem dX9_tell_139 : decode cX9_tell 139 = .ok (.invokevirtual 315, 3) := by decide +kernel
theorem dX9_tell_142 : decode cX9_tell 142 = .ok (.aload_n 0, 1) := by decide +kernel
theorem dX9_tell_143 : decode cX9_tell 143 = .ok (.getfield 51, 3) := by decide +kernel
theorem dX9_tell_146 : decode cX9_tell 146 = .ok (.iconst 0, 1) := by decide +kernel
theorem dX9_tell_147 : decode cX9_tell 147 = .ok (.iload_n 1, 1) := by decide +kernel
theorem dX9_tell_148 : decode cX9_tell 148 = .ok (.iload_n 2, 1) := by decide +kernel
theorem dX9_tell_149 : decode cX9_tell 149 = .ok (.invokevirtual 307, 3) := by decide +kernel
theorem dX9_tell_152 : decode cX9_tell 152 = .ok (.aload_n 0, 1) := by decide +kernel
theorem dX9_tell_153 : decode cX9_tell 153 = .ok (.iload 5, 2) := by decide +kernel
theorem dX9_tell_155 : decode cX9_tell 155 = .ok (.ifCond .eq 7, 3) := by decide +kernel
theorem dX9_tell_158 : decode cX9_tell 158 = .ok (.iconst 1, 1) := by decide +kernel
theorem dX9_tell_159 : decode cX9_tell 159 = .ok (.goto 4, 3) := by decide +kernel
theorem dX9_tell_162 : decode cX9_tell 162 = .ok (.iconst 0, 1) := by decide +kernel
theorem dX9_tell_163 : decode cX9_tell 163 = .ok (.invokevirtual 103, 3) := by decide +kernel
theorem dX9_tell_166 : decode cX9_tell 166 = .ok (.ireturn, 1) := by decide +kernel
theorem dX9_chanceIn_0 : decode cX9_chanceIn 0 = .ok (.aload_n 0, 1) := by decide +kernel
theorem dX9_chanceIn_1 : decode cX9_chanceIn 1 = .ok (.getfield 10, 3) := by decide +kernel
theorem dX9_chanceIn_4 : decode cX9_chanceIn 4 = .ok (.getfield 37, 3) := by decide +kernel
theorem dX9_chanceIn_7 : decode cX9_chanceIn 7 = .ok (.astore 5, 2) := by decide +kernel
theorem dX9_chanceIn_9 : decode cX9_chanceIn 9 = .ok (.aload_n 0, 1) := by decide +kernel
theorem dX9_chanceIn_10 : decode cX9_chanceIn 10 = .ok (.aload 5, 2) := by decide +kernel
theorem dX9_chanceIn_12 : decode cX9_chanceIn 12 = .ok (.lload_n 1, 1) := by decide +kernel
theorem dX9_chanceIn_13 : decode cX9_chanceIn 13 = .ok (.aload 5, 2) := by decide +kernel
theorem dX9_chanceIn_15 : decode cX9_chanceIn 15 = .ok (.iload_n 3, 1) := by decide +kernel
theorem dX9_chanceIn_16 : decode cX9_chanceIn 16 = .ok (.invokevirtual 136, 3) := by decide +kernel
theorem dX9_chanceIn_19 : decode cX9_chanceIn 19 = .ok (.land, 1) := by decide +kernel
theorem dX9_chanceIn_20 : decode cX9_chanceIn 20 = .ok (.invokevirtual 253, 3) := by decide +kernel
theorem dX9_chanceIn_23 : decode cX9_chanceIn 23 = .ok (.i2l, 1) := by decide +kernel
theorem dX9_chanceIn_24 : decode cX9_chanceIn 24 = .ok (.aload 5, 2) := by decide +kernel
theorem dX9_chanceIn_26 : decode cX9_chanceIn 26 = .ok (.lload_n 1, 1) := by decide +kernel
theorem dX9_chanceIn_27 : decode cX9_chanceIn 27 = .ok (.invokevirtual 253, 3) := by decide +kernel
theorem dX9_chanceIn_30 : decode cX9_chanceIn 30 = .ok (.i2l, 1) := by decide +kernel
theorem dX9_chanceIn_31 : decode cX9_chanceIn 31 = .ok (.iload 4, 2) := by decide +kernel
theorem dX9_chanceIn_33 : decode cX9_chanceIn 33 = .ok (.invokevirtual 256, 3) := by decide +kernel
theorem dX9_chanceIn_36 : decode cX9_chanceIn 36 = .ok (.lreturn, 1) := by decide +kernel
theorem dX9_inLowestTerms_0 : decode cX9_inLowestTerms 0 = .ok (.aload_n 0, 1) := by decide +kernel
theorem dX9_inLowestTerms_1 : decode cX9_inLowestTerms 1 = .ok (.iconst 0, 1) := by decide +kernel
theorem dX9_inLowestTerms_2 : decode cX9_inLowestTerms 2 = .ok (.putfield 106, 3) := by decide +kernel
theorem dX9_inLowestTerms_5 : decode cX9_inLowestTerms 5 = .ok (.lload_n 1, 1) := by decide +kernel
theorem dX9_inLowestTerms_6 : decode cX9_inLowestTerms 6 = .ok (.lload_n 3, 1) := by decide +kernel
theorem dX9_inLowestTerms_7 : decode cX9_inLowestTerms 7 = .ok (.invokestatic 359, 3) := by decide +kernel
theorem dX9_inLowestTerms_10 : decode cX9_inLowestTerms 10 = .ok (.lstore 6, 2) := by decide +kernel
theorem dX9_inLowestTerms_12 : decode cX9_inLowestTerms 12 = .ok (.lload 6, 2) := by decide +kernel
theorem dX9_inLowestTerms_14 : decode cX9_inLowestTerms 14 = .ok (.lconst 0, 1) := by decide +kernel
theorem dX9_inLowestTerms_15 : decode cX9_inLowestTerms 15 = .ok (.lcmp, 1) := by decide +kernel
theorem dX9_inLowestTerms_16 : decode cX9_inLowestTerms 16 = .ok (.ifCond .ne 14, 3) := by decide +kernel
theorem dX9_inLowestTerms_19 : decode cX9_inLowestTerms 19 = .ok (.iload 5, 2) := by decide +kernel
theorem dX9_inLowestTerms_21 : decode cX9_inLowestTerms 21 = .ok (.ifCond .eq 7, 3) := by decide +kernel
theorem dX9_inLowestTerms_24 : decode cX9_inLowestTerms 24 = .ok (.lconst 1, 1) := by decide +kernel
theorem dX9_inLowestTerms_25 : decode cX9_inLowestTerms 25 = .ok (.goto 4, 3) := by decide +kernel
theorem dX9_inLowestTerms_28 : decode cX9_inLowestTerms 28 = .ok (.lconst 0, 1) := by decide +kernel
theorem dX9_inLowestTerms_29 : decode cX9_inLowestTerms 29 = .ok (.lreturn, 1) := by decide +kernel
theorem dX9_inLowestTerms_30 : decode cX9_inLowestTerms 30 = .ok (.iload 5, 2) := by decide +kernel
theorem dX9_inLowestTerms_32 : decode cX9_inLowestTerms 32 = .ok (.ifCond .eq 7, 3) := by decide +kernel
theorem dX9_inLowestTerms_35 : decode cX9_inLowestTerms 35 = .ok (.lload_n 3, 1) := by decide +kernel
theorem dX9_inLowestTerms_36 : decode cX9_inLowestTerms 36 = .ok (.goto 4, 3) := by decide +kernel
theorem dX9_inLowestTerms_39 : decode cX9_inLowestTerms 39 = .ok (.lload_n 1, 1) := by decide +kernel
theorem dX9_inLowestTerms_40 : decode cX9_inLowestTerms 40 = .ok (.lload 6, 2) := by decide +kernel
theorem dX9_inLowestTerms_42 : decode cX9_inLowestTerms 42 = .ok (.ldiv, 1) := by decide +kernel
theorem dX9_inLowestTerms_43 : decode cX9_inLowestTerms 43 = .ok (.lreturn, 1) := by decide +kernel
theorem dX9_commonDivisor_0 : decode cX9_commonDivisor 0 = .ok (.iconst 0, 1) := by decide +kernel
theorem dX9_commonDivisor_1 : decode cX9_commonDivisor 1 = .ok (.istore 4, 2) := by decide +kernel
theorem dX9_commonDivisor_3 : decode cX9_commonDivisor 3 = .ok (.iload 4, 2) := by decide +kernel
theorem dX9_commonDivisor_5 : decode cX9_commonDivisor 5 = .ok (.sipush 200, 3) := by decide +kernel
theorem dX9_commonDivisor_8 : decode cX9_commonDivisor 8 = .ok (.if_icmp .ge 25, 3) := by decide +kernel
theorem dX9_commonDivisor_11 : decode cX9_commonDivisor 11 = .ok (.lload_n 2, 1) := by decide +kernel
theorem dX9_commonDivisor_12 : decode cX9_commonDivisor 12 = .ok (.lconst 0, 1) := by decide +kernel
theorem dX9_commonDivisor_13 : decode cX9_commonDivisor 13 = .ok (.lcmp, 1) := by decide +kernel
theorem dX9_commonDivisor_14 : decode cX9_commonDivisor 14 = .ok (.ifCond .eq 19, 3) := by decide +kernel
theorem dX9_commonDivisor_17 : decode cX9_commonDivisor 17 = .ok (.lload_n 0, 1) := by decide +kernel
theorem dX9_commonDivisor_18 : decode cX9_commonDivisor 18 = .ok (.lload_n 2, 1) := by decide +kernel
theorem dX9_commonDivisor_19 : decode cX9_commonDivisor 19 = .ok (.lrem, 1) := by decide +kernel
theorem dX9_commonDivisor_20 : decode cX9_commonDivisor 20 = .ok (.lstore 5, 2) := by decide +kernel
theorem dX9_commonDivisor_22 : decode cX9_commonDivisor 22 = .ok (.lload_n 2, 1) := by decide +kernel
theorem dX9_commonDivisor_23 : decode cX9_commonDivisor 23 = .ok (.lstore_n 0, 1) := by decide +kernel
theorem dX9_commonDivisor_24 : decode cX9_commonDivisor 24 = .ok (.lload 5, 2) := by decide +kernel
theorem dX9_commonDivisor_26 : decode cX9_commonDivisor 26 = .ok (.lstore_n 2, 1) := by decide +kernel
theorem dX9_commonDivisor_27 : decode cX9_commonDivisor 27 = .ok (.iinc 4 1, 3) := by decide +kernel
theorem dX9_commonDivisor_30 : decode cX9_commonDivisor 30 = .ok (.goto (-27), 3) := by decide +kernel
theorem dX9_commonDivisor_33 : decode cX9_commonDivisor 33 = .ok (.lload_n 0, 1) := by decide +kernel
theorem dX9_commonDivisor_34 : decode cX9_commonDivisor 34 = .ok (.lreturn, 1) := by decide +kernel
theorem dX9_bitOf_0 : decode cX9_bitOf 0 = .ok (.lload_n 0, 1) := by decide +kernel
theorem dX9_bitOf_1 : decode cX9_bitOf 1 = .ok (.iload_n 2, 1) := by decide +kernel
theorem dX9_bitOf_2 : decode cX9_bitOf 2 = .ok (.lushr, 1) := by decide +kernel
theorem dX9_bitOf_3 : decode cX9_bitOf 3 = .ok (.lconst 1, 1) := by decide +kernel
theorem dX9_bitOf_4 : decode cX9_bitOf 4 = .ok (.land, 1) := by decide +kernel
theorem dX9_bitOf_5 : decode cX9_bitOf 5 = .ok (.l2i, 1) := by decide +kernel
theorem dX9_bitOf_6 : decode cX9_bitOf 6 = .ok (.ireturn, 1) := by decide +kernel
theorem dX9_verdict_0 : decode cX9_verdict 0 = .ok (.lload_n 0, 1) := by decide +kernel
theorem dX9_verdict_1 : decode cX9_verdict 1 = .ok (.lconst 0, 1) := by decide +kernel
theorem dX9_verdict_2 : decode cX9_verdict 2 = .ok (.lcmp, 1) := by decide +kernel
theorem dX9_verdict_3 : decode cX9_verdict 3 = .ok (.ifCond .ne 6, 3) := by decide +kernel
theorem dX9_verdict_6 : decode cX9_verdict 6 = .ok (.bipush (-2), 2) := by decide +kernel
theorem dX9_verdict_8 : decode cX9_verdict 8 = .ok (.ireturn, 1) := by decide +kernel
theorem dX9_verdict_9 : decode cX9_verdict 9 = .ok (.lload_n 0, 1) := by decide +kernel
theorem dX9_verdict_10 : decode cX9_verdict 10 = .ok (.lload_n 2, 1) := by decide +kernel
theorem dX9_verdict_11 : decode cX9_verdict 11 = .ok (.ldc2_w 147, 3) := by decide +kernel
theorem dX9_verdict_14 : decode cX9_verdict 14 = .ok (.lxor, 1) := by decide +kernel
theorem dX9_verdict_15 : decode cX9_verdict 15 = .ok (.land, 1) := by decide +kernel
theorem dX9_verdict_16 : decode cX9_verdict 16 = .ok (.lconst 0, 1) := by decide +kernel
theorem dX9_verdict_17 : decode cX9_verdict 17 = .ok (.lcmp, 1) := by decide +kernel
theorem dX9_verdict_18 : decode cX9_verdict 18 = .ok (.ifCond .ne 5, 3) := by decide +kernel
theorem dX9_verdict_21 : decode cX9_verdict 21 = .ok (.iconst 1, 1) := by decide +kernel
theorem dX9_verdict_22 : decode cX9_verdict 22 = .ok (.ireturn, 1) := by decide +kernel
theorem dX9_verdict_23 : decode cX9_verdict 23 = .ok (.lload_n 0, 1) := by decide +kernel
theorem dX9_verdict_24 : decode cX9_verdict 24 = .ok (.lload_n 2, 1) := by decide +kernel
theorem dX9_verdict_25 : decode cX9_verdict 25 = .ok (.land, 1) := by decide +kernel
theorem dX9_verdict_26 : decode cX9_verdict 26 = .ok (.lconst 0, 1) := by decide +kernel
theorem dX9_verdict_27 : decode cX9_verdict 27 = .ok (.lcmp, 1) := by decide +kernel
theorem dX9_verdict_28 : decode cX9_verdict 28 = .ok (.ifCond .ne 7, 3) := by decide +kernel
theorem dX9_verdict_31 : decode cX9_verdict 31 = .ok (.iconst 0, 1) := by decide +kernel
theorem dX9_verdict_32 : decode cX9_verdict 32 = .ok (.goto 5, 3) := by decide +kernel
theorem dX9_verdict_35 : decode cX9_verdict 35 = .ok (.bipush (-2), 2) := by decide +kernel
theorem dX9_verdict_37 : decode cX9_verdict 37 = .ok (.ireturn, 1) := by decide +kernel
theorem dX10_init_0 : decode cX10_init 0 = .ok (.aload_n 0, 1) := by decide +kernel
theorem dX10_init_1 : decode cX10_init 1 = .ok (.invokespecial 1, 3) := by decide +kernel
theorem dX10_init_4 : decode cX10_init 4 = .ok (.aload_n 0, 1) := by decide +kernel
theorem dX10_init_5 : decode cX10_init 5 = .ok (.sipush 900, 3) := by decide +kernel
theorem dX10_init_8 : decode cX10_init 8 = .ok (.newarray .int, 2) := by decide +kernel
theorem dX10_init_10 : decode cX10_init 10 = .ok (.putfield 7, 3) := by decide +kernel
theorem dX10_init_13 : decode cX10_init 13 = .ok (.aload_n 0, 1) := by decide +kernel
theorem dX10_init_14 : decode cX10_init 14 = .ok (.iconst (-1), 1) := by decide +kernel
theorem dX10_init_15 : decode cX10_init 15 = .ok (.putfield 13, 3) := by decide +kernel
theorem dX10_init_18 : decode cX10_init 18 = .ok (.aload_n 0, 1) := by decide +kernel
theorem dX10_init_19 : decode cX10_init 19 = .ok (.bipush 8, 2) := by decide +kernel
theorem dX10_init_21 : decode cX10_init 21 = .ok (.newarray .int, 2) := by decide +kernel
theorem dX10_init_23 : decode cX10_init 23 = .ok (.putfield 17, 3) := by decide +kernel
theorem dX10_init_26 : decode cX10_init 26 = .ok (.aload_n 0, 1) := by decide +kernel
theorem dX10_init_27 : decode cX10_init 27 = .ok (.sipush 279, 3) := by decide +kernel
theorem dX10_init_30 : decode cX10_init 30 = .ok (.newarray .int, 2) := by decide +kernel
theorem dX10_init_32 : decode cX10_init 32 = .ok (.putfield 20, 3) := by decide +kernel
theorem dX10_init_35 : decode cX10_init 35 = .ok (.aload_n 0, 1) := by decide +kernel
theorem dX10_init_36 : decode cX10_init 36 = .ok (.sipush 279, 3) := by decide +kernel
theorem dX10_init_39 : decode cX10_init 39 = .ok (.newarray .int, 2) := by decide +kernel
theorem dX10_init_41 : decode cX10_init 41 = .ok (.putfield 23, 3) := by decide +kernel
theorem dX10_init_44 : decode cX10_init 44 = .ok (.aload_n 0, 1) := by decide +kernel
theorem dX10_init_45 : decode cX10_init 45 = .ok (.bipush 9, 2) := by decide +kernel
theorem dX10_init_47 : decode cX10_init 47 = .ok (.newarray .long, 2) := by decide +kernel
theorem dX10_init_49 : decode cX10_init 49 = .ok (.putfield 26, 3) := by decide +kernel
theorem dX10_init_52 : decode cX10_init 52 = .ok (.aload_n 0, 1) := by decide +kernel
theorem dX10_init_53 : decode cX10_init 53 = .ok (.bipush 9, 2) := by decide +kernel
theorem dX10_init_55 : decode cX10_init 55 = .ok (.newarray .long, 2) := by decide +kernel
theorem dX10_init_57 : decode cX10_init 57 = .ok (.putfield 30, 3) := by decide +kernel
theorem dX10_init_60 : decode cX10_init 60 = .ok (.aload_n 0, 1) := by decide +kernel
theorem dX10_init_61 : decode cX10_init 61 = .ok (.bipush 68, 2) := by decide +kernel
theorem dX10_init_63 : decode cX10_init 63 = .ok (.newarray .int, 2) := by decide +kernel
theorem dX10_init_65 : decode cX10_init 65 = .ok (.putfield 33, 3) := by decide +kernel
theorem dX10_init_68 : decode cX10_init 68 = .ok (.aload_n 0, 1) := by decide +kernel
theorem dX10_init_69 : decode cX10_init 69 = .ok (.sipush 816, 3) := by decide +kernel
theorem dX10_init_72 : decode cX10_init 72 = .ok (.newarray .int, 2) := by decide +kernel
theorem dX10_init_74 : decode cX10_init 74 = .ok (.putfield 36, 3) := by decide +kernel
theorem dX10_init_77 : decode cX10_init 77 = .ok (.aload_n 0, 1) := by decide +kernel
theorem dX10_init_78 : decode cX10_init 78 = .ok (.sipush 204, 3) := by decide +kernel
theorem dX10_init_81 : decode cX10_init 81 = .ok (.newarray .int, 2) := by decide +kernel
theorem dX10_init_83 : decode cX10_init 83 = .ok (.putfield 39, 3) := by decide +kernel
theorem dX10_init_86 : decode cX10_init 86 = .ok (.aload_n 0, 1) := by decide +kernel
theorem dX10_init_87 : decode cX10_init 87 = .ok (.sipush 6561, 3) := by decide +kernel
theorem dX10_init_90 : decode cX10_init 90 = .ok (.newarray .int, 2) := by decide +kernel
theorem dX10_init_92 : decode cX10_init 92 = .ok (.putfield 42, 3) := by decide +kernel
theorem dX10_init_95 : decode cX10_init 95 = .ok (.aload_n 0, 1) := by decide +kernel
theorem dX10_init_96 : decode cX10_init 96 = .ok (.sipush 6561, 3) := by decide +kernel
theorem dX10_init_99 : decode cX10_init 99 = .ok (.newarray .long, 2) := by decide +kernel
theorem dX10_init_101 : decode cX10_init 101 = .ok (.putfield 45, 3) := by decide +kernel
theorem dX10_init_104 : decode cX10_init 104 = .ok (.aload_n 0, 1) := by decide +kernel
theorem dX10_init_105 : decode cX10_init 105 = .ok (.bipush 6, 2) := by decide +kernel
theorem dX10_init_107 : decode cX10_init 107 = .ok (.newarray .int, 2) := by decide +kernel
theorem dX10_init_109 : decode cX10_init 109 = .ok (.putfield 48, 3) := by decide +kernel
theorem dX10_init_112 : decode cX10_init 112 = .ok (.return_, 1) := by decide +kernel
theorem dX10_thrown_0 : decode cX10_thrown 0 = .ok (.aload_n 0, 1) := by decide +kernel
theorem dX10_thrown_1 : decode cX10_thrown 1 = .ok (.getfield 51, 3) := by decide +kernel
theorem dX10_thrown_4 : decode cX10_thrown 4 = .ok (.ireturn, 1) := by decide +kernel
theorem dX10_good_0 : decode cX10_good 0 = .ok (.aload_n 0, 1) := by decide +kernel
theorem dX10_good_1 : decode cX10_good 1 = .ok (.iconst 0, 1) := by decide +kernel
theorem dX10_good_2 : decode cX10_good 2 = .ok (.putfield 51, 3) := by decide +kernel
theorem dX10_good_5 : decode cX10_good 5 = .ok (.aload_n 0, 1) := by decide +kernel
theorem dX10_good_6 : decode cX10_good 6 = .ok (.iconst 0, 1) := by decide +kernel
theorem dX10_good_7 : decode cX10_good 7 = .ok (.putfield 54, 3) := by decide +kernel
theorem dX10_good_10 : decode cX10_good 10 = .ok (.return_, 1) := by decide +kernel
theorem dX10_no_0 : decode cX10_no 0 = .ok (.aload_n 0, 1) := by decide +kernel
theorem dX10_no_1 : decode cX10_no 1 = .ok (.iload_n 1, 1) := by decide +kernel
theorem dX10_no_2 : decode cX10_no 2 = .ok (.putfield 54, 3) := by decide +kernel
theorem dX10_no_5 : decode cX10_no 5 = .ok (.iconst (-1), 1) := by decide +kernel
theorem dX10_no_6 : decode cX10_no 6 = .ok (.ireturn, 1) := by decide +kernel
theorem dX10_isNot_0 : decode cX10_isNot 0 = .ok (.aload_n 0, 1) := by decide +kernel
theorem dX10_isNot_1 : decode cX10_isNot 1 = .ok (.iload_n 1, 1) := by decide +kernel
theorem dX10_isNot_2 : decode cX10_isNot 2 = .ok (.putfield 54, 3) := by decide +kernel
theorem dX10_isNot_5 : decode cX10_isNot 5 = .ok (.iconst 0, 1) := by decide +kernel
theorem dX10_isNot_6 : decode cX10_isNot 6 = .ok (.ireturn, 1) := by decide +kernel
theorem dX10_in_0 : decode cX10_in 0 = .ok (.iload_n 0, 1) := by decide +kernel
theorem dX10_in_1 : decode cX10_in 1 = .ok (.iload_n 1, 1) := by decide +kernel
theorem dX10_in_2 : decode cX10_in 2 = .ok (.if_icmp .lt 12, 3) := by decide +kernel
theorem dX10_in_5 : decode cX10_in 5 = .ok (.iload_n 0, 1) := by decide +kernel
theorem dX10_in_6 : decode cX10_in 6 = .ok (.iload_n 2, 1) := by decide +kernel
theorem dX10_in_7 : decode cX10_in 7 = .ok (.if_icmp .gt 7, 3) := by decide +kernel
theorem dX10_in_10 : decode cX10_in 10 = .ok (.iconst 1, 1) := by decide +kernel
theorem dX10_in_11 : decode cX10_in 11 = .ok (.goto 4, 3) := by decide +kernel
theorem dX10_in_14 : decode cX10_in 14 = .ok (.iconst 0, 1) := by decide +kernel
theorem dX10_in_15 : decode cX10_in 15 = .ok (.ireturn, 1) := by decide +kernel
theorem dX10_hasBit_0 : decode cX10_hasBit 0 = .ok (.iload_n 0, 1) := by decide +kernel
theorem dX10_hasBit_1 : decode cX10_hasBit 1 = .ok (.iload_n 1, 1) := by decide +kernel
theorem dX10_hasBit_2 : decode cX10_hasBit 2 = .ok (.ishr, 1) := by decide +kernel
theorem dX10_hasBit_3 : decode cX10_hasBit 3 = .ok (.iconst 1, 1) := by decide +kernel
theorem dX10_hasBit_4 : decode cX10_hasBit 4 = .ok (.iand, 1) := by decide +kernel
theorem dX10_hasBit_5 : decode cX10_hasBit 5 = .ok (.iconst 1, 1) := by decide +kernel
theorem dX10_hasBit_6 : decode cX10_hasBit 6 = .ok (.if_icmp .ne 7, 3) := by decide +kernel
theorem dX10_hasBit_9 : decode cX10_hasBit 9 = .ok (.iconst 1, 1) := by decide +kernel
theorem dX10_hasBit_10 : decode cX10_hasBit 10 = .ok (.goto 4, 3) := by decide +kernel
theorem dX10_hasBit_13 : decode cX10_hasBit 13 = .ok (.iconst 0, 1) := by decide +kernel
theorem dX10_hasBit_14 : decode cX10_hasBit 14 = .ok (.ireturn, 1) := by decide +kernel
theorem dX10_ones_0 : decode cX10_ones 0 = .ok (.iconst 0, 1) := by decide +kernel
theorem dX10_ones_1 : decode cX10_ones 1 = .ok (.istore_n 2, 1) := by decide +kernel
theorem dX10_ones_2 : decode cX10_ones 2 = .ok (.lload_n 0, 1) := by decide +kernel
theorem dX10_ones_3 : decode cX10_ones 3 = .ok (.lstore_n 3, 1) := by decide +kernel
theorem dX10_ones_4 : decode cX10_ones 4 = .ok (.lload_n 3, 1) := by decide +kernel
theorem dX10_ones_5 : decode cX10_ones 5 = .ok (.lconst 0, 1) := by decide +kernel
theorem dX10_ones_6 : decode cX10_ones 6 = .ok (.lcmp, 1) := by decide +kernel
theorem dX10_ones_7 : decode cX10_ones 7 = .ok (.ifCond .eq 15, 3) := by decide +kernel
theorem dX10_ones_10 : decode cX10_ones 10 = .ok (.iinc 2 1, 3) := by decide +kernel
theorem dX10_ones_13 : decode cX10_ones 13 = .ok (.lload_n 3, 1) := by decide +kernel
theorem dX10_ones_14 : decode cX10_ones 14 = .ok (.lload_n 3, 1) := by decide +kernel
theorem dX10_ones_15 : decode cX10_ones 15 = .ok (.lconst 1, 1) := by decide +kernel
theorem dX10_ones_16 : decode cX10_ones 16 = .ok (.lsub, 1) := by decide +kernel
theorem dX10_ones_17 : decode cX10_ones 17 = .ok (.land, 1) := by decide +kernel
theorem dX10_ones_18 : decode cX10_ones 18 = .ok (.lstore_n 3, 1) := by decide +kernel
theorem dX10_ones_19 : decode cX10_ones 19 = .ok (.goto (-15), 3) := by decide +kernel
theorem dX10_ones_22 : decode cX10_ones 22 = .ok (.iload_n 2, 1) := by decide +kernel
theorem dX10_ones_23 : decode cX10_ones 23 = .ok (.ireturn, 1) := by decide +kernel
theorem dX10_copy_0 : decode cX10_copy 0 = .ok (.iconst 0, 1) := by decide +kernel
theorem dX10_copy_1 : decode cX10_copy 1 = .ok (.istore 5, 2) := by decide +kernel
theorem dX10_copy_3 : decode cX10_copy 3 = .ok (.iload 5, 2) := by decide +kernel
theorem dX10_copy_5 : decode cX10_copy 5 = .ok (.iload 4, 2) := by decide +kernel
theorem dX10_copy_7 : decode cX10_copy 7 = .ok (.if_icmp .ge 21, 3) := by decide +kernel
theorem dX10_copy_10 : decode cX10_copy 10 = .ok (.aload_n 2, 1) := by decide +kernel
theorem dX10_copy_11 : decode cX10_copy 11 = .ok (.iload_n 3, 1) := by decide +kernel
theorem dX10_copy_12 : decode cX10_copy 12 = .ok (.iload 5, 2) := by decide +kernel
theorem dX10_copy_14 : decode cX10_copy 14 = .ok (.iadd, 1) := by decide +kernel
theorem dX10_copy_15 : decode cX10_copy 15 = .ok (.aload_n 0, 1) := by decide +kernel
theorem dX10_copy_16 : decode cX10_copy 16 = .ok (.iload_n 1, 1) := by decide +kernel
theorem dX10_copy_17 : decode cX10_copy 17 = .ok (.iload 5, 2) := by decide +kernel
theorem dX10_copy_19 : decode cX10_copy 19 = .ok (.iadd, 1) := by decide +kernel
theorem dX10_copy_20 : decode cX10_copy 20 = .ok (.iaload, 1) := by decide +kernel
theorem dX10_copy_21 : decode cX10_copy 21 = .ok (.iastore, 1) := by decide +kernel
theorem dX10_copy_22 : decode cX10_copy 22 = .ok (.iinc 5 1, 3) := by decide +kernel
theorem dX10_copy_25 : decode cX10_copy 25 = .ok (.goto (-22), 3) := by decide +kernel
theorem dX10_copy_28 : decode cX10_copy 28 = .ok (.return_, 1) := by decide +kernel
theorem dX10_lowest_0 : decode cX10_lowest 0 = .ok (.lload_n 2, 1) := by decide +kernel
theorem dX10_lowest_1 : decode cX10_lowest 1 = .ok (.lstore 5, 2) := by decide +kernel
theorem dX10_lowest_3 : decode cX10_lowest 3 = .ok (.lload_n 0, 1) := by decide +kernel
theorem dX10_lowest_4 : decode cX10_lowest 4 = .ok (.lstore 7, 2) := by decide +kernel
theorem dX10_lowest_6 : decode cX10_lowest 6 = .ok (.lload 7, 2) := by decide +kernel
theorem dX10_lowest_8 : decode cX10_lowest 8 = .ok (.lconst 0, 1) := by decide +kernel
theorem dX10_lowest_9 : decode cX10_lowest 9 = .ok (.lcmp, 1) := by decide +kernel
theorem dX10_lowest_10 : decode cX10_lowest 10 = .ok (.ifCond .eq 21, 3) := by decide +kernel
theorem dX10_lowest_13 : decode cX10_lowest 13 = .ok (.lload 5, 2) := by decide +kernel
theorem dX10_lowest_15 : decode cX10_lowest 15 = .ok (.lload 7, 2) := by decide +kernel
theorem dX10_lowest_17 : decode cX10_lowest 17 = .ok (.lrem, 1) := by decide +kernel
theorem dX10_lowest_18 : decode cX10_lowest 18 = .ok (.lstore 9, 2) := by decide +kernel
theorem dX10_lowest_20 : decode cX10_lowest 20 = .ok (.lload 7, 2) := by decide +kernel
theorem dX10_lowest_22 : decode cX10_lowest 22 = .ok (.lstore 5, 2) := by decide +kernel
theorem dX10_lowest_24 : decode cX10_lowest 24 = .ok (.lload 9, 2) := by decide +kernel
theorem dX10_lowest_26 : decode cX10_lowest 26 = .ok (.lstore 7, 2) := by decide +kernel
theorem dX10_lowest_28 : decode cX10_lowest 28 = .ok (.goto (-22), 3) := by decide +kernel
theorem dX10_lowest_31 : decode cX10_lowest 31 = .ok (.iload 4, 2) := by decide +kernel
theorem dX10_lowest_33 : decode cX10_lowest 33 = .ok (.ifCond .eq 7, 3) := by decide +kernel
theorem dX10_lowest_36 : decode cX10_lowest 36 = .ok (.lload_n 2, 1) := by decide +kernel
theorem dX10_lowest_37 : decode cX10_lowest 37 = .ok (.goto 4, 3) := by decide +kernel
theorem dX10_lowest_40 : decode cX10_lowest 40 = .ok (.lload_n 0, 1) := by decide +kernel
theorem dX10_lowest_41 : decode cX10_lowest 41 = .ok (.lload 5, 2) := by decide +kernel
theorem dX10_lowest_43 : decode cX10_lowest 43 = .ok (.ldiv, 1) := by decide +kernel
theorem dX10_lowest_44 : decode cX10_lowest 44 = .ok (.lreturn, 1) := by decide +kernel
theorem dX10_feed_0 : decode cX10_feed 0 = .ok (.aload_n 0, 1) := by decide +kernel
theorem dX10_feed_1 : decode cX10_feed 1 = .ok (.iconst 0, 1) := by decide +kernel
theorem dX10_feed_2 : decode cX10_feed 2 = .ok (.putfield 51, 3) := by decide +kernel
theorem dX10_feed_5 : decode cX10_feed 5 = .ok (.aload_n 0, 1) := by decide +kernel
theorem dX10_feed_6 : decode cX10_feed 6 = .ok (.getfield 57, 3) := by decide +kernel
theorem dX10_feed_9 : decode cX10_feed 9 = .ok (.bipush 20, 2) := by decide +kernel
theorem dX10_feed_11 : decode cX10_feed 11 = .ok (.iadd, 1) := by decide +kernel
theorem dX10_feed_12 : decode cX10_feed 12 = .ok (.sipush 900, 3) := by decide +kernel
theorem dX10_feed_15 : decode cX10_feed 15 = .ok (.if_icmp .le 5, 3) := by decide +kernel
theorem dX10_feed_18 : decode cX10_feed 18 = .ok (.iconst (-1), 1) := by decide +kernel
theorem dX10_feed_19 : decode cX10_feed 19 = .ok (.ireturn, 1) := by decide +kernel
theorem dX10_feed_20 : decode cX10_feed 20 = .ok (.iconst 0, 1) := by decide +kernel
theorem dX10_feed_21 : decode cX10_feed 21 = .ok (.istore 6, 2) := by decide +kernel
theorem dX10_feed_23 : decode cX10_feed 23 = .ok (.iload 6, 2) := by decide +kernel
theorem dX10_feed_25 : decode cX10_feed 25 = .ok (.bipush 20, 2) := by decide +kernel
theorem dX10_feed_27 : decode cX10_feed 27 = .ok (.if_icmp .ge 93, 3) := by decide +kernel
theorem dX10_feed_30 : decode cX10_feed 30 = .ok (.iload 6, 2) := by decide +kernel
theorem dX10_feed_32 : decode cX10_feed 32 = .ok (.iconst 4, 1) := by decide +kernel
theorem dX10_feed_33 : decode cX10_feed 33 = .ok (.if_icmp .ge 7, 3) := by decide +kernel
theorem dX10_feed_36 : decode cX10_feed 36 = .ok (.iload_n 1, 1) := by decide +kernel
theorem dX10_feed_37 : decode cX10_feed 37 = .ok (.goto 39, 3) := by decide +kernel
theorem dX10_feed_40 : decode cX10_feed 40 = .ok (.iload 6, 2) := by decide +kernel
theorem dX10_feed_42 : decode cX10_feed 42 = .ok (.bipush 8, 2) := by decide +kernel
theorem dX10_feed_44 : decode cX10_feed 44 = .ok (.if_icmp .ge 7, 3) := by decide +kernel
theorem dX10_feed_47 : decode cX10_feed 47 = .ok (.iload_n 2, 1) := by decide +kernel
theorem dX10_feed_48 : decode cX10_feed 48 = .ok (.goto 28, 3) := by decide +kernel
theorem dX10_feed_51 : decode cX10_feed 51 = .ok (.iload 6, 2) := by decide +kernel
theorem dX10_feed_53 : decode cX10_feed 53 = .ok (.bipush 12, 2) := by decide +kernel
theorem dX10_feed_55 : decode cX10_feed 55 = .ok (.if_icmp .ge 7, 3) := by decide +kernel
theorem dX10_feed_58 : decode cX10_feed 58 = .ok (.iload_n 3, 1) := by decide +kernel
theorem dX10_feed_59 : decode cX10_feed 59 = .ok (.goto 17, 3) := by decide +kernel
theorem dX10_feed_62 : decode cX10_feed 62 = .ok (.iload 6, 2) := by decide +kernel
theorem dX10_feed_64 : decode cX10_feed 64 = .ok (.bipush 16, 2) := by decide +kernel
theorem dX10_feed_66 : decode cX10_feed 66 = .ok (.if_icmp .ge 8, 3) := by decide +kernel
theorem dX10_feed_69 : decode cX10_feed 69 = .ok (.iload 4, 2) := by decide +kernel
theorem dX10_feed_71 : decode cX10_feed 71 = .ok (.goto 5, 3) := by decide +kernel
theorem dX10_feed_74 : decode cX10_feed 74 = .ok (.iload 5, 2) := by decide +kernel
theorem dX10_feed_76 : decode cX10_feed 76 = .ok (.istore 7, 2) := by decide +kernel
theorem dX10_feed_78 : decode cX10_feed 78 = .ok (.aload_n 0, 1) := by decide +kernel
theorem dX10_feed_79 : decode cX10_feed 79 = .ok (.getfield 7, 3) := by decide +kernel
theorem dX10_feed_82 : decode cX10_feed 82 = .ok (.aload_n 0, 1) := by decide +kernel
theorem dX10_feed_83 : decode cX10_feed 83 = .ok (.getfield 57, 3) := by decide +kernel
theorem dX10_feed_86 : decode cX10_feed 86 = .ok (.iload 7, 2) := by decide +kernel
theorem dX10_feed_88 : decode cX10_feed 88 = .ok (.bipush 24, 2) := by decide +kernel
theorem dX10_feed_90 : decode cX10_feed 90 = .ok (.bipush 8, 2) := by decide +kernel
theorem dX10_feed_92 : decode cX10_feed 92 = .ok (.iload 6, 2) := by decide +kernel
theorem dX10_feed_94 : decode cX10_feed 94 = .ok (.iconst 4, 1) := by decide +kernel
theorem dX10_feed_95 : decode cX10_feed 95 = .ok (.irem, 1) := by decide +kernel
theorem dX10_feed_96 : decode cX10_feed 96 = .ok (.imul, 1) := by decide +kernel
theorem dX10_feed_97 : decode cX10_feed 97 = .ok (.isub, 1) := by decide +kernel
theorem dX10_feed_98 : decode cX10_feed 98 = .ok (.ishr, 1) := by decide +kernel
theorem dX10_feed_99 : decode cX10_feed 99 = .ok (.sipush 255, 3) := by decide +kernel
theorem dX10_feed_102 : decode cX10_feed 102 = .ok (.iand, 1) := by decide +kernel
theorem dX10_feed_103 : decode cX10_feed 103 = .ok (.iastore, 1) := by decide +kernel
theorem dX10_feed_104 : decode cX10_feed 104 = .ok (.aload_n 0, 1) := by decide +kernel
theorem dX10_feed_105 : decode cX10_feed 105 = .ok (.dup, 1) := by decide +kernel
theorem dX10_feed_106 : decode cX10_feed 106 = .ok (.getfield 57, 3) := by decide +kernel
theorem dX10_feed_109 : decode cX10_feed 109 = .ok (.iconst 1, 1) := by decide +kernel
theorem dX10_feed_110 : decode cX10_feed 110 = .ok (.iadd, 1) := by decide +kernel
theorem dX10_feed_111 : decode cX10_feed 111 = .ok (.putfield 57, 3) := by decide +kernel
theorem dX10_feed_114 : decode cX10_feed 114 = .ok (.iinc 6 1, 3) := by decide +kernel
theorem dX10_feed_117 : decode cX10_feed 117 = .ok (.goto (-94), 3) := by decide +kernel
theorem dX10_feed_120 : decode cX10_feed 120 = .ok (.aload_n 0, 1) := by decide +kernel
theorem dX10_feed_121 : decode cX10_feed 121 = .ok (.getfield 57, 3) := by decide +kernel
theorem dX10_feed_124 : decode cX10_feed 124 = .ok (.ireturn, 1) := by decide +kernel
theorem dX10_look_0 : decode cX10_look 0 = .ok (.iload_n 1, 1) := by decide +kernel
theorem dX10_look_1 : decode cX10_look 1 = .ok (.aload_n 0, 1) := by decide +kernel
theorem dX10_look_2 : decode cX10_look 2 = .ok (.getfield 60, 3) := by decide +kernel
theorem dX10_look_5 : decode cX10_look 5 = .ok (.if_icmp .ge 12, 3) := by decide +kernel
theorem dX10_look_8 : decode cX10_look 8 = .ok (.aload_n 0, 1) := by decide +kernel
theorem dX10_look_9 : decode cX10_look 9 = .ok (.getfield 7, 3) := by decide +kernel
theorem dX10_look_12 : decode cX10_look 12 = .ok (.iload_n 1, 1) := by decide +kernel
theorem dX10_look_13 : decode cX10_look 13 = .ok (.iaload, 1) := by decide +kernel
theorem dX10_look_14 : decode cX10_look 14 = .ok (.goto 4, 3) := by decide +kernel
theorem dX10_look_17 : decode cX10_look 17 = .ok (.iconst (-1), 1) := by decide +kernel
theorem dX10_look_18 : decode cX10_look 18 = .ok (.ireturn, 1) := by decide +kernel
theorem dX10_isSmall_0 : decode cX10_isSmall 0 = .ok (.iload_n 0, 1) := by decide +kernel
theorem dX10_isSmall_1 : decode cX10_isSmall 1 = .ok (.bipush 97, 2) := by decide +kernel
theorem dX10_isSmall_3 : decode cX10_isSmall 3 = .ok (.if_icmp .lt 13, 3) := by decide +kernel
theorem dX10_isSmall_6 : decode cX10_isSmall 6 = .ok (.iload_n 0, 1) := by decide +kernel
theorem dX10_isSmall_7 : decode cX10_isSmall 7 = .ok (.bipush 122, 2) := by decide +kernel
theorem dX10_isSmall_9 : decode cX10_isSmall 9 = .ok (.if_icmp .gt 7, 3) := by decide +kernel
theorem dX10_isSmall_12 : decode cX10_isSmall 12 = .ok (.iconst 1, 1) := by decide +kernel
theorem dX10_isSmall_13 : decode cX10_isSmall 13 = .ok (.goto 4, 3) := by decide +kernel
theorem dX10_isSmall_16 : decode cX10_isSmall 16 = .ok (.iconst 0, 1) := by decide +kernel
theorem dX10_isSmall_17 : decode cX10_isSmall 17 = .ok (.ireturn, 1) := by decide +kernel
theorem dX10_isDigit_0 : decode cX10_isDigit 0 = .ok (.iload_n 0, 1) := by decide +kernel
theorem dX10_isDigit_1 : decode cX10_isDigit 1 = .ok (.bipush 48, 2) := by decide +kernel
theorem dX10_isDigit_3 : decode cX10_isDigit 3 = .ok (.if_icmp .lt 13, 3) := by decide +kernel
theorem dX10_isDigit_6 : decode cX10_isDigit 6 = .ok (.iload_n 0, 1) := by decide +kernel
theorem dX10_isDigit_7 : decode cX10_isDigit 7 = .ok (.bipush 57, 2) := by decide +kernel
theorem dX10_isDigit_9 : decode cX10_isDigit 9 = .ok (.if_icmp .gt 7, 3) := by decide +kernel
theorem dX10_isDigit_12 : decode cX10_isDigit 12 = .ok (.iconst 1, 1) := by decide +kernel
theorem dX10_isDigit_13 : decode cX10_isDigit 13 = .ok (.goto 4, 3) := by decide +kernel
theorem dX10_isDigit_16 : decode cX10_isDigit 16 = .ok (.iconst 0, 1) := by decide +kernel
theorem dX10_isDigit_17 : decode cX10_isDigit 17 = .ok (.ireturn, 1) := by decide +kernel
theorem dX10_pass_0 : decode cX10_pass 0 = .ok (.aload_n 0, 1) := by decide +kernel
theorem dX10_pass_1 : decode cX10_pass 1 = .ok (.getfield 63, 3) := by decide +kernel
theorem dX10_pass_4 : decode cX10_pass 4 = .ok (.istore_n 1, 1) := by decide +kernel
theorem dX10_pass_5 : decode cX10_pass 5 = .ok (.aload_n 0, 1) := by decide +kernel
theorem dX10_pass_6 : decode cX10_pass 6 = .ok (.iload_n 1, 1) := by decide +kernel
theorem dX10_pass_7 : decode cX10_pass 7 = .ok (.invokevirtual 66, 3) := by decide +kernel
theorem dX10_pass_10 : decode cX10_pass 10 = .ok (.bipush 32, 2) := by decide +kernel
theorem dX10_pass_12 : decode cX10_pass 12 = .ok (.if_icmp .ne 9, 3) := by decide +kernel
theorem dX10_pass_15 : decode cX10_pass 15 = .ok (.iinc 1 1, 3) := by decide +kernel
theorem dX10_pass_18 : decode cX10_pass 18 = .ok (.goto (-13), 3) := by decide +kernel
theorem dX10_pass_21 : decode cX10_pass 21 = .ok (.aload_n 0, 1) := by decide +kernel
theorem dX10_pass_22 : decode cX10_pass 22 = .ok (.iload_n 1, 1) := by decide +kernel
theorem dX10_pass_23 : decode cX10_pass 23 = .ok (.putfield 70, 3) := by decide +kernel
theorem dX10_pass_26 : decode cX10_pass 26 = .ok (.aload_n 0, 1) := by decide +kernel
theorem dX10_pass_27 : decode cX10_pass 27 = .ok (.iload_n 1, 1) := by decide +kernel
theorem dX10_pass_28 : decode cX10_pass 28 = .ok (.invokevirtual 66, 3) := by decide +kernel
theorem dX10_pass_31 : decode cX10_pass 31 = .ok (.istore_n 2, 1) := by decide +kernel
theorem dX10_pass_32 : decode cX10_pass 32 = .ok (.aload_n 0, 1) := by decide +kernel
theorem dX10_pass_33 : decode cX10_pass 33 = .ok (.iconst 0, 1) := by decide +kernel
theorem dX10_pass_34 : decode cX10_pass 34 = .ok (.putfield 73, 3) := by decide +kernel
theorem dX10_pass_37 : decode cX10_pass 37 = .ok (.aload_n 0, 1) := by decide +kernel
theorem dX10_pass_38 : decode cX10_pass 38 = .ok (.iconst 0, 1) := by decide +kernel
theorem dX10_pass_39 : decode cX10_pass 39 = .ok (.putfield 76, 3) := by decide +kernel
theorem dX10_pass_42 : decode cX10_pass 42 = .ok (.iload_n 2, 1) := by decide +kernel
theorem dX10_pass_43 : decode cX10_pass 43 = .ok (.iconst (-1), 1) := by decide +kernel
theorem dX10_pass_44 : decode cX10_pass 44 = .ok (.if_icmp .ne 16, 3) := by decide +kernel
theorem dX10_pass_47 : decode cX10_pass 47 = .ok (.aload_n 0, 1) := by decide +kernel
theorem dX10_pass_48 : decode cX10_pass 48 = .ok (.iconst 0, 1) := by decide +kernel
theorem dX10_pass_49 : decode cX10_pass 49 = .ok (.putfield 79, 3) := by decide +kernel
theorem dX10_pass_52 : decode cX10_pass 52 = .ok (.aload_n 0, 1) := by decide +kernel
theorem dX10_pass_53 : decode cX10_pass 53 = .ok (.iload_n 1, 1) := by decide +kernel
theorem dX10_pass_54 : decode cX10_pass 54 = .ok (.putfield 63, 3) := by decide +kernel
theorem dX10_pass_57 : decode cX10_pass 57 = .ok (.goto 202, 3) := by decide +kernel
theorem dX10_pass_60 : decode cX10_pass 60 = .ok (.iload_n 2, 1) := by decide +kernel
theorem dX10_pass_61 : decode cX10_pass 61 = .ok (.invokestatic 82, 3) := by decide +kernel
theorem dX10_pass_64 : decode cX10_pass 64 = .ok (.ifCond .eq 79, 3) := by decide +kernel
theorem dX10_pass_67 : decode cX10_pass 67 = .ok (.aload_n 0, 1) := by decide +kernel
theorem dX10_pass_68 : decode cX10_pass 68 = .ok (.iload_n 1, 1) := by decide +kernel
theorem dX10_pass_69 : decode cX10_pass 69 = .ok (.invokevirtual 66, 3) := by decide +kernel
theorem dX10_pass_72 : decode cX10_pass 72 = .ok (.invokestatic 82, 3) := by decide +kernel
theorem dX10_pass_75 : decode cX10_pass 75 = .ok (.ifCond .eq 42, 3) := by decide +kernel
theorem dX10_pass_78 : decode cX10_pass 78 = .ok (.aload_n 0, 1) := by decide +kernel
theorem dX10_pass_79 : decode cX10_pass 79 = .ok (.getfield 73, 3) := by decide +kernel
theorem dX10_pass_82 : decode cX10_pass 82 = .ok (.bipush 8, 2) := by decide +kernel
theorem dX10_pass_84 : decode cX10_pass 84 = .ok (.if_icmp .ge 17, 3) := by decide +kernel
theorem dX10_pass_87 : decode cX10_pass 87 = .ok (.aload_n 0, 1) := by decide +kernel
theorem dX10_pass_88 : decode cX10_pass 88 = .ok (.getfield 17, 3) := by decide +kernel
theorem dX10_pass_91 : decode cX10_pass 91 = .ok (.aload_n 0, 1) := by decide +kernel
theorem dX10_pass_92 : decode cX10_pass 92 = .ok (.getfield 73, 3) := by decide +kernel
theorem dX10_pass_95 : decode cX10_pass 95 = .ok (.aload_n 0, 1) := by decide +kernel
theorem dX10_pass_96 : decode cX10_pass 96 = .ok (.iload_n 1, 1) := by decide +kernel
theorem dX10_pass_97 : decode cX10_pass 97 = .ok (.invokevirtual 66, 3) := by decide +kernel
theorem dX10_pass_100 : decode cX10_pass 100 = .ok (.iastore, 1) := by decide +kernel
theorem dX10_pass_101 : decode cX10_pass 101 = .ok (.aload_n 0, 1) := by decide +kernel
theorem dX10_pass_102 : decode cX10_pass 102 = .ok (.dup, 1) := by decide +kernel
theorem dX10_pass_103 : decode cX10_pass 103 = .ok (.getfield 73, 3) := by decide +kernel
theorem dX10_pass_106 : decode cX10_pass 106 = .ok (.iconst 1, 1) := by decide +kernel
theorem dX10_pass_107 : decode cX10_pass 107 = .ok (.iadd, 1) := by decide +kernel
theorem dX10_pass_108 : decode cX10_pass 108 = .ok (.putfield 73, 3) := by decide +kernel
theorem dX10_pass_111 : decode cX10_pass 111 = .ok (.iinc 1 1, 3) := by decide +kernel
theorem dX10_pass_114 : decode cX10_pass 114 = .ok (.goto (-47), 3) := by decide +kernel
theorem dX10_pass_117 : decode cX10_pass 117 = .ok (.aload_n 0, 1) := by decide +kernel
theorem dX10_pass_118 : decode cX10_pass 118 = .ok (.iload_n 1, 1) := by decide +kernel
theorem dX10_pass_119 : decode cX10_pass 119 = .ok (.putfield 63, 3) := by decide +kernel
theorem dX10_pass_122 : decode cX10_pass 122 = .ok (.aload_n 0, 1) := by decide +kernel
theorem dX10_pass_123 : decode cX10_pass 123 = .ok (.aload_n 0, 1) := by decide +kernel
theorem dX10_pass_124 : decode cX10_pass 124 = .ok (.getfield 73, 3) := by decide +kernel
theorem dX10_pass_127 : decode cX10_pass 127 = .ok (.bipush 8, 2) := by decide +kernel
theorem dX10_pass_129 : decode cX10_pass 129 = .ok (.if_icmp .le 7, 3) := by decide +kernel
theorem dX10_pass_132 : decode cX10_pass 132 = .ok (.iconst 1, 1) := by decide +kernel
theorem dX10_pass_133 : decode cX10_pass 133 = .ok (.goto 4, 3) := by decide +kernel
theorem dX10_pass_136 : decode cX10_pass 136 = .ok (.iconst 2, 1) := by decide +kernel
theorem dX10_pass_137 : decode cX10_pass 137 = .ok (.putfield 79, 3) := by decide +kernel
theorem dX10_pass_140 : decode cX10_pass 140 = .ok (.goto 119, 3) := by decide +kernel
theorem dX10_pass_143 : decode cX10_pass 143 = .ok (.iload_n 2, 1) := by decide +kernel
theorem dX10_pass_144 : decode cX10_pass 144 = .ok (.invokestatic 86, 3) := by decide +kernel
theorem dX10_pass_147 : decode cX10_pass 147 = .ok (.ifCond .eq 72, 3) := by decide +kernel
theorem dX10_pass_150 : decode cX10_pass 150 = .ok (.iconst 0, 1) := by decide +kernel
theorem dX10_pass_151 : decode cX10_pass 151 = .ok (.istore_n 3, 1) := by decide +kernel
theorem dX10_pass_152 : decode cX10_pass 152 = .ok (.aload_n 0, 1) := by decide +kernel
theorem dX10_pass_153 : decode cX10_pass 153 = .ok (.iload_n 1, 1) := by decide +kernel
theorem dX10_pass_154 : decode cX10_pass 154 = .ok (.invokevirtual 66, 3) := by decide +kernel
theorem dX10_pass_157 : decode cX10_pass 157 = .ok (.invokestatic 86, 3) := by decide +kernel
theorem dX10_pass_160 : decode cX10_pass 160 = .ok (.ifCond .eq 37, 3) := by decide +kernel
theorem dX10_pass_163 : decode cX10_pass 163 = .ok (.iload_n 3, 1) := by decide +kernel
theorem dX10_pass_164 : decode cX10_pass 164 = .ok (.iconst 3, 1) := by decide +kernel
theorem dX10_pass_165 : decode cX10_pass 165 = .ok (.if_icmp .ge 23, 3) := by decide +kernel
theorem dX10_pass_168 : decode cX10_pass 168 = .ok (.aload_n 0, 1) := by decide +kernel
theorem dX10_pass_169 : decode cX10_pass 169 = .ok (.bipush 10, 2) := by decide +kernel
theorem dX10_pass_171 : decode cX10_pass 171 = .ok (.aload_n 0, 1) := by decide +kernel
theorem dX10_pass_172 : decode cX10_pass 172 = .ok (.getfield 76, 3) := by decide +kernel
theorem dX10_pass_175 : decode cX10_pass 175 = .ok (.imul, 1) := by decide +kernel
theorem dX10_pass_176 : decode cX10_pass 176 = .ok (.aload_n 0, 1) := by decide +kernel
theorem dX10_pass_177 : decode cX10_pass 177 = .ok (.iload_n 1, 1) := by decide +kernel
theorem dX10_pass_178 : decode cX10_pass 178 = .ok (.invokevirtual 66, 3) := by decide +kernel
theorem dX10_pass_181 : decode cX10_pass 181 = .ok (.iadd, 1) := by decide +kernel
theorem dX10_pass_182 : decode cX10_pass 182 = .ok (.bipush 48, 2) := by decide +kernel
theorem dX10_pass_184 : decode cX10_pass 184 = .ok (.isub, 1) := by decide +kernel
theorem dX10_pass_185 : decode cX10_pass 185 = .ok (.putfield 76, 3) := by decide +kernel
theorem dX10_pass_188 : decode cX10_pass 188 = .ok (.iinc 3 1, 3) := by decide +kernel
theorem dX10_pass_191 : decode cX10_pass 191 = .ok (.iinc 1 1, 3) := by decide +kernel
theorem dX10_pass_194 : decode cX10_pass 194 = .ok (.goto (-42), 3) := by decide +kernel
theorem dX10_pass_197 : decode cX10_pass 197 = .ok (.aload_n 0, 1) := by decide +kernel
theorem dX10_pass_198 : decode cX10_pass 198 = .ok (.iload_n 1, 1) := by decide +kernel
theorem dX10_pass_199 : decode cX10_pass 199 = .ok (.putfield 63, 3) := by decide +kernel
theorem dX10_pass_202 : decode cX10_pass 202 = .ok (.aload_n 0, 1) := by decide +kernel
theorem dX10_pass_203 : decode cX10_pass 203 = .ok (.iload_n 3, 1) := by decide +kernel
theorem dX10_pass_204 : decode cX10_pass 204 = .ok (.iconst 3, 1) := by decide +kernel
theorem dX10_pass_205 : decode cX10_pass 205 = .ok (.if_icmp .le 7, 3) := by decide +kernel
theorem dX10_pass_208 : decode cX10_pass 208 = .ok (.iconst 1, 1) := by decide +kernel
theorem dX10_pass_209 : decode cX10_pass 209 = .ok (.goto 4, 3) := by decide +kernel
theorem dX10_pass_212 : decode cX10_pass 212 = .ok (.iconst 3, 1) := by decide +kernel
theorem dX10_pass_213 : decode cX10_pass 213 = .ok (.putfield 79, 3) := by decide +kernel
theorem dX10_pass_216 : decode cX10_pass 216 = .ok (.goto 43, 3) := by decide +kernel
theorem dX10_pass_219 : decode cX10_pass 219 = .ok (.aload_n 0, 1) := by decide +kernel
theorem dX10_pass_220 : decode cX10_pass 220 = .ok (.iload_n 1, 1) := by decide +kernel
theorem dX10_pass_221 : decode cX10_pass 221 = .ok (.iconst 1, 1) := by decide +kernel
theorem dX10_pass_222 : decode cX10_pass 222 = .ok (.iadd, 1) := by decide +kernel
theorem dX10_pass_223 : decode cX10_pass 223 = .ok (.putfield 63, 3) := by decide +kernel
theorem dX10_pass_226 : decode cX10_pass 226 = .ok (.aload_n 0, 1) := by decide +kernel
theorem dX10_pass_227 : decode cX10_pass 227 = .ok (.iload_n 2, 1) := by decide +kernel
theorem dX10_pass_228 : decode cX10_pass 228 = .ok (.bipush 59, 2) := by decide +kernel
theorem dX10_pass_230 : decode cX10_pass 230 = .ok (.if_icmp .eq 21, 3) := by decide +kernel
theorem dX10_pass_233 : decode cX10_pass 233 = .ok (.iload_n 2, 1) := by decide +kernel
theorem dX10_pass_234 : decode cX10_pass 234 = .ok (.bipush 44, 2) := by decide +kernel
theorem dX10_pass_236 : decode cX10_pass 236 = .ok (.if_icmp .eq 15, 3) := by decide +kernel
theorem dX10_pass_239 : decode cX10_pass 239 = .ok (.iload_n 2, 1) := by decide +kernel
theorem dX10_pass_240 : decode cX10_pass 240 = .ok (.bipush 40, 2) := by decide +kernel
theorem dX10_pass_242 : decode cX10_pass 242 = .ok (.if_icmp .eq 9, 3) := by decide +kernel
theorem dX10_pass_245 : decode cX10_pass 245 = .ok (.iload_n 2, 1) := by decide +kernel
theorem dX10_pass_246 : decode cX10_pass 246 = .ok (.bipush 41, 2) := by decide +kernel
theorem dX10_pass_248 : decode cX10_pass 248 = .ok (.if_icmp .ne 7, 3) := by decide +kernel
theorem dX10_pass_251 : decode cX10_pass 251 = .ok (.iload_n 2, 1) := by decide +kernel
theorem dX10_pass_252 : decode cX10_pass 252 = .ok (.goto 4, 3) := by decide +kernel
theorem dX10_pass_255 : decode cX10_pass 255 = .ok (.iconst 1, 1) := by decide +kernel
theorem dX10_pass_256 : decode cX10_pass 256 = .ok (.putfield 79, 3) := by decide +kernel
theorem dX10_pass_259 : decode cX10_pass 259 = .ok (.return_, 1) := by decide +kernel
theorem dX10_wrong_0 : decode cX10_wrong 0 = .ok (.aload_n 0, 1) := by decide +kernel
theorem dX10_wrong_1 : decode cX10_wrong 1 = .ok (.getfield 89, 3) := by decide +kernel
theorem dX10_wrong_4 : decode cX10_wrong 4 = .ok (.ifCond .eq 4, 3) := by decide +kernel
theorem dX10_wrong_7 : decode cX10_wrong 7 = .ok (.return_, 1) := by decide +kernel
theorem dX10_wrong_8 : decode cX10_wrong 8 = .ok (.aload_n 0, 1) := by decide +kernel
theorem dX10_wrong_9 : decode cX10_wrong 9 = .ok (.iconst 1, 1) := by decide +kernel
theorem dX10_wrong_10 : decode cX10_wrong 10 = .ok (.putfield 89, 3) := by decide +kernel
theorem dX10_wrong_13 : decode cX10_wrong 13 = .ok (.aload_n 0, 1) := by decide +kernel
theorem dX10_wrong_14 : decode cX10_wrong 14 = .ok (.iload_n 1, 1) := by decide +kernel
theorem dX10_wrong_15 : decode cX10_wrong 15 = .ok (.putfield 93, 3) := by decide +kernel
theorem dX10_wrong_18 : decode cX10_wrong 18 = .ok (.aload_n 0, 1) := by decide +kernel
theorem dX10_wrong_19 : decode cX10_wrong 19 = .ok (.iload_n 2, 1) := by decide +kernel
theorem dX10_wrong_20 : decode cX10_wrong 20 = .ok (.putfield 13, 3) := by decide +kernel
theorem dX10_wrong_23 : decode cX10_wrong 23 = .ok (.return_, 1) := by decide +kernel
theorem dX10_isWord_0 : decode cX10_isWord 0 = .ok (.aload_n 0, 1) := by decide +kernel
theorem dX10_isWord_1 : decode cX10_isWord 1 = .ok (.getfield 89, 3) := by decide +kernel
theorem dX10_isWord_4 : decode cX10_isWord 4 = .ok (.ifCond .ne 22, 3) := by decide +kernel
theorem dX10_isWord_7 : decode cX10_isWord 7 = .ok (.aload_n 0, 1) := by decide +kernel
theorem dX10_isWord_8 : decode cX10_isWord 8 = .ok (.getfield 79, 3) := by decide +kernel
theorem dX10_isWord_11 : decode cX10_isWord 11 = .ok (.iconst 2, 1) := by decide +kernel
theorem dX10_isWord_12 : decode cX10_isWord 12 = .ok (.if_icmp .ne 14, 3) := by decide +kernel
theorem dX10_isWord_15 : decode cX10_isWord 15 = .ok (.aload_n 0, 1) := by decide +kernel
theorem dX10_isWord_16 : decode cX10_isWord 16 = .ok (.getfield 73, 3) := by decide +kernel
theorem dX10_isWord_19 : decode cX10_isWord 19 = .ok (.aload_n 1, 1) := by decide +kernel
theorem dX10_isWord_20 : decode cX10_isWord 20 = .ok (.invokevirtual 96, 3) := by decide +kernel
theorem dX10_isWord_23 : decode cX10_isWord 23 = .ok (.if_icmp .eq 5, 3) := by decide +kernel
theorem dX10_isWord_26 : decode cX10_isWord 26 = .ok (.iconst 0, 1) := by decide +kernel
theorem dX10_isWord_27 : decode cX10_isWord 27 = .ok (.ireturn, 1) := by decide +kernel
theorem dX10_isWord_28 : decode cX10_isWord 28 = .ok (.iconst 1, 1) := by decide +kernel
theorem dX10_isWord_29 : decode cX10_isWord 29 = .ok (.istore_n 2, 1) := by decide +kernel
theorem dX10_isWord_30 : decode cX10_isWord 30 = .ok (.iconst 0, 1) := by decide +kernel
theorem dX10_isWord_31 : decode cX10_isWord 31 = .ok (.istore_n 3, 1) := by decide +kernel
theorem dX10_isWord_32 : decode cX10_isWord 32 = .ok (.iload_n 3, 1) := by decide +kernel
theorem dX10_isWord_33 : decode cX10_isWord 33 = .ok (.aload_n 0, 1) := by decide +kernel
theorem dX10_isWord_34 : decode cX10_isWord 34 = .ok (.getfield 73, 3) := by decide +kernel
theorem dX10_isWord_37 : decode cX10_isWord 37 = .ok (.if_icmp .ge 33, 3) := by decide +kernel
theorem dX10_isWord_40 : decode cX10_isWord 40 = .ok (.iload_n 2, 1) := by decide +kernel
theorem dX10_isWord_41 : decode cX10_isWord 41 = .ok (.ifCond .eq 21, 3) := by decide +kernel
theorem dX10_isWord_44 : decode cX10_isWord 44 = .ok (.aload_n 0, 1) := by decide +kernel
theorem dX10_isWord_45 : decode cX10_isWord 45 = .ok (.getfield 17, 3) := by decide +kernel
theorem dX10_isWord_48 : decode cX10_isWord 48 = .ok (.iload_n 3, 1) := by decide +kernel
theorem dX10_isWord_49 : decode cX10_isWord 49 = .ok (.iaload, 1) := by decide +kernel
theorem dX10_isWord_50 : decode cX10_isWord 50 = .ok (.aload_n 1, 1) := by decide +kernel
theorem dX10_isWord_51 : decode cX10_isWord 51 = .ok (.iload_n 3, 1) := by decide +kernel
theorem dX10_isWord_52 : decode cX10_isWord 52 = .ok (.invokevirtual 102, 3) := by decide +kernel
theorem dX10_isWord_55 : decode cX10_isWord 55 = .ok (.if_icmp .ne 7, 3) := by decide +kernel
theorem dX10_isWord_58 : decode cX10_isWord 58 = .ok (.iconst 1, 1) := by decide +kernel
theorem dX10_isWord_59 : decode cX10_isWord 59 = .ok (.goto 4, 3) := by decide +kernel
theorem dX10_isWord_62 : decode cX10_isWord 62 = .ok (.iconst 0, 1) := by decide +kernel
theorem dX10_isWord_63 : decode cX10_isWord 63 = .ok (.istore_n 2, 1) := by decide +kernel
theorem dX10_isWord_64 : decode cX10_isWord 64 = .ok (.iinc 3 1, 3) := by decide +kernel
theorem dX10_isWord_67 : decode cX10_isWord 67 = .ok (.goto (-35), 3) := by decide +kernel
theorem dX10_isWord_70 : decode cX10_isWord 70 = .ok (.iload_n 2, 1) := by decide +kernel
theorem dX10_isWord_71 : decode cX10_isWord 71 = .ok (.ireturn, 1) := by decide +kernel
theorem dX10_takesWord_0 : decode cX10_takesWord 0 = .ok (.aload_n 0, 1) := by decide +kernel
theorem dX10_takesWord_1 : decode cX10_takesWord 1 = .ok (.aload_n 1, 1) := by decide +kernel
theorem dX10_takesWord_2 : decode cX10_takesWord 2 = .ok (.invokevirtual 106, 3) := by decide +kernel
theorem dX10_takesWord_5 : decode cX10_takesWord 5 = .ok (.ifCond .ne 5, 3) := by decide +kernel
theorem dX10_takesWord_8 : decode cX10_takesWord 8 = .ok (.iconst 0, 1) := by decide +kernel
theorem dX10_takesWord_9 : decode cX10_takesWord 9 = .ok (.ireturn, 1) := by decide +kernel
theorem dX10_takesWord_10 : decode cX10_takesWord 10 = .ok (.aload_n 0, 1) := by decide +kernel
theorem dX10_takesWord_11 : decode cX10_takesWord 11 = .ok (.invokevirtual 110, 3) := by decide +kernel
theorem dX10_takesWord_14 : decode cX10_takesWord 14 = .ok (.iconst 1, 1) := by decide +kernel
theorem dX10_takesWord_15 : decode cX10_takesWord 15 = .ok (.ireturn, 1) := by decide +kernel
theorem dX10_takesSign_0 : decode cX10_takesSign 0 = .ok (.aload_n 0, 1) := by decide +kernel
theorem dX10_takesSign_1 : decode cX10_takesSign 1 = .ok (.getfield 89, 3) := by decide +kernel
theorem dX10_takesSign_4 : decode cX10_takesSign 4 = .ok (.ifCond .ne 11, 3) := by decide +kernel
theorem dX10_takesSign_7 : decode cX10_takesSign 7 = .ok (.aload_n 0, 1) := by decide +kernel
theorem dX10_takesSign_8 : decode cX10_takesSign 8 = .ok (.getfield 79, 3) := by decide +kernel
theorem dX10_takesSign_11 : decode cX10_takesSign 11 = .ok (.iload_n 1, 1) := by decide +kernel
theorem dX10_takesSign_12 : decode cX10_takesSign 12 = .ok (.if_icmp .eq 5, 3) := by decide +kernel
theorem dX10_takesSign_15 : decode cX10_takesSign 15 = .ok (.iconst 0, 1) := by decide +kernel
theorem dX10_takesSign_16 : decode cX10_takesSign 16 = .ok (.ireturn, 1) := by decide +kernel
theorem dX10_takesSign_17 : decode cX10_takesSign 17 = .ok (.aload_n 0, 1) := by decide +kernel
theorem dX10_takesSign_18 : decode cX10_takesSign 18 = .ok (.invokevirtual 110, 3) := by decide +kernel
theorem dX10_takesSign_21 : decode cX10_takesSign 21 = .ok (.iconst 1, 1) := by decide +kernel
theorem dX10_takesSign_22 : decode cX10_takesSign 22 = .ok (.ireturn, 1) := by decide +kernel
theorem dX10_must_0 : decode cX10_must 0 = .ok (.aload_n 0, 1) := by decide +kernel
theorem dX10_must_1 : decode cX10_must 1 = .ok (.getfield 89, 3) := by decide +kernel
theorem dX10_must_4 : decode cX10_must 4 = .ok (.ifCond .ne 20, 3) := by decide +kernel
theorem dX10_must_7 : decode cX10_must 7 = .ok (.aload_n 0, 1) := by decide +kernel
theorem dX10_must_8 : decode cX10_must 8 = .ok (.aload_n 1, 1) := by decide +kernel
theorem dX10_must_9 : decode cX10_must 9 = .ok (.invokevirtual 113, 3) := by decide +kernel
theorem dX10_must_12 : decode cX10_must 12 = .ok (.ifCond .ne 12, 3) := by decide +kernel
theorem dX10_must_15 : decode cX10_must 15 = .ok (.aload_n 0, 1) := by decide +kernel
theorem dX10_must_16 : decode cX10_must 16 = .ok (.iconst 1, 1) := by decide +kernel
theorem dX10_must_17 : decode cX10_must 17 = .ok (.aload_n 0, 1) := by decide +kernel
theorem dX10_must_18 : decode cX10_must 18 = .ok (.getfield 70, 3) := by decide +kernel
theorem dX10_must_21 : decode cX10_must 21 = .ok (.invokevirtual 116, 3) := by decide +kernel
theorem dX10_must_24 : decode cX10_must 24 = .ok (.return_, 1) := by decide +kernel
theorem dX10_mustName_0 : decode cX10_mustName 0 = .ok (.aload_n 0, 1) := by decide +kernel
theorem dX10_mustName_1 : decode cX10_mustName 1 = .ok (.ldc 120, 2) := by decide +kernel
theorem dX10_mustName_3 : decode cX10_mustName 3 = .ok (.invokevirtual 106, 3) := by decide +kernel
theorem dX10_mustName_6 : decode cX10_mustName 6 = .ok (.ifCond .ne 129, 3) := by decide +kernel
theorem dX10_mustName_9 : decode cX10_mustName 9 = .ok (.aload_n 0, 1) := by decide +kernel
theorem dX10_mustName_10 : decode cX10_mustName 10 = .ok (.ldc 122, 2) := by decide +kernel
theorem dX10_mustName_12 : decode cX10_mustName 12 = .ok (.invokevirtual 106, 3) := by decide +kernel
theorem dX10_mustName_15 : decode cX10_mustName 15 = .ok (.ifCond .ne 120, 3) := by decide +kernel
theorem dX10_mustName_18 : decode cX10_mustName 18 = .ok (.aload_n 0, 1) := by decide +kernel
theorem dX10_mustName_19 : decode cX10_mustName 19 = .ok (.ldc 124, 2) := by decide +kernel
theorem dX10_mustName_21 : decode cX10_mustName 21 = .ok (.invokevirtual 106, 3) := by decide +kernel
theorem dX10_mustName_24 : decode cX10_mustName 24 = .ok (.ifCond .ne 111, 3) := by decide +kernel
theorem dX10_mustName_27 : decode cX10_mustName 27 = .ok (.aload_n 0, 1) := by decide +kernel
theorem dX10_mustName_28 : decode cX10_mustName 28 = .ok (.ldc 126, 2) := by decide +kernel
theorem dX10_mustName_30 : decode cX10_mustName 30 = .ok (.invokevirtual 106, 3) := by decide +kernel
theorem dX10_mustName_33 : decode cX10_mustName 33 = .ok (.ifCond .ne 102, 3) := by decide +kernel
theorem dX10_mustName_36 : decode cX10_mustName 36 = .ok (.aload_n 0, 1) := by decide +kernel
theorem dX10_mustName_37 : decode cX10_mustName 37 = .ok (.ldc 128, 2) := by decide +kernel
theorem dX10_mustName_39 : decode cX10_mustName 39 = .ok (.invokevirtual 106, 3) := by decide +kernel
theorem dX10_mustName_42 : decode cX10_mustName 42 = .ok (.ifCond .ne 93, 3) := by decide +kernel
theorem dX10_mustName_45 : decode cX10_mustName 45 = .ok (.aload_n 0, 1) := by decide +kernel
theorem dX10_mustName_46 : decode cX10_mustName 46 = .ok (.ldc 130, 2) := by decide +kernel
theorem dX10_mustName_48 : decode cX10_mustName 48 = .ok (.invokevirtual 106, 3) := by decide +kernel
theorem dX10_mustName_51 : decode cX10_mustName 51 = .ok (.ifCond .ne 84, 3) := by decide +kernel
theorem dX10_mustName_54 : decode cX10_mustName 54 = .ok (.aload_n 0, 1) := by decide +kernel
theorem dX10_mustName_55 : decode cX10_mustName 55 = .ok (.ldc 132, 2) := by decide +kernel
theorem dX10_mustName_57 : decode cX10_mustName 57 = .ok (.invokevirtual 106, 3) := by decide +kernel
theorem dX10_mustName_60 : decode cX10_mustName 60 = .ok (.ifCond .ne 75, 3) := by decide +kernel
theorem dX10_mustName_63 : decode cX10_mustName 63 = .ok (.aload_n 0, 1) := by decide +kernel
theorem dX10_mustName_64 : decode cX10_mustName 64 = .ok (.ldc 134, 2) := by decide +kernel
theorem dX10_mustName_66 : decode cX10_mustName 66 = .ok (.invokevirtual 106, 3) := by decide +kernel
theorem dX10_mustName_69 : decode cX10_mustName 69 = .ok (.ifCond .ne 66, 3) := by decide +kernel
theorem dX10_mustName_72 : decode cX10_mustName 72 = .ok (.aload_n 0, 1) := by decide +kernel
theorem dX10_mustName_73 : decode cX10_mustName 73 = .ok (.ldc 136, 2) := by decide +kernel
theorem dX10_mustName_75 : decode cX10_mustName 75 = .ok (.invokevirtual 106, 3) := by decide +kernel
theorem dX10_mustName_78 : decode cX10_mustName 78 = .ok (.ifCond .ne 57, 3) := by decide +kernel
theorem dX10_mustName_81 : decode cX10_mustName 81 = .ok (.aload_n 0, 1) := by decide +kernel
theorem dX10_mustName_82 : decode cX10_mustName 82 = .ok (.ldc 138, 2) := by decide +kernel
theorem dX10_mustName_84 : decode cX10_mustName 84 = .ok (.invokevirtual 106, 3) := by decide +kernel
theorem dX10_mustName_87 : decode cX10_mustName 87 = .ok (.ifCond .ne 48, 3) := by decide +kernel
theorem dX10_mustName_90 : decode cX10_mustName 90 = .ok (.aload_n 0, 1) := by decide +kernel
theorem dX10_mustName_91 : decode cX10_mustName 91 = .ok (.ldc 140, 2) := by decide +kernel
theorem dX10_mustName_93 : decode cX10_mustName 93 = .ok (.invokevirtual 106, 3) := by decide +kernel
theorem dX10_mustName_96 : decode cX10_mustName 96 = .ok (.ifCond .ne 39, 3) := by decide +kernel
theorem dX10_mustName_99 : decode cX10_mustName 99 = .ok (.aload_n 0, 1) := by decide +kernel
theorem dX10_mustName_100 : decode cX10_mustName 100 = .ok (.ldc 142, 2) := by decide +kernel
theorem dX10_mustName_102 : decode cX10_mustName 102 = .ok (.invokevirtual 106, 3) := by decide +kernel
theorem dX10_mustName_105 : decode cX10_mustName 105 = .ok (.ifCond .ne 30, 3) := by decide +kernel
theorem dX10_mustName_108 : decode cX10_mustName 108 = .ok (.aload_n 0, 1) := by decide +kernel
theorem dX10_mustName_109 : decode cX10_mustName 109 = .ok (.ldc 144, 2) := by decide +kernel
theorem dX10_mustName_111 : decode cX10_mustName 111 = .ok (.invokevirtual 106, 3) := by decide +kernel
theorem dX10_mustName_114 : decode cX10_mustName 114 = .ok (.ifCond .ne 21, 3) := by decide +kernel
theorem dX10_mustName_117 : decode cX10_mustName 117 = .ok (.aload_n 0, 1) := by decide +kernel
theorem dX10_mustName_118 : decode cX10_mustName 118 = .ok (.ldc 146, 2) := by decide +kernel
theorem dX10_mustName_120 : decode cX10_mustName 120 = .ok (.invokevirtual 106, 3) := by decide +kernel
theorem dX10_mustName_123 : decode cX10_mustName 123 = .ok (.ifCond .ne 12, 3) := by decide +kernel
theorem dX10_mustName_126 : decode cX10_mustName 126 = .ok (.aload_n 0, 1) := by decide +kernel
theorem dX10_mustName_127 : decode cX10_mustName 127 = .ok (.ldc 148, 2) := by decide +kernel
theorem dX10_mustName_129 : decode cX10_mustName 129 = .ok (.invokevirtual 106, 3) := by decide +kernel
theorem dX10_mustName_132 : decode cX10_mustName 132 = .ok (.ifCond .eq 7, 3) := by decide +kernel
theorem dX10_mustName_135 : decode cX10_mustName 135 = .ok (.iconst 1, 1) := by decide +kernel
theorem dX10_mustName_136 : decode cX10_mustName 136 = .ok (.goto 4, 3) := by decide +kernel
theorem dX10_mustName_139 : decode cX10_mustName 139 = .ok (.iconst 0, 1) := by decide +kernel
theorem dX10_mustName_140 : decode cX10_mustName 140 = .ok (.istore_n 1, 1) := by decide +kernel
theorem dX10_mustName_141 : decode cX10_mustName 141 = .ok (.aload_n 0, 1) := by decide +kernel
theorem dX10_mustName_142 : decode cX10_mustName 142 = .ok (.getfield 79, 3) := by decide +kernel
theorem dX10_mustName_145 : decode cX10_mustName 145 = .ok (.iconst 2, 1) := by decide +kernel
theorem dX10_mustName_146 : decode cX10_mustName 146 = .ok (.if_icmp .ne 7, 3) := by decide +kernel
theorem dX10_mustName_149 : decode cX10_mustName 149 = .ok (.iload_n 1, 1) := by decide +kernel
theorem dX10_mustName_150 : decode cX10_mustName 150 = .ok (.ifCond .eq 12, 3) := by decide +kernel
theorem dX10_mustName_153 : decode cX10_mustName 153 = .ok (.aload_n 0, 1) := by decide +kernel
theorem dX10_mustName_154 : decode cX10_mustName 154 = .ok (.iconst 1, 1) := by decide +kernel
theorem dX10_mustName_155 : decode cX10_mustName 155 = .ok (.aload_n 0, 1) := by decide +kernel
theorem dX10_mustName_156 : decode cX10_mustName 156 = .ok (.getfield 70, 3) := by decide +kernel
theorem dX10_mustName_159 : decode cX10_mustName 159 = .ok (.invokevirtual 116, 3) := by decide +kernel
theorem dX10_mustName_162 : decode cX10_mustName 162 = .ok (.return_, 1) := by decide +kernel
theorem dX10_find_0 : decode cX10_find 0 = .ok (.iconst 0, 1) := by decide +kernel
theorem dX10_find_1 : decode cX10_find 1 = .ok (.istore_n 1, 1) := by decide +kernel
theorem dX10_find_2 : decode cX10_find 2 = .ok (.iload_n 1, 1) := by decide +kernel
theorem dX10_find_3 : decode cX10_find 3 = .ok (.bipush 20, 2) := by decide +kernel
theorem dX10_find_5 : decode cX10_find 5 = .ok (.if_icmp .ge 98, 3) := by decide +kernel
theorem dX10_find_8 : decode cX10_find 8 = .ok (.aload_n 0, 1) := by decide +kernel
theorem dX10_find_9 : decode cX10_find 9 = .ok (.getfield 23, 3) := by decide +kernel
theorem dX10_find_12 : decode cX10_find 12 = .ok (.bipush 99, 2) := by decide +kernel
theorem dX10_find_14 : decode cX10_find 14 = .ok (.iload_n 1, 1) := by decide +kernel
theorem dX10_find_15 : decode cX10_find 15 = .ok (.iadd, 1) := by decide +kernel
theorem dX10_find_16 : decode cX10_find 16 = .ok (.iaload, 1) := by decide +kernel
theorem dX10_find_17 : decode cX10_find 17 = .ok (.ifCond .le 23, 3) := by decide +kernel
theorem dX10_find_20 : decode cX10_find 20 = .ok (.aload_n 0, 1) := by decide +kernel
theorem dX10_find_21 : decode cX10_find 21 = .ok (.getfield 23, 3) := by decide +kernel
theorem dX10_find_24 : decode cX10_find 24 = .ok (.bipush 99, 2) := by decide +kernel
theorem dX10_find_26 : decode cX10_find 26 = .ok (.iload_n 1, 1) := by decide +kernel
theorem dX10_find_27 : decode cX10_find 27 = .ok (.iadd, 1) := by decide +kernel
theorem dX10_find_28 : decode cX10_find 28 = .ok (.iaload, 1) := by decide +kernel
theorem dX10_find_29 : decode cX10_find 29 = .ok (.aload_n 0, 1) := by decide +kernel
theorem dX10_find_30 : decode cX10_find 30 = .ok (.getfield 73, 3) := by decide +kernel
theorem dX10_find_33 : decode cX10_find 33 = .ok (.if_icmp .ne 7, 3) := by decide +kernel
theorem dX10_find_36 : decode cX10_find 36 = .ok (.iconst 1, 1) := by decide +kernel
theorem dX10_find_37 : decode cX10_find 37 = .ok (.goto 4, 3) := by decide +kernel
theorem dX10_find_40 : decode cX10_find 40 = .ok (.iconst 0, 1) := by decide +kernel
theorem dX10_find_41 : decode cX10_find 41 = .ok (.istore_n 2, 1) := by decide +kernel
theorem dX10_find_42 : decode cX10_find 42 = .ok (.iconst 0, 1) := by decide +kernel
theorem dX10_find_43 : decode cX10_find 43 = .ok (.istore_n 3, 1) := by decide +kernel
theorem dX10_find_44 : decode cX10_find 44 = .ok (.iload_n 3, 1) := by decide +kernel
theorem dX10_find_45 : decode cX10_find 45 = .ok (.aload_n 0, 1) := by decide +kernel
theorem dX10_find_46 : decode cX10_find 46 = .ok (.getfield 73, 3) := by decide +kernel
theorem dX10_find_49 : decode cX10_find 49 = .ok (.if_icmp .ge 42, 3) := by decide +kernel
theorem dX10_find_52 : decode cX10_find 52 = .ok (.iload_n 2, 1) := by decide +kernel
theorem dX10_find_53 : decode cX10_find 53 = .ok (.ifCond .eq 38, 3) := by decide +kernel
theorem dX10_find_56 : decode cX10_find 56 = .ok (.aload_n 0, 1) := by decide +kernel
theorem dX10_find_57 : decode cX10_find 57 = .ok (.getfield 23, 3) := by decide +kernel
theorem dX10_find_60 : decode cX10_find 60 = .ok (.bipush 119, 2) := by decide +kernel
theorem dX10_find_62 : decode cX10_find 62 = .ok (.bipush 8, 2) := by decide +kernel
theorem dX10_find_64 : decode cX10_find 64 = .ok (.iload_n 1, 1) := by decide +kernel
theorem dX10_find_65 : decode cX10_find 65 = .ok (.imul, 1) := by decide +kernel
theorem dX10_find_66 : decode cX10_find 66 = .ok (.iadd, 1) := by decide +kernel
theorem dX10_find_67 : decode cX10_find 67 = .ok (.iload_n 3, 1) := by decide +kernel
theorem dX10_find_68 : decode cX10_find 68 = .ok (.iadd, 1) := by decide +kernel
theorem dX10_find_69 : decode cX10_find 69 = .ok (.iaload, 1) := by decide +kernel
theorem dX10_find_70 : decode cX10_find 70 = .ok (.aload_n 0, 1) := by decide +kernel
theorem dX10_find_71 : decode cX10_find 71 = .ok (.getfield 17, 3) := by decide +kernel
theorem dX10_find_74 : decode cX10_find 74 = .ok (.iload_n 3, 1) := by decide +kernel
theorem dX10_find_75 : decode cX10_find 75 = .ok (.iaload, 1) := by decide +kernel
theorem dX10_find_76 : decode cX10_find 76 = .ok (.if_icmp .ne 7, 3) := by decide +kernel
theorem dX10_find_79 : decode cX10_find 79 = .ok (.iconst 1, 1) := by decide +kernel
theorem dX10_find_80 : decode cX10_find 80 = .ok (.goto 4, 3) := by decide +kernel
theorem dX10_find_83 : decode cX10_find 83 = .ok (.iconst 0, 1) := by decide +kernel
theorem dX10_find_84 : decode cX10_find 84 = .ok (.istore_n 2, 1) := by decide +kernel
theorem dX10_find_85 : decode cX10_find 85 = .ok (.iinc 3 1, 3) := by decide +kernel
theorem dX10_find_88 : decode cX10_find 88 = .ok (.goto (-44), 3) := by decide +kernel
theorem dX10_find_91 : decode cX10_find 91 = .ok (.iload_n 2, 1) := by decide +kernel
theorem dX10_find_92 : decode cX10_find 92 = .ok (.ifCond .eq 5, 3) := by decide +kernel
theorem dX10_find_95 : decode cX10_find 95 = .ok (.iload_n 1, 1) := by decide +kernel
theorem dX10_find_96 : decode cX10_find 96 = .ok (.ireturn, 1) := by decide +kernel
theorem dX10_find_97 : decode cX10_find 97 = .ok (.iinc 1 1, 3) := by decide +kernel
theorem dX10_find_100 : decode cX10_find 100 = .ok (.goto (-98), 3) := by decide +kernel
theorem dX10_find_103 : decode cX10_find 103 = .ok (.iconst (-1), 1) := by decide +kernel
theorem dX10_find_104 : decode cX10_find 104 = .ok (.ireturn, 1) := by decide +kernel
theorem dX10_newName_0 : decode cX10_newName 0 = .ok (.aload_n 0, 1) := by decide +kernel
theorem dX10_newName_1 : decode cX10_newName 1 = .ok (.getfield 89, 3) := by decide +kernel
theorem dX10_newName_4 : decode cX10_newName 4 = .ok (.ifCond .eq 4, 3) := by decide +kernel
theorem dX10_newName_7 : decode cX10_newName 7 = .ok (.return_, 1) := by decide +kernel
theorem dX10_newName_8 : decode cX10_newName 8 = .ok (.aload_n 0, 1) := by decide +kernel
theorem dX10_newName_9 : decode cX10_newName 9 = .ok (.invokevirtual 150, 3) := by decide +kernel
theorem dX10_newName_12 : decode cX10_newName 12 = .ok (.aload_n 0, 1) := by decide +kernel
theorem dX10_newName_13 : decode cX10_newName 13 = .ok (.getfield 89, 3) := by decide +kernel
theorem dX10_newName_16 : decode cX10_newName 16 = .ok (.ifCond .ne 19, 3) := by decide +kernel
theorem dX10_newName_19 : decode cX10_newName 19 = .ok (.aload_n 0, 1) := by decide +kernel
theorem dX10_newName_20 : decode cX10_newName 20 = .ok (.invokevirtual 153, 3) := by decide +kernel
theorem dX10_newName_23 : decode cX10_newName 23 = .ok (.ifCond .lt 12, 3) := by decide +kernel
theorem dX10_newName_26 : decode cX10_newName 26 = .ok (.aload_n 0, 1) := by decide +kernel
theorem dX10_newName_27 : decode cX10_newName 27 = .ok (.iconst 3, 1) := by decide +kernel
theorem dX10_newName_28 : decode cX10_newName 28 = .ok (.aload_n 0, 1) := by decide +kernel
theorem dX10_newName_29 : decode cX10_newName 29 = .ok (.getfield 70, 3) := by decide +kernel
theorem dX10_newName_32 : decode cX10_newName 32 = .ok (.invokevirtual 116, 3) := by decide +kernel
theorem dX10_newName_35 : decode cX10_newName 35 = .ok (.aload_n 0, 1) := by decide +kernel
theorem dX10_newName_36 : decode cX10_newName 36 = .ok (.getfield 89, 3) := by decide +kernel
theorem dX10_newName_39 : decode cX10_newName 39 = .ok (.ifCond .eq 4, 3) := by decide +kernel
theorem dX10_newName_42 : decode cX10_newName 42 = .ok (.return_, 1) := by decide +kernel
theorem dX10_newName_43 : decode cX10_newName 43 = .ok (.iconst 0, 1) := by decide +kernel
theorem dX10_newName_44 : decode cX10_newName 44 = .ok (.istore_n 2, 1) := by decide +kernel
theorem dX10_newName_45 : decode cX10_newName 45 = .ok (.iload_n 2, 1) := by decide +kernel
theorem dX10_newName_46 : decode cX10_newName 46 = .ok (.aload_n 0, 1) := by decide +kernel
theorem dX10_newName_47 : decode cX10_newName 47 = .ok (.getfield 73, 3) := by decide +kernel
theorem dX10_newName_50 : decode cX10_newName 50 = .ok (.if_icmp .ge 29, 3) := by decide +kernel
theorem dX10_newName_53 : decode cX10_newName 53 = .ok (.aload_n 0, 1) := by decide +kernel
theorem dX10_newName_54 : decode cX10_newName 54 = .ok (.getfield 23, 3) := by decide +kernel
theorem dX10_newName_57 : decode cX10_newName 57 = .ok (.bipush 119, 2) := by decide +kernel
theorem dX10_newName_59 : decode cX10_newName 59 = .ok (.bipush 8, 2) := by decide +kernel
theorem dX10_newName_61 : decode cX10_newName 61 = .ok (.iload_n 1, 1) := by decide +kernel
theorem dX10_newName_62 : decode cX10_newName 62 = .ok (.imul, 1) := by decide +kernel
theorem dX10_newName_63 : decode cX10_newName 63 = .ok (.iadd, 1) := by decide +kernel
theorem dX10_newName_64 : decode cX10_newName 64 = .ok (.iload_n 2, 1) := by decide +kernel
theorem dX10_newName_65 : decode cX10_newName 65 = .ok (.iadd, 1) := by decide +kernel
theorem dX10_newName_66 : decode cX10_newName 66 = .ok (.aload_n 0, 1) := by decide +kernel
theorem dX10_newName_67 : decode cX10_newName 67 = .ok (.getfield 17, 3) := by decide +kernel
theorem dX10_newName_70 : decode cX10_newName 70 = .ok (.iload_n 2, 1) := by decide +kernel
theorem dX10_newName_71 : decode cX10_newName 71 = .ok (.iaload, 1) := by decide +kernel
theorem dX10_newName_72 : decode cX10_newName 72 = .ok (.iastore, 1) := by decide +kernel
theorem dX10_newName_73 : decode cX10_newName 73 = .ok (.iinc 2 1, 3) := by decide +kernel
theorem dX10_newName_76 : decode cX10_newName 76 = .ok (.goto (-31), 3) := by decide +kernel
theorem dX10_newName_79 : decode cX10_newName 79 = .ok (.aload_n 0, 1) := by decide +kernel
theorem dX10_newName_80 : decode cX10_newName 80 = .ok (.getfield 23, 3) := by decide +kernel
theorem dX10_newName_83 : decode cX10_newName 83 = .ok (.bipush 99, 2) := by decide +kernel
theorem dX10_newName_85 : decode cX10_newName 85 = .ok (.iload_n 1, 1) := by decide +kernel
theorem dX10_newName_86 : decode cX10_newName 86 = .ok (.iadd, 1) := by decide +kernel
theorem dX10_newName_87 : decode cX10_newName 87 = .ok (.aload_n 0, 1) := by decide +kernel
theorem dX10_newName_88 : decode cX10_newName 88 = .ok (.getfield 73, 3) := by decide +kernel
theorem dX10_newName_91 : decode cX10_newName 91 = .ok (.iastore, 1) := by decide +kernel
theorem dX10_newName_92 : decode cX10_newName 92 = .ok (.aload_n 0, 1) := by decide +kernel
theorem dX10_newName_93 : decode cX10_newName 93 = .ok (.invokevirtual 110, 3) := by decide +kernel
theorem dX10_newName_96 : decode cX10_newName 96 = .ok (.return_, 1) := by decide +kernel
theorem dX10_named_0 : decode cX10_named 0 = .ok (.aload_n 0, 1) := by decide +kernel
theorem dX10_named_1 : decode cX10_named 1 = .ok (.getfield 89, 3) := by decide +kernel
theorem dX10_named_4 : decode cX10_named 4 = .ok (.ifCond .eq 5, 3) := by decide +kernel
theorem dX10_named_7 : decode cX10_named 7 = .ok (.iconst 0, 1) := by decide +kernel
theorem dX10_named_8 : decode cX10_named 8 = .ok (.ireturn, 1) := by decide +kernel
theorem dX10_named_9 : decode cX10_named 9 = .ok (.aload_n 0, 1) := by decide +kernel
theorem dX10_named_10 : decode cX10_named 10 = .ok (.invokevirtual 150, 3) := by decide +kernel
theorem dX10_named_13 : decode cX10_named 13 = .ok (.aload_n 0, 1) := by decide +kernel
theorem dX10_named_14 : decode cX10_named 14 = .ok (.getfield 89, 3) := by decide +kernel
theorem dX10_named_17 : decode cX10_named 17 = .ok (.ifCond .eq 5, 3) := by decide +kernel
theorem dX10_named_20 : decode cX10_named 20 = .ok (.iconst 0, 1) := by decide +kernel
theorem dX10_named_21 : decode cX10_named 21 = .ok (.ireturn, 1) := by decide +kernel
theorem dX10_named_22 : decode cX10_named 22 = .ok (.aload_n 0, 1) := by decide +kernel
theorem dX10_named_23 : decode cX10_named 23 = .ok (.invokevirtual 153, 3) := by decide +kernel
theorem dX10_named_26 : decode cX10_named 26 = .ok (.istore_n 3, 1) := by decide +kernel
theorem dX10_named_27 : decode cX10_named 27 = .ok (.iload_n 3, 1) := by decide +kernel
theorem dX10_named_28 : decode cX10_named 28 = .ok (.iload_n 1, 1) := by decide +kernel
theorem dX10_named_29 : decode cX10_named 29 = .ok (.iload_n 2, 1) := by decide +kernel
theorem dX10_named_30 : decode cX10_named 30 = .ok (.invokestatic 156, 3) := by decide +kernel
theorem dX10_named_33 : decode cX10_named 33 = .ok (.ifCond .ne 12, 3) := by decide +kernel
theorem dX10_named_36 : decode cX10_named 36 = .ok (.aload_n 0, 1) := by decide +kernel
theorem dX10_named_37 : decode cX10_named 37 = .ok (.iconst 2, 1) := by decide +kernel
theorem dX10_named_38 : decode cX10_named 38 = .ok (.aload_n 0, 1) := by decide +kernel
theorem dX10_named_39 : decode cX10_named 39 = .ok (.getfield 70, 3) := by decide +kernel
theorem dX10_named_42 : decode cX10_named 42 = .ok (.invokevirtual 116, 3) := by decide +kernel
theorem dX10_named_45 : decode cX10_named 45 = .ok (.aload_n 0, 1) := by decide +kernel
theorem dX10_named_46 : decode cX10_named 46 = .ok (.getfield 89, 3) := by decide +kernel
theorem dX10_named_49 : decode cX10_named 49 = .ok (.ifCond .eq 7, 3) := by decide +kernel
theorem dX10_named_52 : decode cX10_named 52 = .ok (.iconst 0, 1) := by decide +kernel
theorem dX10_named_53 : decode cX10_named 53 = .ok (.goto 6, 3) := by decide +kernel
theorem dX10_named_56 : decode cX10_named 56 = .ok (.iload_n 3, 1) := by decide +kernel
theorem dX10_named_57 : decode cX10_named 57 = .ok (.iload_n 1, 1) := by decide +kernel
theorem dX10_named_58 : decode cX10_named 58 = .ok (.isub, 1) := by decide +kernel
theorem dX10_named_59 : decode cX10_named 59 = .ok (.ireturn, 1) := by decide +kernel
theorem dX10_housePassed_0 : decode cX10_housePassed 0 = .ok (.aload_n 0, 1) := by decide +kernel
theorem dX10_housePassed_1 : decode cX10_housePassed 1 = .ok (.bipush 6, 2) := by decide +kernel
theorem dX10_housePassed_3 : decode cX10_housePassed 3 = .ok (.bipush 11, 2) := by decide +kernel
theorem dX10_housePassed_5 : decode cX10_housePassed 5 = .ok (.invokevirtual 160, 3) := by decide +kernel
theorem dX10_housePassed_8 : decode cX10_housePassed 8 = .ok (.istore_n 1, 1) := by decide +kernel
theorem dX10_housePassed_9 : decode cX10_housePassed 9 = .ok (.aload_n 0, 1) := by decide +kernel
theorem dX10_housePassed_10 : decode cX10_housePassed 10 = .ok (.getfield 89, 3) := by decide +kernel
theorem dX10_housePassed_13 : decode cX10_housePassed 13 = .ok (.ifCond .ne 7, 3) := by decide +kernel
theorem dX10_housePassed_16 : decode cX10_housePassed 16 = .ok (.aload_n 0, 1) := by decide +kernel
theorem dX10_housePassed_17 : decode cX10_housePassed 17 = .ok (.invokevirtual 110, 3) := by decide +kernel
theorem dX10_housePassed_20 : decode cX10_housePassed 20 = .ok (.iload_n 1, 1) := by decide +kernel
theorem dX10_housePassed_21 : decode cX10_housePassed 21 = .ok (.ireturn, 1) := by decide +kernel
theorem dX10_numberHere_0 : decode cX10_numberHere 0 = .ok (.aload_n 0, 1) := by decide +kernel
theorem dX10_numberHere_1 : decode cX10_numberHere 1 = .ok (.getfield 89, 3) := by decide +kernel
theorem dX10_numberHere_4 : decode cX10_numberHere 4 = .ok (.ifCond .eq 5, 3) := by decide +kernel
theorem dX10_numberHere_7 : decode cX10_numberHere 7 = .ok (.iload_n 1, 1) := by decide +kernel
theorem dX10_numberHere_8 : decode cX10_numberHere 8 = .ok (.ireturn, 1) := by decide +kernel
theorem dX10_numberHere_9 : decode cX10_numberHere 9 = .ok (.aload_n 0, 1) := by decide +kernel
theorem dX10_numberHere_10 : decode cX10_numberHere 10 = .ok (.getfield 79, 3) := by decide +kernel
theorem dX10_numberHere_13 : decode cX10_numberHere 13 = .ok (.iconst 3, 1) := by decide +kernel
theorem dX10_numberHere_14 : decode cX10_numberHere 14 = .ok (.if_icmp .eq 15, 3) := by decide +kernel
theorem dX10_numberHere_17 : decode cX10_numberHere 17 = .ok (.aload_n 0, 1) := by decide +kernel
theorem dX10_numberHere_18 : decode cX10_numberHere 18 = .ok (.iconst 1, 1) := by decide +kernel
theorem dX10_numberHere_19 : decode cX10_numberHere 19 = .ok (.aload_n 0, 1) := by decide +kernel
theorem dX10_numberHere_20 : decode cX10_numberHere 20 = .ok (.getfield 70, 3) := by decide +kernel
theorem dX10_numberHere_23 : decode cX10_numberHere 23 = .ok (.invokevirtual 116, 3) := by decide +kernel
theorem dX10_numberHere_26 : decode cX10_numberHere 26 = .ok (.goto 24, 3) := by decide +kernel
theorem dX10_numberHere_29 : decode cX10_numberHere 29 = .ok (.aload_n 0, 1) := by decide +kernel
theorem dX10_numberHere_30 : decode cX10_numberHere 30 = .ok (.getfield 76, 3) := by decide +kernel
theorem dX10_numberHere_33 : decode cX10_numberHere 33 = .ok (.iload_n 1, 1) := by decide +kernel
theorem dX10_numberHere_34 : decode cX10_numberHere 34 = .ok (.iload_n 2, 1) := by decide +kernel
theorem dX10_numberHere_35 : decode cX10_numberHere 35 = .ok (.invokestatic 156, 3) := by decide +kernel
theorem dX10_numberHere_38 : decode cX10_numberHere 38 = .ok (.ifCond .ne 12, 3) := by decide +kernel
theorem dX10_numberHere_41 : decode cX10_numberHere 41 = .ok (.aload_n 0, 1) := by decide +kernel
theorem dX10_numberHere_42 : decode cX10_numberHere 42 = .ok (.iconst 4, 1) := by decide +kernel
theorem dX10_numberHere_43 : decode cX10_numberHere 43 = .ok (.aload_n 0, 1) := by decide +kernel
theorem dX10_numberHere_44 : decode cX10_numberHere 44 = .ok (.getfield 70, 3) := by decide +kernel
theorem dX10_numberHere_47 : decode cX10_numberHere 47 = .ok (.invokevirtual 116, 3) := by decide +kernel
theorem dX10_numberHere_50 : decode cX10_numberHere 50 = .ok (.aload_n 0, 1) := by decide +kernel
theorem dX10_numberHere_51 : decode cX10_numberHere 51 = .ok (.getfield 89, 3) := by decide +kernel
theorem dX10_numberHere_54 : decode cX10_numberHere 54 = .ok (.ifCond .eq 7, 3) := by decide +kernel
theorem dX10_numberHere_57 : decode cX10_numberHere 57 = .ok (.iload_n 1, 1) := by decide +kernel
theorem dX10_numberHere_58 : decode cX10_numberHere 58 = .ok (.goto 7, 3) := by decide +kernel
theorem dX10_numberHere_61 : decode cX10_numberHere 61 = .ok (.aload_n 0, 1) := by decide +kernel
theorem dX10_numberHere_62 : decode cX10_numberHere 62 = .ok (.getfield 76, 3) := by decide +kernel
theorem dX10_numberHere_65 : decode cX10_numberHere 65 = .ok (.ireturn, 1) := by decide +kernel
theorem dX10_number_0 : decode cX10_number 0 = .ok (.aload_n 0, 1) := by decide +kernel
theorem dX10_number_1 : decode cX10_number 1 = .ok (.iload_n 1, 1) := by decide +kernel
theorem dX10_number_2 : decode cX10_number 2 = .ok (.iload_n 2, 1) := by decide +kernel
theorem dX10_number_3 : decode cX10_number 3 = .ok (.invokevirtual 164, 3) := by decide +kernel
theorem dX10_number_6 : decode cX10_number 6 = .ok (.istore_n 3, 1) := by decide +kernel
theorem dX10_number_7 : decode cX10_number 7 = .ok (.aload_n 0, 1) := by decide +kernel
theorem dX10_number_8 : decode cX10_number 8 = .ok (.getfield 89, 3) := by decide +kernel
theorem dX10_number_11 : decode cX10_number 11 = .ok (.ifCond .ne 7, 3) := by decide +kernel
theorem dX10_number_14 : decode cX10_number 14 = .ok (.aload_n 0, 1) := by decide +kernel
theorem dX10_number_15 : decode cX10_number 15 = .ok (.invokevirtual 110, 3) := by decide +kernel
theorem dX10_number_18 : decode cX10_number 18 = .ok (.iload_n 3, 1) := by decide +kernel
theorem dX10_number_19 : decode cX10_number 19 = .ok (.ireturn, 1) := by decide +kernel
theorem dX10_after_0 : decode cX10_after 0 = .ok (.aload_n 0, 1) := by decide +kernel
theorem dX10_after_1 : decode cX10_after 1 = .ok (.aload_n 1, 1) := by decide +kernel
theorem dX10_after_2 : decode cX10_after 2 = .ok (.invokevirtual 167, 3) := by decide +kernel
theorem dX10_after_5 : decode cX10_after 5 = .ok (.aload_n 0, 1) := by decide +kernel
theorem dX10_after_6 : decode cX10_after 6 = .ok (.iload_n 2, 1) := by decide +kernel
theorem dX10_after_7 : decode cX10_after 7 = .ok (.iload_n 3, 1) := by decide +kernel
theorem dX10_after_8 : decode cX10_after 8 = .ok (.invokevirtual 171, 3) := by decide +kernel
theorem dX10_after_11 : decode cX10_after 11 = .ok (.ireturn, 1) := by decide +kernel
theorem dX10_worldsOf_0 : decode cX10_worldsOf 0 = .ok (.lconst 0, 1) := by decide +kernel
theorem dX10_worldsOf_1 : decode cX10_worldsOf 1 = .ok (.lstore_n 1, 1) := by decide +kernel
theorem dX10_worldsOf_2 : decode cX10_worldsOf 2 = .ok (.iconst 0, 1) := by decide +kernel
theorem dX10_worldsOf_3 : decode cX10_worldsOf 3 = .ok (.istore_n 3, 1) := by decide +kernel
theorem dX10_worldsOf_4 : decode cX10_worldsOf 4 = .ok (.iload_n 3, 1) := by decide +kernel
theorem dX10_worldsOf_5 : decode cX10_worldsOf 5 = .ok (.bipush 64, 2) := by decide +kernel
theorem dX10_worldsOf_7 : decode cX10_worldsOf 7 = .ok (.if_icmp .ge 28, 3) := by decide +kernel
theorem dX10_worldsOf_10 : decode cX10_worldsOf 10 = .ok (.lload_n 1, 1) := by decide +kernel
theorem dX10_worldsOf_11 : decode cX10_worldsOf 11 = .ok (.iload_n 3, 1) := by decide +kernel
theorem dX10_worldsOf_12 : decode cX10_worldsOf 12 = .ok (.iload_n 0, 1) := by decide +kernel
theorem dX10_worldsOf_13 : decode cX10_worldsOf 13 = .ok (.ishr, 1) := by decide +kernel
theorem dX10_worldsOf_14 : decode cX10_worldsOf 14 = .ok (.iconst 1, 1) := by decide +kernel
theorem dX10_worldsOf_15 : decode cX10_worldsOf 15 = .ok (.iand, 1) := by decide +kernel
theorem dX10_worldsOf_16 : decode cX10_worldsOf 16 = .ok (.iconst 1, 1) := by decide +kernel
theorem dX10_worldsOf_17 : decode cX10_worldsOf 17 = .ok (.if_icmp .ne 9, 3) := by decide +kernel
theorem dX10_worldsOf_20 : decode cX10_worldsOf 20 = .ok (.lconst 1, 1) := by decide +kernel
theorem dX10_worldsOf_21 : decode cX10_worldsOf 21 = .ok (.iload_n 3, 1) := by decide +kernel
theorem dX10_worldsOf_22 : decode cX10_worldsOf 22 = .ok (.lshl, 1) := by decide +kernel
theorem dX10_worldsOf_23 : decode cX10_worldsOf 23 = .ok (.goto 4, 3) := by decide +kernel
theorem dX10_worldsOf_26 : decode cX10_worldsOf 26 = .ok (.lconst 0, 1) := by decide +kernel
theorem dX10_worldsOf_27 : decode cX10_worldsOf 27 = .ok (.lor, 1) := by decide +kernel
theorem dX10_worldsOf_28 : decode cX10_worldsOf 28 = .ok (.lstore_n 1, 1) := by decide +kernel
theorem dX10_worldsOf_29 : decode cX10_worldsOf 29 = .ok (.iinc 3 1, 3) := by decide +kernel
theorem dX10_worldsOf_32 : decode cX10_worldsOf 32 = .ok (.goto (-28), 3) := by decide +kernel
theorem dX10_worldsOf_35 : decode cX10_worldsOf 35 = .ok (.lload_n 1, 1) := by decide +kernel
theorem dX10_worldsOf_36 : decode cX10_worldsOf 36 = .ok (.lreturn, 1) := by decide +kernel
theorem dX10_formula_0 : decode cX10_formula 0 = .ok (.aload_n 0, 1) := by decide +kernel
theorem dX10_formula_1 : decode cX10_formula 1 = .ok (.invokevirtual 174, 3) := by decide +kernel
theorem dX10_formula_4 : decode cX10_formula 4 = .ok (.lstore_n 1, 1) := by decide +kernel
theorem dX10_formula_5 : decode cX10_formula 5 = .ok (.aload_n 0, 1) := by decide +kernel
theorem dX10_formula_6 : decode cX10_formula 6 = .ok (.ldc 148, 2) := by decide +kernel
theorem dX10_formula_8 : decode cX10_formula 8 = .ok (.invokevirtual 113, 3) := by decide +kernel
theorem dX10_formula_11 : decode cX10_formula 11 = .ok (.ifCond .eq 13, 3) := by decide +kernel
theorem dX10_formula_14 : decode cX10_formula 14 = .ok (.lload_n 1, 1) := by decide +kernel
theorem dX10_formula_15 : decode cX10_formula 15 = .ok (.aload_n 0, 1) := by decide +kernel
theorem dX10_formula_16 : decode cX10_formula 16 = .ok (.invokevirtual 174, 3) := by decide +kernel
theorem dX10_formula_19 : decode cX10_formula 19 = .ok (.lor, 1) := by decide +kernel
theorem dX10_formula_20 : decode cX10_formula 20 = .ok (.lstore_n 1, 1) := by decide +kernel
theorem dX10_formula_21 : decode cX10_formula 21 = .ok (.goto (-16), 3) := by decide +kernel
theorem dX10_formula_24 : decode cX10_formula 24 = .ok (.lload_n 1, 1) := by decide +kernel
theorem dX10_formula_25 : decode cX10_formula 25 = .ok (.lreturn, 1) := by decide +kernel
theorem dX10_term_0 : decode cX10_term 0 = .ok (.aload_n 0, 1) := by decide +kernel
theorem dX10_term_1 : decode cX10_term 1 = .ok (.invokevirtual 178, 3) := by decide +kernel
theorem dX10_term_4 : decode cX10_term 4 = .ok (.lstore_n 1, 1) := by decide +kernel
theorem dX10_term_5 : decode cX10_term 5 = .ok (.aload_n 0, 1) := by decide +kernel
theorem dX10_term_6 : decode cX10_term 6 = .ok (.ldc 146, 2) := by decide +kernel
theorem dX10_term_8 : decode cX10_term 8 = .ok (.invokevirtual 113, 3) := by decide +kernel
theorem dX10_term_11 : decode cX10_term 11 = .ok (.ifCond .eq 13, 3) := by decide +kernel
theorem dX10_term_14 : decode cX10_term 14 = .ok (.lload_n 1, 1) := by decide +kernel
theorem dX10_term_15 : decode cX10_term 15 = .ok (.aload_n 0, 1) := by decide +kernel
theorem dX10_term_16 : decode cX10_term 16 = .ok (.invokevirtual 178, 3) := by decide +kernel
theorem dX10_term_19 : decode cX10_term 19 = .ok (.land, 1) := by decide +kernel
theorem dX10_term_20 : decode cX10_term 20 = .ok (.lstore_n 1, 1) := by decide +kernel
theorem dX10_term_21 : decode cX10_term 21 = .ok (.goto (-16), 3) := by decide +kernel
theorem dX10_term_24 : decode cX10_term 24 = .ok (.lload_n 1, 1) := by decide +kernel
theorem dX10_term_25 : decode cX10_term 25 = .ok (.lreturn, 1) := by decide +kernel
theorem dX10_factor_0 : decode cX10_factor 0 = .ok (.aload_n 0, 1) := by decide +kernel
theorem dX10_factor_1 : decode cX10_factor 1 = .ok (.getfield 89, 3) := by decide +kernel
theorem dX10_factor_4 : decode cX10_factor 4 = .ok (.ifCond .eq 5, 3) := by decide +kernel
theorem dX10_factor_7 : decode cX10_factor 7 = .ok (.lconst 0, 1) := by decide +kernel
theorem dX10_factor_8 : decode cX10_factor 8 = .ok (.lreturn, 1) := by decide +kernel
theorem dX10_factor_9 : decode cX10_factor 9 = .ok (.aload_n 0, 1) := by decide +kernel
theorem dX10_factor_10 : decode cX10_factor 10 = .ok (.ldc 144, 2) := by decide +kernel
theorem dX10_factor_12 : decode cX10_factor 12 = .ok (.invokevirtual 113, 3) := by decide +kernel
theorem dX10_factor_15 : decode cX10_factor 15 = .ok (.ifCond .eq 12, 3) := by decide +kernel
theorem dX10_factor_18 : decode cX10_factor 18 = .ok (.aload_n 0, 1) := by decide +kernel
theorem dX10_factor_19 : decode cX10_factor 19 = .ok (.invokevirtual 178, 3) := by decide +kernel
theorem dX10_factor_22 : decode cX10_factor 22 = .ok (.ldc2_w 181, 3) := by decide +kernel
theorem dX10_factor_25 : decode cX10_factor 25 = .ok (.lxor, 1) := by decide +kernel
theorem dX10_factor_26 : decode cX10_factor 26 = .ok (.lreturn, 1) := by decide +kernel
theorem dX10_factor_27 : decode cX10_factor 27 = .ok (.aload_n 0, 1) := by decide +kernel
theorem dX10_factor_28 : decode cX10_factor 28 = .ok (.getfield 79, 3) := by decide +kernel
theorem dX10_factor_31 : decode cX10_factor 31 = .ok (.bipush 40, 2) := by decide +kernel
theorem dX10_factor_33 : decode cX10_factor 33 = .ok (.if_icmp .ne 86, 3) := by decide +kernel
theorem dX10_factor_36 : decode cX10_factor 36 = .ok (.aload_n 0, 1) := by decide +kernel
theorem dX10_factor_37 : decode cX10_factor 37 = .ok (.getfield 183, 3) := by decide +kernel
theorem dX10_factor_40 : decode cX10_factor 40 = .ok (.bipush 8, 2) := by decide +kernel
theorem dX10_factor_42 : decode cX10_factor 42 = .ok (.if_icmp .ne 12, 3) := by decide +kernel
theorem dX10_factor_45 : decode cX10_factor 45 = .ok (.aload_n 0, 1) := by decide +kernel
theorem dX10_factor_46 : decode cX10_factor 46 = .ok (.iconst 5, 1) := by decide +kernel
theorem dX10_factor_47 : decode cX10_factor 47 = .ok (.aload_n 0, 1) := by decide +kernel
theorem dX10_factor_48 : decode cX10_factor 48 = .ok (.getfield 70, 3) := by decide +kernel
theorem dX10_factor_51 : decode cX10_factor 51 = .ok (.invokevirtual 116, 3) := by decide +kernel
theorem dX10_factor_54 : decode cX10_factor 54 = .ok (.aload_n 0, 1) := by decide +kernel
theorem dX10_factor_55 : decode cX10_factor 55 = .ok (.getfield 89, 3) := by decide +kernel
theorem dX10_factor_58 : decode cX10_factor 58 = .ok (.ifCond .eq 5, 3) := by decide +kernel
theorem dX10_factor_61 : decode cX10_factor 61 = .ok (.lconst 0, 1) := by decide +kernel
theorem dX10_factor_62 : decode cX10_factor 62 = .ok (.lreturn, 1) := by decide +kernel
theorem dX10_factor_63 : decode cX10_factor 63 = .ok (.aload_n 0, 1) := by decide +kernel
theorem dX10_factor_64 : decode cX10_factor 64 = .ok (.invokevirtual 110, 3) := by decide +kernel
theorem dX10_factor_67 : decode cX10_factor 67 = .ok (.aload_n 0, 1) := by decide +kernel
theorem dX10_factor_68 : decode cX10_factor 68 = .ok (.dup, 1) := by decide +kernel
theorem dX10_factor_69 : decode cX10_factor 69 = .ok (.getfield 183, 3) := by decide +kernel
theorem dX10_factor_72 : decode cX10_factor 72 = .ok (.iconst 1, 1) := by decide +kernel
theorem dX10_factor_73 : decode cX10_factor 73 = .ok (.iadd, 1) := by decide +kernel
theorem dX10_factor_74 : decode cX10_factor 74 = .ok (.putfield 183, 3) := by decide +kernel
theorem dX10_factor_77 : decode cX10_factor 77 = .ok (.aload_n 0, 1) := by decide +kernel
theorem dX10_factor_78 : decode cX10_factor 78 = .ok (.invokevirtual 186, 3) := by decide +kernel
theorem dX10_factor_81 : decode cX10_factor 81 = .ok (.lstore_n 1, 1) := by decide +kernel
theorem dX10_factor_82 : decode cX10_factor 82 = .ok (.aload_n 0, 1) := by decide +kernel
theorem dX10_factor_83 : decode cX10_factor 83 = .ok (.getfield 89, 3) := by decide +kernel
theorem dX10_factor_86 : decode cX10_factor 86 = .ok (.ifCond .ne 21, 3) := by decide +kernel
theorem dX10_factor_89 : decode cX10_factor 89 = .ok (.aload_n 0, 1) := by decide +kernel
theorem dX10_factor_90 : decode cX10_factor 90 = .ok (.bipush 41, 2) := by decide +kernel
theorem dX10_factor_92 : decode cX10_factor 92 = .ok (.invokevirtual 189, 3) := by decide +kernel
theorem dX10_factor_95 : decode cX10_factor 95 = .ok (.ifCond .ne 12, 3) := by decide +kernel
theorem dX10_factor_98 : decode cX10_factor 98 = .ok (.aload_n 0, 1) := by decide +kernel
theorem dX10_factor_99 : decode cX10_factor 99 = .ok (.iconst 1, 1) := by decide +kernel
theorem dX10_factor_100 : decode cX10_factor 100 = .ok (.aload_n 0, 1) := by decide +kernel
theorem dX10_factor_101 : decode cX10_factor 101 = .ok (.getfield 70, 3) := by decide +kernel
theorem dX10_factor_104 : decode cX10_factor 104 = .ok (.invokevirtual 116, 3) := by decide +kernel
theorem dX10_factor_107 : decode cX10_factor 107 = .ok (.aload_n 0, 1) := by decide +kernel
theorem dX10_factor_108 : decode cX10_factor 108 = .ok (.dup, 1) := by decide +kernel
theorem dX10_factor_109 : decode cX10_factor 109 = .ok (.getfield 183, 3) := by decide +kernel
theorem dX10_factor_112 : decode cX10_factor 112 = .ok (.iconst 1, 1) := by decide +kernel
theorem dX10_factor_113 : decode cX10_factor 113 = .ok (.isub, 1) := by decide +kernel
theorem dX10_factor_114 : decode cX10_factor 114 = .ok (.putfield 183, 3) := by decide +kernel
theorem dX10_factor_117 : decode cX10_factor 117 = .ok (.lload_n 1, 1) := by decide +kernel
theorem dX10_factor_118 : decode cX10_factor 118 = .ok (.lreturn, 1) := by decide +kernel
theorem dX10_factor_119 : decode cX10_factor 119 = .ok (.aload_n 0, 1) := by decide +kernel
theorem dX10_factor_120 : decode cX10_factor 120 = .ok (.iconst 0, 1) := by decide +kernel
theorem dX10_factor_121 : decode cX10_factor 121 = .ok (.iconst 5, 1) := by decide +kernel
theorem dX10_factor_122 : decode cX10_factor 122 = .ok (.invokevirtual 160, 3) := by decide +kernel
theorem dX10_factor_125 : decode cX10_factor 125 = .ok (.istore_n 1, 1) := by decide +kernel
theorem dX10_factor_126 : decode cX10_factor 126 = .ok (.aload_n 0, 1) := by decide +kernel
theorem dX10_factor_127 : decode cX10_factor 127 = .ok (.getfield 89, 3) := by decide +kernel
theorem dX10_factor_130 : decode cX10_factor 130 = .ok (.ifCond .ne 21, 3) := by decide +kernel
theorem dX10_factor_133 : decode cX10_factor 133 = .ok (.aload_n 0, 1) := by decide +kernel
theorem dX10_factor_134 : decode cX10_factor 134 = .ok (.getfield 192, 3) := by decide +kernel
theorem dX10_factor_137 : decode cX10_factor 137 = .ok (.bipush 12, 2) := by decide +kernel
theorem dX10_factor_139 : decode cX10_factor 139 = .ok (.if_icmp .ne 12, 3) := by decide +kernel
theorem dX10_factor_142 : decode cX10_factor 142 = .ok (.aload_n 0, 1) := by decide +kernel
theorem dX10_factor_143 : decode cX10_factor 143 = .ok (.iconst 5, 1) := by decide +kernel
theorem dX10_factor_144 : decode cX10_factor 144 = .ok (.aload_n 0, 1) := by decide +kernel
theorem dX10_factor_145 : decode cX10_factor 145 = .ok (.getfield 70, 3) := by decide +kernel
theorem dX10_factor_148 : decode cX10_factor 148 = .ok (.invokevirtual 116, 3) := by decide +kernel
theorem dX10_factor_151 : decode cX10_factor 151 = .ok (.aload_n 0, 1) := by decide +kernel
theorem dX10_factor_152 : decode cX10_factor 152 = .ok (.getfield 89, 3) := by decide +kernel
theorem dX10_factor_155 : decode cX10_factor 155 = .ok (.ifCond .eq 5, 3) := by decide +kernel
theorem dX10_factor_158 : decode cX10_factor 158 = .ok (.lconst 0, 1) := by decide +kernel
theorem dX10_factor_159 : decode cX10_factor 159 = .ok (.lreturn, 1) := by decide +kernel
theorem dX10_factor_160 : decode cX10_factor 160 = .ok (.aload_n 0, 1) := by decide +kernel
theorem dX10_factor_161 : decode cX10_factor 161 = .ok (.dup, 1) := by decide +kernel
theorem dX10_factor_162 : decode cX10_factor 162 = .ok (.getfield 192, 3) := by decide +kernel
theorem dX10_factor_165 : decode cX10_factor 165 = .ok (.iconst 1, 1) := by decide +kernel
theorem dX10_factor_166 : decode cX10_factor 166 = .ok (.iadd, 1) := by decide +kernel
theorem dX10_factor_167 : decode cX10_factor 167 = .ok (.putfield 192, 3) := by decide +kernel
theorem dX10_factor_170 : decode cX10_factor 170 = .ok (.aload_n 0, 1) := by decide +kernel
theorem dX10_factor_171 : decode cX10_factor 171 = .ok (.invokevirtual 110, 3) := by decide +kernel
theorem dX10_factor_174 : decode cX10_factor 174 = .ok (.iload_n 1, 1) := by decide +kernel
theorem dX10_factor_175 : decode cX10_factor 175 = .ok (.invokestatic 195, 3) := by decide +kernel
theorem dX10_factor_178 : decode cX10_factor 178 = .ok (.lreturn, 1) := by decide +kernel
theorem dX10_well_0 : decode cX10_well 0 = .ok (.aload_n 0, 1) := by decide +kernel
theorem dX10_well_1 : decode cX10_well 1 = .ok (.invokevirtual 199, 3) := by decide +kernel
theorem dX10_well_4 : decode cX10_well 4 = .ok (.iload_n 1, 1) := by decide +kernel
theorem dX10_well_5 : decode cX10_well 5 = .ok (.iconst 0, 1) := by decide +kernel
theorem dX10_well_6 : decode cX10_well 6 = .ok (.aload_n 0, 1) := by decide +kernel
theorem dX10_well_7 : decode cX10_well 7 = .ok (.getfield 57, 3) := by decide +kernel
theorem dX10_well_10 : decode cX10_well 10 = .ok (.invokestatic 156, 3) := by decide +kernel
theorem dX10_well_13 : decode cX10_well 13 = .ok (.ifCond .ne 9, 3) := by decide +kernel
theorem dX10_well_16 : decode cX10_well 16 = .ok (.aload_n 0, 1) := by decide +kernel
theorem dX10_well_17 : decode cX10_well 17 = .ok (.iconst 2, 1) := by decide +kernel
theorem dX10_well_18 : decode cX10_well 18 = .ok (.invokevirtual 202, 3) := by decide +kernel
theorem dX10_well_21 : decode cX10_well 21 = .ok (.ireturn, 1) := by decide +kernel
theorem dX10_well_22 : decode cX10_well 22 = .ok (.aload_n 0, 1) := by decide +kernel
theorem dX10_well_23 : decode cX10_well 23 = .ok (.iconst 0, 1) := by decide +kernel
theorem dX10_well_24 : decode cX10_well 24 = .ok (.putfield 57, 3) := by decide +kernel
theorem dX10_well_27 : decode cX10_well 27 = .ok (.aload_n 0, 1) := by decide +kernel
theorem dX10_well_28 : decode cX10_well 28 = .ok (.iconst 0, 1) := by decide +kernel
theorem dX10_well_29 : decode cX10_well 29 = .ok (.putfield 93, 3) := by decide +kernel
theorem dX10_well_32 : decode cX10_well 32 = .ok (.aload_n 0, 1) := by decide +kernel
theorem dX10_well_33 : decode cX10_well 33 = .ok (.iconst 0, 1) := by decide +kernel
theorem dX10_well_34 : decode cX10_well 34 = .ok (.putfield 89, 3) := by decide +kernel
theorem dX10_well_37 : decode cX10_well 37 = .ok (.iconst 0, 1) := by decide +kernel
theorem dX10_well_38 : decode cX10_well 38 = .ok (.istore_n 2, 1) := by decide +kernel
theorem dX10_well_39 : decode cX10_well 39 = .ok (.iload_n 2, 1) := by decide +kernel
theorem dX10_well_40 : decode cX10_well 40 = .ok (.sipush 279, 3) := by decide +kernel
theorem dX10_well_43 : decode cX10_well 43 = .ok (.if_icmp .ge 16, 3) := by decide +kernel
theorem dX10_well_46 : decode cX10_well 46 = .ok (.aload_n 0, 1) := by decide +kernel
theorem dX10_well_47 : decode cX10_well 47 = .ok (.getfield 23, 3) := by decide +kernel
theorem dX10_well_50 : decode cX10_well 50 = .ok (.iload_n 2, 1) := by decide +kernel
theorem dX10_well_51 : decode cX10_well 51 = .ok (.iconst 0, 1) := by decide +kernel
theorem dX10_well_52 : decode cX10_well 52 = .ok (.iastore, 1) := by decide +kernel
theorem dX10_well_53 : decode cX10_well 53 = .ok (.iinc 2 1, 3) := by decide +kernel
theorem dX10_well_56 : decode cX10_well 56 = .ok (.goto (-17), 3) := by decide +kernel
theorem dX10_well_59 : decode cX10_well 59 = .ok (.iconst 0, 1) := by decide +kernel
theorem dX10_well_60 : decode cX10_well 60 = .ok (.istore_n 2, 1) := by decide +kernel
theorem dX10_well_61 : decode cX10_well 61 = .ok (.iload_n 2, 1) := by decide +kernel
theorem dX10_well_62 : decode cX10_well 62 = .ok (.bipush 9, 2) := by decide +kernel
theorem dX10_well_64 : decode cX10_well 64 = .ok (.if_icmp .ge 18, 3) := by decide +kernel
theorem dX10_well_67 : decode cX10_well 67 = .ok (.aload_n 0, 1) := by decide +kernel
theorem dX10_well_68 : decode cX10_well 68 = .ok (.getfield 30, 3) := by decide +kernel
theorem dX10_well_71 : decode cX10_well 71 = .ok (.iload_n 2, 1) := by decide +kernel
theorem dX10_well_72 : decode cX10_well 72 = .ok (.ldc2_w 181, 3) := by decide +kernel
theorem dX10_well_75 : decode cX10_well 75 = .ok (.lastore, 1) := by decide +kernel
theorem dX10_well_76 : decode cX10_well 76 = .ok (.iinc 2 1, 3) := by decide +kernel
theorem dX10_well_79 : decode cX10_well 79 = .ok (.goto (-18), 3) := by decide +kernel
theorem dX10_well_82 : decode cX10_well 82 = .ok (.aload_n 0, 1) := by decide +kernel
theorem dX10_well_83 : decode cX10_well 83 = .ok (.iload_n 1, 1) := by decide +kernel
theorem dX10_well_84 : decode cX10_well 84 = .ok (.putfield 60, 3) := by decide +kernel
theorem dX10_well_87 : decode cX10_well 87 = .ok (.aload_n 0, 1) := by decide +kernel
theorem dX10_well_88 : decode cX10_well 88 = .ok (.iconst 0, 1) := by decide +kernel
theorem dX10_well_89 : decode cX10_well 89 = .ok (.putfield 63, 3) := by decide +kernel
theorem dX10_well_92 : decode cX10_well 92 = .ok (.aload_n 0, 1) := by decide +kernel
theorem dX10_well_93 : decode cX10_well 93 = .ok (.invokevirtual 110, 3) := by decide +kernel
theorem dX10_well_96 : decode cX10_well 96 = .ok (.aload_n 0, 1) := by decide +kernel
theorem dX10_well_97 : decode cX10_well 97 = .ok (.invokevirtual 205, 3) := by decide +kernel
theorem dX10_well_100 : decode cX10_well 100 = .ok (.aload_n 0, 1) := by decide +kernel
theorem dX10_well_101 : decode cX10_well 101 = .ok (.getfield 89, 3) := by decide +kernel
theorem dX10_well_104 : decode cX10_well 104 = .ok (.ifCond .ne 23, 3) := by decide +kernel
theorem dX10_well_107 : decode cX10_well 107 = .ok (.aload_n 0, 1) := by decide +kernel
theorem dX10_well_108 : decode cX10_well 108 = .ok (.getfield 79, 3) := by decide +kernel
theorem dX10_well_111 : decode cX10_well 111 = .ok (.bipush 59, 2) := by decide +kernel
theorem dX10_well_113 : decode cX10_well 113 = .ok (.if_icmp .ne 14, 3) := by decide +kernel
theorem dX10_well_116 : decode cX10_well 116 = .ok (.aload_n 0, 1) := by decide +kernel
theorem dX10_well_117 : decode cX10_well 117 = .ok (.invokevirtual 110, 3) := by decide +kernel
theorem dX10_well_120 : decode cX10_well 120 = .ok (.aload_n 0, 1) := by decide +kernel
theorem dX10_well_121 : decode cX10_well 121 = .ok (.invokevirtual 205, 3) := by decide +kernel
theorem dX10_well_124 : decode cX10_well 124 = .ok (.goto (-24), 3) := by decide +kernel
theorem dX10_well_127 : decode cX10_well 127 = .ok (.aload_n 0, 1) := by decide +kernel
theorem dX10_well_128 : decode cX10_well 128 = .ok (.getfield 89, 3) := by decide +kernel
theorem dX10_well_131 : decode cX10_well 131 = .ok (.ifCond .ne 19, 3) := by decide +kernel
theorem dX10_well_134 : decode cX10_well 134 = .ok (.aload_n 0, 1) := by decide +kernel
theorem dX10_well_135 : decode cX10_well 135 = .ok (.getfield 79, 3) := by decide +kernel
theorem dX10_well_138 : decode cX10_well 138 = .ok (.ifCond .eq 12, 3) := by decide +kernel
theorem dX10_well_141 : decode cX10_well 141 = .ok (.aload_n 0, 1) := by decide +kernel
theorem dX10_well_142 : decode cX10_well 142 = .ok (.iconst 1, 1) := by decide +kernel
theorem dX10_well_143 : decode cX10_well 143 = .ok (.aload_n 0, 1) := by decide +kernel
theorem dX10_well_144 : decode cX10_well 144 = .ok (.getfield 70, 3) := by decide +kernel
theorem dX10_well_147 : decode cX10_well 147 = .ok (.invokevirtual 116, 3) := by decide +kernel
theorem dX10_well_150 : decode cX10_well 150 = .ok (.aload_n 0, 1) := by decide +kernel
theorem dX10_well_151 : decode cX10_well 151 = .ok (.getfield 89, 3) := by decide +kernel
theorem dX10_well_154 : decode cX10_well 154 = .ok (.ifCond .ne 41, 3) := by decide +kernel
theorem dX10_well_157 : decode cX10_well 157 = .ok (.aload_n 0, 1) := by decide +kernel
theorem dX10_well_158 : decode cX10_well 158 = .ok (.getfield 23, 3) := by decide +kernel
theorem dX10_well_161 : decode cX10_well 161 = .ok (.bipush 9, 2) := by decide +kernel
theorem dX10_well_163 : decode cX10_well 163 = .ok (.iaload, 1) := by decide +kernel
theorem dX10_well_164 : decode cX10_well 164 = .ok (.ifCond .eq 21, 3) := by decide +kernel
theorem dX10_well_167 : decode cX10_well 167 = .ok (.aload_n 0, 1) := by decide +kernel
theorem dX10_well_168 : decode cX10_well 168 = .ok (.getfield 23, 3) := by decide +kernel
theorem dX10_well_171 : decode cX10_well 171 = .ok (.iconst 1, 1) := by decide +kernel
theorem dX10_well_172 : decode cX10_well 172 = .ok (.iaload, 1) := by decide +kernel
theorem dX10_well_173 : decode cX10_well 173 = .ok (.ifCond .eq 12, 3) := by decide +kernel
theorem dX10_well_176 : decode cX10_well 176 = .ok (.aload_n 0, 1) := by decide +kernel
theorem dX10_well_177 : decode cX10_well 177 = .ok (.getfield 23, 3) := by decide +kernel
theorem dX10_well_180 : decode cX10_well 180 = .ok (.iconst 3, 1) := by decide +kernel
theorem dX10_well_181 : decode cX10_well 181 = .ok (.iaload, 1) := by decide +kernel
theorem dX10_well_182 : decode cX10_well 182 = .ok (.ifCond .ne 13, 3) := by decide +kernel
theorem dX10_well_185 : decode cX10_well 185 = .ok (.aload_n 0, 1) := by decide +kernel
theorem dX10_well_186 : decode cX10_well 186 = .ok (.bipush 6, 2) := by decide +kernel
theorem dX10_well_188 : decode cX10_well 188 = .ok (.aload_n 0, 1) := by decide +kernel
theorem dX10_well_189 : decode cX10_well 189 = .ok (.getfield 70, 3) := by decide +kernel
theorem dX10_well_192 : decode cX10_well 192 = .ok (.invokevirtual 116, 3) := by decide +kernel
theorem dX10_well_195 : decode cX10_well 195 = .ok (.aload_n 0, 1) := by decide +kernel
theorem dX10_well_196 : decode cX10_well 196 = .ok (.getfield 89, 3) := by decide +kernel
theorem dX10_well_199 : decode cX10_well 199 = .ok (.ifCond .eq 9, 3) := by decide +kernel
theorem dX10_well_202 : decode cX10_well 202 = .ok (.aload_n 0, 1) := by decide +kernel
theorem dX10_well_203 : decode cX10_well 203 = .ok (.iconst 4, 1) := by decide +kernel
theorem dX10_well_204 : decode cX10_well 204 = .ok (.invokevirtual 202, 3) := by decide +kernel
theorem dX10_well_207 : decode cX10_well 207 = .ok (.ireturn, 1) := by decide +kernel
theorem dX10_well_208 : decode cX10_well 208 = .ok (.aload_n 0, 1) := by decide +kernel
theorem dX10_well_209 : decode cX10_well 209 = .ok (.getfield 23, 3) := by decide +kernel
theorem dX10_well_212 : decode cX10_well 212 = .ok (.iconst 0, 1) := by decide +kernel
theorem dX10_well_213 : decode cX10_well 213 = .ok (.aload_n 0, 1) := by decide +kernel
theorem dX10_well_214 : decode cX10_well 214 = .ok (.getfield 20, 3) := by decide +kernel
theorem dX10_well_217 : decode cX10_well 217 = .ok (.iconst 0, 1) := by decide +kernel
theorem dX10_well_218 : decode cX10_well 218 = .ok (.sipush 279, 3) := by decide +kernel
theorem dX10_well_221 : decode cX10_well 221 = .ok (.invokestatic 208, 3) := by decide +kernel
theorem dX10_well_224 : decode cX10_well 224 = .ok (.lconst 0, 1) := by decide +kernel
theorem dX10_well_225 : decode cX10_well 225 = .ok (.lstore_n 2, 1) := by decide +kernel
theorem dX10_well_226 : decode cX10_well 226 = .ok (.iconst 0, 1) := by decide +kernel
theorem dX10_well_227 : decode cX10_well 227 = .ok (.istore 4, 2) := by decide +kernel
theorem dX10_well_229 : decode cX10_well 229 = .ok (.iload 4, 2) := by decide +kernel
theorem dX10_well_231 : decode cX10_well 231 = .ok (.iconst 1, 1) := by decide +kernel
theorem dX10_well_232 : decode cX10_well 232 = .ok (.aload_n 0, 1) := by decide +kernel
theorem dX10_well_233 : decode cX10_well 233 = .ok (.getfield 20, 3) := by decide +kernel
theorem dX10_well_236 : decode cX10_well 236 = .ok (.iconst 1, 1) := by decide +kernel
theorem dX10_well_237 : decode cX10_well 237 = .ok (.iaload, 1) := by decide +kernel
theorem dX10_well_238 : decode cX10_well 238 = .ok (.ishl, 1) := by decide +kernel
theorem dX10_well_239 : decode cX10_well 239 = .ok (.if_icmp .ge 16, 3) := by decide +kernel
theorem dX10_well_242 : decode cX10_well 242 = .ok (.lload_n 2, 1) := by decide +kernel
theorem dX10_well_243 : decode cX10_well 243 = .ok (.lconst 1, 1) := by decide +kernel
theorem dX10_well_244 : decode cX10_well 244 = .ok (.iload 4, 2) := by decide +kernel
theorem dX10_well_246 : decode cX10_well 246 = .ok (.lshl, 1) := by decide +kernel
theorem dX10_well_247 : decode cX10_well 247 = .ok (.lor, 1) := by decide +kernel
theorem dX10_well_248 : decode cX10_well 248 = .ok (.lstore_n 2, 1) := by decide +kernel
theorem dX10_well_249 : decode cX10_well 249 = .ok (.iinc 4 1, 3) := by decide +kernel
theorem dX10_well_252 : decode cX10_well 252 = .ok (.goto (-23), 3) := by decide +kernel
theorem dX10_well_255 : decode cX10_well 255 = .ok (.iconst 0, 1) := by decide +kernel
theorem dX10_well_256 : decode cX10_well 256 = .ok (.istore 4, 2) := by decide +kernel
theorem dX10_well_258 : decode cX10_well 258 = .ok (.iload 4, 2) := by decide +kernel
theorem dX10_well_260 : decode cX10_well 260 = .ok (.bipush 9, 2) := by decide +kernel
theorem dX10_well_262 : decode cX10_well 262 = .ok (.if_icmp .ge 25, 3) := by decide +kernel
theorem dX10_well_265 : decode cX10_well 265 = .ok (.aload_n 0, 1) := by decide +kernel
theorem dX10_well_266 : decode cX10_well 266 = .ok (.getfield 26, 3) := by decide +kernel
theorem dX10_well_269 : decode cX10_well 269 = .ok (.iload 4, 2) := by decide +kernel
theorem dX10_well_271 : decode cX10_well 271 = .ok (.aload_n 0, 1) := by decide +kernel
theorem dX10_well_272 : decode cX10_well 272 = .ok (.getfield 30, 3) := by decide +kernel
theorem dX10_well_275 : decode cX10_well 275 = .ok (.iload 4, 2) := by decide +kernel
theorem dX10_well_277 : decode cX10_well 277 = .ok (.laload, 1) := by decide +kernel
theorem dX10_well_278 : decode cX10_well 278 = .ok (.lload_n 2, 1) := by decide +kernel
theorem dX10_well_279 : decode cX10_well 279 = .ok (.land, 1) := by decide +kernel
theorem dX10_well_280 : decode cX10_well 280 = .ok (.lastore, 1) := by decide +kernel
theorem dX10_well_281 : decode cX10_well 281 = .ok (.iinc 4 1, 3) := by decide +kernel
theorem dX10_well_284 : decode cX10_well 284 = .ok (.goto (-26), 3) := by decide +kernel
theorem dX10_well_287 : decode cX10_well 287 = .ok (.iconst 0, 1) := by decide +kernel
theorem dX10_well_288 : decode cX10_well 288 = .ok (.istore 4, 2) := by decide +kernel
theorem dX10_well_290 : decode cX10_well 290 = .ok (.iload 4, 2) := by decide +kernel
theorem dX10_well_292 : decode cX10_well 292 = .ok (.bipush 68, 2) := by decide +kernel
theorem dX10_well_294 : decode cX10_well 294 = .ok (.if_icmp .ge 17, 3) := by decide +kernel
theorem dX10_well_297 : decode cX10_well 297 = .ok (.aload_n 0, 1) := by decide +kernel
theorem dX10_well_298 : decode cX10_well 298 = .ok (.getfield 33, 3) := by decide +kernel
theorem dX10_well_301 : decode cX10_well 301 = .ok (.iload 4, 2) := by decide +kernel
theorem dX10_well_303 : decode cX10_well 303 = .ok (.iconst 0, 1) := by decide +kernel
theorem dX10_well_304 : decode cX10_well 304 = .ok (.iastore, 1) := by decide +kernel
theorem dX10_well_305 : decode cX10_well 305 = .ok (.iinc 4 1, 3) := by decide +kernel
theorem dX10_well_308 : decode cX10_well 308 = .ok (.goto (-18), 3) := by decide +kernel
theorem dX10_well_311 : decode cX10_well 311 = .ok (.aload_n 0, 1) := by decide +kernel
theorem dX10_well_312 : decode cX10_well 312 = .ok (.getfield 33, 3) := by decide +kernel
theorem dX10_well_315 : decode cX10_well 315 = .ok (.iconst 0, 1) := by decide +kernel
theorem dX10_well_316 : decode cX10_well 316 = .ok (.aload_n 0, 1) := by decide +kernel
theorem dX10_well_317 : decode cX10_well 317 = .ok (.getfield 20, 3) := by decide +kernel
theorem dX10_well_320 : decode cX10_well 320 = .ok (.iconst 0, 1) := by decide +kernel
theorem dX10_well_321 : decode cX10_well 321 = .ok (.iaload, 1) := by decide +kernel
theorem dX10_well_322 : decode cX10_well 322 = .ok (.iastore, 1) := by decide +kernel
theorem dX10_well_323 : decode cX10_well 323 = .ok (.aload_n 0, 1) := by decide +kernel
theorem dX10_well_324 : decode cX10_well 324 = .ok (.getfield 33, 3) := by decide +kernel
theorem dX10_well_327 : decode cX10_well 327 = .ok (.iconst 1, 1) := by decide +kernel
theorem dX10_well_328 : decode cX10_well 328 = .ok (.aload_n 0, 1) := by decide +kernel
theorem dX10_well_329 : decode cX10_well 329 = .ok (.getfield 20, 3) := by decide +kernel
theorem dX10_well_332 : decode cX10_well 332 = .ok (.bipush 6, 2) := by decide +kernel
theorem dX10_well_334 : decode cX10_well 334 = .ok (.iaload, 1) := by decide +kernel
theorem dX10_well_335 : decode cX10_well 335 = .ok (.iastore, 1) := by decide +kernel
theorem dX10_well_336 : decode cX10_well 336 = .ok (.aload_n 0, 1) := by decide +kernel
theorem dX10_well_337 : decode cX10_well 337 = .ok (.getfield 20, 3) := by decide +kernel
theorem dX10_well_340 : decode cX10_well 340 = .ok (.bipush 53, 2) := by decide +kernel
theorem dX10_well_342 : decode cX10_well 342 = .ok (.aload_n 0, 1) := by decide +kernel
theorem dX10_well_343 : decode cX10_well 343 = .ok (.getfield 33, 3) := by decide +kernel
theorem dX10_well_346 : decode cX10_well 346 = .ok (.iconst 2, 1) := by decide +kernel
theorem dX10_well_347 : decode cX10_well 347 = .ok (.iconst 3, 1) := by decide +kernel
theorem dX10_well_348 : decode cX10_well 348 = .ok (.aload_n 0, 1) := by decide +kernel
theorem dX10_well_349 : decode cX10_well 349 = .ok (.getfield 20, 3) := by decide +kernel
theorem dX10_well_352 : decode cX10_well 352 = .ok (.bipush 6, 2) := by decide +kernel
theorem dX10_well_354 : decode cX10_well 354 = .ok (.iaload, 1) := by decide +kernel
theorem dX10_well_355 : decode cX10_well 355 = .ok (.imul, 1) := by decide +kernel
theorem dX10_well_356 : decode cX10_well 356 = .ok (.invokestatic 208, 3) := by decide +kernel
theorem dX10_well_359 : decode cX10_well 359 = .ok (.aload_n 0, 1) := by decide +kernel
theorem dX10_well_360 : decode cX10_well 360 = .ok (.getfield 20, 3) := by decide +kernel
theorem dX10_well_363 : decode cX10_well 363 = .ok (.bipush 93, 2) := by decide +kernel
theorem dX10_well_365 : decode cX10_well 365 = .ok (.aload_n 0, 1) := by decide +kernel
theorem dX10_well_366 : decode cX10_well 366 = .ok (.getfield 33, 3) := by decide +kernel
theorem dX10_well_369 : decode cX10_well 369 = .ok (.bipush 62, 2) := by decide +kernel
theorem dX10_well_371 : decode cX10_well 371 = .ok (.bipush 6, 2) := by decide +kernel
theorem dX10_well_373 : decode cX10_well 373 = .ok (.invokestatic 208, 3) := by decide +kernel
theorem dX10_well_376 : decode cX10_well 376 = .ok (.aload_n 0, 1) := by decide +kernel
theorem dX10_well_377 : decode cX10_well 377 = .ok (.iconst 1, 1) := by decide +kernel
theorem dX10_well_378 : decode cX10_well 378 = .ok (.putfield 212, 3) := by decide +kernel
theorem dX10_well_381 : decode cX10_well 381 = .ok (.aload_n 0, 1) := by decide +kernel
theorem dX10_well_382 : decode cX10_well 382 = .ok (.iconst 0, 1) := by decide +kernel
theorem dX10_well_383 : decode cX10_well 383 = .ok (.putfield 215, 3) := by decide +kernel
theorem dX10_well_386 : decode cX10_well 386 = .ok (.aload_n 0, 1) := by decide +kernel
theorem dX10_well_387 : decode cX10_well 387 = .ok (.iconst 0, 1) := by decide +kernel
theorem dX10_well_388 : decode cX10_well 388 = .ok (.putfield 218, 3) := by decide +kernel
theorem dX10_well_391 : decode cX10_well 391 = .ok (.aload_n 0, 1) := by decide +kernel
theorem dX10_well_392 : decode cX10_well 392 = .ok (.getfield 20, 3) := by decide +kernel
theorem dX10_well_395 : decode cX10_well 395 = .ok (.iconst 3, 1) := by decide +kernel
theorem dX10_well_396 : decode cX10_well 396 = .ok (.iaload, 1) := by decide +kernel
theorem dX10_well_397 : decode cX10_well 397 = .ok (.ireturn, 1) := by decide +kernel
theorem dX10_begins_0 : decode cX10_begins 0 = .ok (.aload_n 0, 1) := by decide +kernel
theorem dX10_begins_1 : decode cX10_begins 1 = .ok (.aload_n 1, 1) := by decide +kernel
theorem dX10_begins_2 : decode cX10_begins 2 = .ok (.invokevirtual 106, 3) := by decide +kernel
theorem dX10_begins_5 : decode cX10_begins 5 = .ok (.ifCond .ne 5, 3) := by decide +kernel
theorem dX10_begins_8 : decode cX10_begins 8 = .ok (.iconst 0, 1) := by decide +kernel
theorem dX10_begins_9 : decode cX10_begins 9 = .ok (.ireturn, 1) := by decide +kernel
theorem dX10_begins_10 : decode cX10_begins 10 = .ok (.iload_n 2, 1) := by decide +kernel
theorem dX10_begins_11 : decode cX10_begins 11 = .ok (.ifCond .ne 12, 3) := by decide +kernel
theorem dX10_begins_14 : decode cX10_begins 14 = .ok (.aload_n 0, 1) := by decide +kernel
theorem dX10_begins_15 : decode cX10_begins 15 = .ok (.iconst 5, 1) := by decide +kernel
theorem dX10_begins_16 : decode cX10_begins 16 = .ok (.aload_n 0, 1) := by decide +kernel
theorem dX10_begins_17 : decode cX10_begins 17 = .ok (.getfield 70, 3) := by decide +kernel
theorem dX10_begins_20 : decode cX10_begins 20 = .ok (.invokevirtual 116, 3) := by decide +kernel
theorem dX10_begins_23 : decode cX10_begins 23 = .ok (.aload_n 0, 1) := by decide +kernel
theorem dX10_begins_24 : decode cX10_begins 24 = .ok (.getfield 23, 3) := by decide +kernel
theorem dX10_begins_27 : decode cX10_begins 27 = .ok (.bipush 9, 2) := by decide +kernel
theorem dX10_begins_29 : decode cX10_begins 29 = .ok (.iaload, 1) := by decide +kernel
theorem dX10_begins_30 : decode cX10_begins 30 = .ok (.ifCond .ne 13, 3) := by decide +kernel
theorem dX10_begins_33 : decode cX10_begins 33 = .ok (.aload_n 0, 1) := by decide +kernel
theorem dX10_begins_34 : decode cX10_begins 34 = .ok (.bipush 6, 2) := by decide +kernel
theorem dX10_begins_36 : decode cX10_begins 36 = .ok (.aload_n 0, 1) := by decide +kernel
theorem dX10_begins_37 : decode cX10_begins 37 = .ok (.getfield 70, 3) := by decide +kernel
theorem dX10_begins_40 : decode cX10_begins 40 = .ok (.invokevirtual 116, 3) := by decide +kernel
theorem dX10_begins_43 : decode cX10_begins 43 = .ok (.aload_n 0, 1) := by decide +kernel
theorem dX10_begins_44 : decode cX10_begins 44 = .ok (.getfield 89, 3) := by decide +kernel
theorem dX10_begins_47 : decode cX10_begins 47 = .ok (.ifCond .ne 7, 3) := by decide +kernel
theorem dX10_begins_50 : decode cX10_begins 50 = .ok (.aload_n 0, 1) := by decide +kernel
theorem dX10_begins_51 : decode cX10_begins 51 = .ok (.invokevirtual 110, 3) := by decide +kernel
theorem dX10_begins_54 : decode cX10_begins 54 = .ok (.iconst 1, 1) := by decide +kernel
theorem dX10_begins_55 : decode cX10_begins 55 = .ok (.ireturn, 1) := by decide +kernel
theorem dX10_readLine_0 : decode cX10_readLine 0 = .ok (.aload_n 0, 1) := by decide +kernel
theorem dX10_readLine_1 : decode cX10_readLine 1 = .ok (.getfield 70, 3) := by decide +kernel
theorem dX10_readLine_4 : decode cX10_readLine 4 = .ok (.istore_n 1, 1) := by decide +kernel
theorem dX10_readLine_5 : decode cX10_readLine 5 = .ok (.aload_n 0, 1) := by decide +kernel
theorem dX10_readLine_6 : decode cX10_readLine 6 = .ok (.ldc 120, 2) := by decide +kernel
theorem dX10_readLine_8 : decode cX10_readLine 8 = .ok (.invokevirtual 106, 3) := by decide +kernel
theorem dX10_readLine_11 : decode cX10_readLine 11 = .ok (.ifCond .eq 10, 3) := by decide +kernel
theorem dX10_readLine_14 : decode cX10_readLine 14 = .ok (.aload_n 0, 1) := by decide +kernel
theorem dX10_readLine_15 : decode cX10_readLine 15 = .ok (.invokevirtual 221, 3) := by decide +kernel
theorem dX10_readLine_18 : decode cX10_readLine 18 = .ok (.goto 305, 3) := by decide +kernel
theorem dX10_readLine_21 : decode cX10_readLine 21 = .ok (.aload_n 0, 1) := by decide +kernel
theorem dX10_readLine_22 : decode cX10_readLine 22 = .ok (.ldc 122, 2) := by decide +kernel
theorem dX10_readLine_24 : decode cX10_readLine 24 = .ok (.aload_n 0, 1) := by decide +kernel
theorem dX10_readLine_25 : decode cX10_readLine 25 = .ok (.getfield 23, 3) := by decide +kernel
theorem dX10_readLine_28 : decode cX10_readLine 28 = .ok (.iconst 1, 1) := by decide +kernel
theorem dX10_readLine_29 : decode cX10_readLine 29 = .ok (.iaload, 1) := by decide +kernel
theorem dX10_readLine_30 : decode cX10_readLine 30 = .ok (.bipush 6, 2) := by decide +kernel
theorem dX10_readLine_32 : decode cX10_readLine 32 = .ok (.if_icmp .ge 7, 3) := by decide +kernel
theorem dX10_readLine_35 : decode cX10_readLine 35 = .ok (.iconst 1, 1) := by decide +kernel
theorem dX10_readLine_36 : decode cX10_readLine 36 = .ok (.goto 4, 3) := by decide +kernel
theorem dX10_readLine_39 : decode cX10_readLine 39 = .ok (.iconst 0, 1) := by decide +kernel
theorem dX10_readLine_40 : decode cX10_readLine 40 = .ok (.invokevirtual 224, 3) := by decide +kernel
theorem dX10_readLine_43 : decode cX10_readLine 43 = .ok (.ifCond .eq 10, 3) := by decide +kernel
theorem dX10_readLine_46 : decode cX10_readLine 46 = .ok (.aload_n 0, 1) := by decide +kernel
theorem dX10_readLine_47 : decode cX10_readLine 47 = .ok (.invokevirtual 228, 3) := by decide +kernel
theorem dX10_readLine_50 : decode cX10_readLine 50 = .ok (.goto 273, 3) := by decide +kernel
theorem dX10_readLine_53 : decode cX10_readLine 53 = .ok (.aload_n 0, 1) := by decide +kernel
theorem dX10_readLine_54 : decode cX10_readLine 54 = .ok (.ldc 124, 2) := by decide +kernel
theorem dX10_readLine_56 : decode cX10_readLine 56 = .ok (.aload_n 0, 1) := by decide +kernel
theorem dX10_readLine_57 : decode cX10_readLine 57 = .ok (.getfield 23, 3) := by decide +kernel
theorem dX10_readLine_60 : decode cX10_readLine 60 = .ok (.iconst 2, 1) := by decide +kernel
theorem dX10_readLine_61 : decode cX10_readLine 61 = .ok (.iaload, 1) := by decide +kernel
theorem dX10_readLine_62 : decode cX10_readLine 62 = .ok (.bipush 6, 2) := by decide +kernel
theorem dX10_readLine_64 : decode cX10_readLine 64 = .ok (.if_icmp .ge 7, 3) := by decide +kernel
theorem dX10_readLine_67 : decode cX10_readLine 67 = .ok (.iconst 1, 1) := by decide +kernel
theorem dX10_readLine_68 : decode cX10_readLine 68 = .ok (.goto 4, 3) := by decide +kernel
theorem dX10_readLine_71 : decode cX10_readLine 71 = .ok (.iconst 0, 1) := by decide +kernel
theorem dX10_readLine_72 : decode cX10_readLine 72 = .ok (.invokevirtual 224, 3) := by decide +kernel
theorem dX10_readLine_75 : decode cX10_readLine 75 = .ok (.ifCond .eq 11, 3) := by decide +kernel
theorem dX10_readLine_78 : decode cX10_readLine 78 = .ok (.aload_n 0, 1) := by decide +kernel
theorem dX10_readLine_79 : decode cX10_readLine 79 = .ok (.iload_n 1, 1) := by decide +kernel
theorem dX10_readLine_80 : decode cX10_readLine 80 = .ok (.invokevirtual 231, 3) := by decide +kernel
theorem dX10_readLine_83 : decode cX10_readLine 83 = .ok (.goto 240, 3) := by decide +kernel
theorem dX10_readLine_86 : decode cX10_readLine 86 = .ok (.aload_n 0, 1) := by decide +kernel
theorem dX10_readLine_87 : decode cX10_readLine 87 = .ok (.ldc 126, 2) := by decide +kernel
theorem dX10_readLine_89 : decode cX10_readLine 89 = .ok (.invokevirtual 106, 3) := by decide +kernel
theorem dX10_readLine_92 : decode cX10_readLine 92 = .ok (.ifCond .eq 11, 3) := by decide +kernel
theorem dX10_readLine_95 : decode cX10_readLine 95 = .ok (.aload_n 0, 1) := by decide +kernel
theorem dX10_readLine_96 : decode cX10_readLine 96 = .ok (.iload_n 1, 1) := by decide +kernel
theorem dX10_readLine_97 : decode cX10_readLine 97 = .ok (.invokevirtual 235, 3) := by decide +kernel
theorem dX10_readLine_100 : decode cX10_readLine 100 = .ok (.goto 223, 3) := by decide +kernel
theorem dX10_readLine_103 : decode cX10_readLine 103 = .ok (.aload_n 0, 1) := by decide +kernel
theorem dX10_readLine_104 : decode cX10_readLine 104 = .ok (.ldc 130, 2) := by decide +kernel
theorem dX10_readLine_106 : decode cX10_readLine 106 = .ok (.aload_n 0, 1) := by decide +kernel
theorem dX10_readLine_107 : decode cX10_readLine 107 = .ok (.getfield 23, 3) := by decide +kernel
theorem dX10_readLine_110 : decode cX10_readLine 110 = .ok (.iconst 3, 1) := by decide +kernel
theorem dX10_readLine_111 : decode cX10_readLine 111 = .ok (.iaload, 1) := by decide +kernel
theorem dX10_readLine_112 : decode cX10_readLine 112 = .ok (.bipush 6, 2) := by decide +kernel
theorem dX10_readLine_114 : decode cX10_readLine 114 = .ok (.if_icmp .ge 7, 3) := by decide +kernel
theorem dX10_readLine_117 : decode cX10_readLine 117 = .ok (.iconst 1, 1) := by decide +kernel
theorem dX10_readLine_118 : decode cX10_readLine 118 = .ok (.goto 4, 3) := by decide +kernel
theorem dX10_readLine_121 : decode cX10_readLine 121 = .ok (.iconst 0, 1) := by decide +kernel
theorem dX10_readLine_122 : decode cX10_readLine 122 = .ok (.invokevirtual 224, 3) := by decide +kernel
theorem dX10_readLine_125 : decode cX10_readLine 125 = .ok (.ifCond .eq 10, 3) := by decide +kernel
theorem dX10_readLine_128 : decode cX10_readLine 128 = .ok (.aload_n 0, 1) := by decide +kernel
theorem dX10_readLine_129 : decode cX10_readLine 129 = .ok (.invokevirtual 238, 3) := by decide +kernel
theorem dX10_readLine_132 : decode cX10_readLine 132 = .ok (.goto 191, 3) := by decide +kernel
theorem dX10_readLine_135 : decode cX10_readLine 135 = .ok (.aload_n 0, 1) := by decide +kernel
theorem dX10_readLine_136 : decode cX10_readLine 136 = .ok (.ldc 132, 2) := by decide +kernel
theorem dX10_readLine_138 : decode cX10_readLine 138 = .ok (.aload_n 0, 1) := by decide +kernel
theorem dX10_readLine_139 : decode cX10_readLine 139 = .ok (.getfield 23, 3) := by decide +kernel
theorem dX10_readLine_142 : decode cX10_readLine 142 = .ok (.iconst 4, 1) := by decide +kernel
theorem dX10_readLine_143 : decode cX10_readLine 143 = .ok (.iaload, 1) := by decide +kernel
theorem dX10_readLine_144 : decode cX10_readLine 144 = .ok (.bipush 6, 2) := by decide +kernel
theorem dX10_readLine_146 : decode cX10_readLine 146 = .ok (.if_icmp .ge 7, 3) := by decide +kernel
theorem dX10_readLine_149 : decode cX10_readLine 149 = .ok (.iconst 1, 1) := by decide +kernel
theorem dX10_readLine_150 : decode cX10_readLine 150 = .ok (.goto 4, 3) := by decide +kernel
theorem dX10_readLine_153 : decode cX10_readLine 153 = .ok (.iconst 0, 1) := by decide +kernel
theorem dX10_readLine_154 : decode cX10_readLine 154 = .ok (.invokevirtual 224, 3) := by decide +kernel
theorem dX10_readLine_157 : decode cX10_readLine 157 = .ok (.ifCond .eq 10, 3) := by decide +kernel
theorem dX10_readLine_160 : decode cX10_readLine 160 = .ok (.aload_n 0, 1) := by decide +kernel
theorem dX10_readLine_161 : decode cX10_readLine 161 = .ok (.invokevirtual 241, 3) := by decide +kernel
theorem dX10_readLine_164 : decode cX10_readLine 164 = .ok (.goto 159, 3) := by decide +kernel
theorem dX10_readLine_167 : decode cX10_readLine 167 = .ok (.aload_n 0, 1) := by decide +kernel
theorem dX10_readLine_168 : decode cX10_readLine 168 = .ok (.ldc 134, 2) := by decide +kernel
theorem dX10_readLine_170 : decode cX10_readLine 170 = .ok (.iconst 1, 1) := by decide +kernel
theorem dX10_readLine_171 : decode cX10_readLine 171 = .ok (.invokevirtual 224, 3) := by decide +kernel
theorem dX10_readLine_174 : decode cX10_readLine 174 = .ok (.ifCond .eq 10, 3) := by decide +kernel
theorem dX10_readLine_177 : decode cX10_readLine 177 = .ok (.aload_n 0, 1) := by decide +kernel
theorem dX10_readLine_178 : decode cX10_readLine 178 = .ok (.invokevirtual 244, 3) := by decide +kernel
theorem dX10_readLine_181 : decode cX10_readLine 181 = .ok (.goto 142, 3) := by decide +kernel
theorem dX10_readLine_184 : decode cX10_readLine 184 = .ok (.aload_n 0, 1) := by decide +kernel
theorem dX10_readLine_185 : decode cX10_readLine 185 = .ok (.ldc 136, 2) := by decide +kernel
theorem dX10_readLine_187 : decode cX10_readLine 187 = .ok (.aload_n 0, 1) := by decide +kernel
theorem dX10_readLine_188 : decode cX10_readLine 188 = .ok (.getfield 23, 3) := by decide +kernel
theorem dX10_readLine_191 : decode cX10_readLine 191 = .ok (.iconst 5, 1) := by decide +kernel
theorem dX10_readLine_192 : decode cX10_readLine 192 = .ok (.iaload, 1) := by decide +kernel
theorem dX10_readLine_193 : decode cX10_readLine 193 = .ok (.bipush 8, 2) := by decide +kernel
theorem dX10_readLine_195 : decode cX10_readLine 195 = .ok (.if_icmp .ge 7, 3) := by decide +kernel
theorem dX10_readLine_198 : decode cX10_readLine 198 = .ok (.iconst 1, 1) := by decide +kernel
theorem dX10_readLine_199 : decode cX10_readLine 199 = .ok (.goto 4, 3) := by decide +kernel
theorem dX10_readLine_202 : decode cX10_readLine 202 = .ok (.iconst 0, 1) := by decide +kernel
theorem dX10_readLine_203 : decode cX10_readLine 203 = .ok (.invokevirtual 224, 3) := by decide +kernel
theorem dX10_readLine_206 : decode cX10_readLine 206 = .ok (.ifCond .eq 10, 3) := by decide +kernel
theorem dX10_readLine_209 : decode cX10_readLine 209 = .ok (.aload_n 0, 1) := by decide +kernel
theorem dX10_readLine_210 : decode cX10_readLine 210 = .ok (.invokevirtual 247, 3) := by decide +kernel
theorem dX10_readLine_213 : decode cX10_readLine 213 = .ok (.goto 110, 3) := by decide +kernel
theorem dX10_readLine_216 : decode cX10_readLine 216 = .ok (.aload_n 0, 1) := by decide +kernel
theorem dX10_readLine_217 : decode cX10_readLine 217 = .ok (.ldc 138, 2) := by decide +kernel
theorem dX10_readLine_219 : decode cX10_readLine 219 = .ok (.aload_n 0, 1) := by decide +kernel
theorem dX10_readLine_220 : decode cX10_readLine 220 = .ok (.getfield 23, 3) := by decide +kernel
theorem dX10_readLine_223 : decode cX10_readLine 223 = .ok (.bipush 6, 2) := by decide +kernel
theorem dX10_readLine_225 : decode cX10_readLine 225 = .ok (.iaload, 1) := by decide +kernel
theorem dX10_readLine_226 : decode cX10_readLine 226 = .ok (.bipush 12, 2) := by decide +kernel
theorem dX10_readLine_228 : decode cX10_readLine 228 = .ok (.if_icmp .ge 7, 3) := by decide +kernel
theorem dX10_readLine_231 : decode cX10_readLine 231 = .ok (.iconst 1, 1) := by decide +kernel
theorem dX10_readLine_232 : decode cX10_readLine 232 = .ok (.goto 4, 3) := by decide +kernel
theorem dX10_readLine_235 : decode cX10_readLine 235 = .ok (.iconst 0, 1) := by decide +kernel
theorem dX10_readLine_236 : decode cX10_readLine 236 = .ok (.invokevirtual 224, 3) := by decide +kernel
theorem dX10_readLine_239 : decode cX10_readLine 239 = .ok (.ifCond .eq 10, 3) := by decide +kernel
theorem dX10_readLine_242 : decode cX10_readLine 242 = .ok (.aload_n 0, 1) := by decide +kernel
theorem dX10_readLine_243 : decode cX10_readLine 243 = .ok (.invokevirtual 250, 3) := by decide +kernel
theorem dX10_readLine_246 : decode cX10_readLine 246 = .ok (.goto 77, 3) := by decide +kernel
theorem dX10_readLine_249 : decode cX10_readLine 249 = .ok (.aload_n 0, 1) := by decide +kernel
theorem dX10_readLine_250 : decode cX10_readLine 250 = .ok (.ldc 140, 2) := by decide +kernel
theorem dX10_readLine_252 : decode cX10_readLine 252 = .ok (.aload_n 0, 1) := by decide +kernel
theorem dX10_readLine_253 : decode cX10_readLine 253 = .ok (.getfield 23, 3) := by decide +kernel
theorem dX10_readLine_256 : decode cX10_readLine 256 = .ok (.bipush 7, 2) := by decide +kernel
theorem dX10_readLine_258 : decode cX10_readLine 258 = .ok (.iaload, 1) := by decide +kernel
theorem dX10_readLine_259 : decode cX10_readLine 259 = .ok (.iconst 4, 1) := by decide +kernel
theorem dX10_readLine_260 : decode cX10_readLine 260 = .ok (.if_icmp .ge 7, 3) := by decide +kernel
theorem dX10_readLine_263 : decode cX10_readLine 263 = .ok (.iconst 1, 1) := by decide +kernel
theorem dX10_readLine_264 : decode cX10_readLine 264 = .ok (.goto 4, 3) := by decide +kernel
theorem dX10_readLine_267 : decode cX10_readLine 267 = .ok (.iconst 0, 1) := by decide +kernel
theorem dX10_readLine_268 : decode cX10_readLine 268 = .ok (.invokevirtual 224, 3) := by decide +kernel
theorem dX10_readLine_271 : decode cX10_readLine 271 = .ok (.ifCond .eq 10, 3) := by decide +kernel
theorem dX10_readLine_274 : decode cX10_readLine 274 = .ok (.aload_n 0, 1) := by decide +kernel
theorem dX10_readLine_275 : decode cX10_readLine 275 = .ok (.invokevirtual 253, 3) := by decide +kernel
theorem dX10_readLine_278 : decode cX10_readLine 278 = .ok (.goto 45, 3) := by decide +kernel
theorem dX10_readLine_281 : decode cX10_readLine 281 = .ok (.aload_n 0, 1) := by decide +kernel
theorem dX10_readLine_282 : decode cX10_readLine 282 = .ok (.ldc 142, 2) := by decide +kernel
theorem dX10_readLine_284 : decode cX10_readLine 284 = .ok (.aload_n 0, 1) := by decide +kernel
theorem dX10_readLine_285 : decode cX10_readLine 285 = .ok (.getfield 23, 3) := by decide +kernel
theorem dX10_readLine_288 : decode cX10_readLine 288 = .ok (.bipush 8, 2) := by decide +kernel
theorem dX10_readLine_290 : decode cX10_readLine 290 = .ok (.iaload, 1) := by decide +kernel
theorem dX10_readLine_291 : decode cX10_readLine 291 = .ok (.bipush 8, 2) := by decide +kernel
theorem dX10_readLine_293 : decode cX10_readLine 293 = .ok (.if_icmp .ge 7, 3) := by decide +kernel
theorem dX10_readLine_296 : decode cX10_readLine 296 = .ok (.iconst 1, 1) := by decide +kernel
theorem dX10_readLine_297 : decode cX10_readLine 297 = .ok (.goto 4, 3) := by decide +kernel
theorem dX10_readLine_300 : decode cX10_readLine 300 = .ok (.iconst 0, 1) := by decide +kernel
theorem dX10_readLine_301 : decode cX10_readLine 301 = .ok (.invokevirtual 224, 3) := by decide +kernel
theorem dX10_readLine_304 : decode cX10_readLine 304 = .ok (.ifCond .eq 10, 3) := by decide +kernel
theorem dX10_readLine_307 : decode cX10_readLine 307 = .ok (.aload_n 0, 1) := by decide +kernel
theorem dX10_readLine_308 : decode cX10_readLine 308 = .ok (.invokevirtual 256, 3) := by decide +kernel
theorem dX10_readLine_311 : decode cX10_readLine 311 = .ok (.goto 12, 3) := by decide +kernel
theorem dX10_readLine_314 : decode cX10_readLine 314 = .ok (.aload_n 0, 1) := by decide +kernel
theorem dX10_readLine_315 : decode cX10_readLine 315 = .ok (.iconst 1, 1) := by decide +kernel
theorem dX10_readLine_316 : decode cX10_readLine 316 = .ok (.aload_n 0, 1) := by decide +kernel
theorem dX10_readLine_317 : decode cX10_readLine 317 = .ok (.getfield 70, 3) := by decide +kernel
theorem dX10_readLine_320 : decode cX10_readLine 320 = .ok (.invokevirtual 116, 3) := by decide +kernel
theorem dX10_readLine_323 : decode cX10_readLine 323 = .ok (.return_, 1) := by decide +kernel
theorem dX10_wellLine_0 : decode cX10_wellLine 0 = .ok (.aload_n 0, 1) := by decide +kernel
theorem dX10_wellLine_1 : decode cX10_wellLine 1 = .ok (.getfield 23, 3) := by decide +kernel
theorem dX10_wellLine_4 : decode cX10_wellLine 4 = .ok (.bipush 9, 2) := by decide +kernel
theorem dX10_wellLine_6 : decode cX10_wellLine 6 = .ok (.iaload, 1) := by decide +kernel
theorem dX10_wellLine_7 : decode cX10_wellLine 7 = .ok (.iconst 1, 1) := by decide +kernel
theorem dX10_wellLine_8 : decode cX10_wellLine 8 = .ok (.if_icmp .ne 12, 3) := by decide +kernel
theorem dX10_wellLine_11 : decode cX10_wellLine 11 = .ok (.aload_n 0, 1) := by decide +kernel
theorem dX10_wellLine_12 : decode cX10_wellLine 12 = .ok (.iconst 3, 1) := by decide +kernel
theorem dX10_wellLine_13 : decode cX10_wellLine 13 = .ok (.aload_n 0, 1) := by decide +kernel
theorem dX10_wellLine_14 : decode cX10_wellLine 14 = .ok (.getfield 70, 3) := by decide +kernel
theorem dX10_wellLine_17 : decode cX10_wellLine 17 = .ok (.invokevirtual 116, 3) := by decide +kernel
theorem dX10_wellLine_20 : decode cX10_wellLine 20 = .ok (.aload_n 0, 1) := by decide +kernel
theorem dX10_wellLine_21 : decode cX10_wellLine 21 = .ok (.getfield 89, 3) := by decide +kernel
theorem dX10_wellLine_24 : decode cX10_wellLine 24 = .ok (.ifCond .eq 4, 3) := by decide +kernel
theorem dX10_wellLine_27 : decode cX10_wellLine 27 = .ok (.return_, 1) := by decide +kernel
theorem dX10_wellLine_28 : decode cX10_wellLine 28 = .ok (.aload_n 0, 1) := by decide +kernel
theorem dX10_wellLine_29 : decode cX10_wellLine 29 = .ok (.invokevirtual 110, 3) := by decide +kernel
theorem dX10_wellLine_32 : decode cX10_wellLine 32 = .ok (.aload_n 0, 1) := by decide +kernel
theorem dX10_wellLine_33 : decode cX10_wellLine 33 = .ok (.getfield 23, 3) := by decide +kernel
theorem dX10_wellLine_36 : decode cX10_wellLine 36 = .ok (.iconst 0, 1) := by decide +kernel
theorem dX10_wellLine_37 : decode cX10_wellLine 37 = .ok (.aload_n 0, 1) := by decide +kernel
theorem dX10_wellLine_38 : decode cX10_wellLine 38 = .ok (.ldc_w 259, 3) := by decide +kernel
theorem dX10_wellLine_41 : decode cX10_wellLine 41 = .ok (.iconst 0, 1) := by decide +kernel
theorem dX10_wellLine_42 : decode cX10_wellLine 42 = .ok (.sipush 999, 3) := by decide +kernel
theorem dX10_wellLine_45 : decode cX10_wellLine 45 = .ok (.invokevirtual 261, 3) := by decide +kernel
theorem dX10_wellLine_48 : decode cX10_wellLine 48 = .ok (.iastore, 1) := by decide +kernel
theorem dX10_wellLine_49 : decode cX10_wellLine 49 = .ok (.aload_n 0, 1) := by decide +kernel
theorem dX10_wellLine_50 : decode cX10_wellLine 50 = .ok (.getfield 89, 3) := by decide +kernel
theorem dX10_wellLine_53 : decode cX10_wellLine 53 = .ok (.ifCond .ne 11, 3) := by decide +kernel
theorem dX10_wellLine_56 : decode cX10_wellLine 56 = .ok (.aload_n 0, 1) := by decide +kernel
theorem dX10_wellLine_57 : decode cX10_wellLine 57 = .ok (.getfield 23, 3) := by decide +kernel
theorem dX10_wellLine_60 : decode cX10_wellLine 60 = .ok (.bipush 9, 2) := by decide +kernel
theorem dX10_wellLine_62 : decode cX10_wellLine 62 = .ok (.iconst 1, 1) := by decide +kernel
theorem dX10_wellLine_63 : decode cX10_wellLine 63 = .ok (.iastore, 1) := by decide +kernel
theorem dX10_wellLine_64 : decode cX10_wellLine 64 = .ok (.return_, 1) := by decide +kernel
theorem dX10_factLine_0 : decode cX10_factLine 0 = .ok (.aload_n 0, 1) := by decide +kernel
theorem dX10_factLine_1 : decode cX10_factLine 1 = .ok (.getfield 89, 3) := by decide +kernel
theorem dX10_factLine_4 : decode cX10_factLine 4 = .ok (.ifCond .eq 4, 3) := by decide +kernel
theorem dX10_factLine_7 : decode cX10_factLine 7 = .ok (.return_, 1) := by decide +kernel
theorem dX10_factLine_8 : decode cX10_factLine 8 = .ok (.aload_n 0, 1) := by decide +kernel
theorem dX10_factLine_9 : decode cX10_factLine 9 = .ok (.aload_n 0, 1) := by decide +kernel
theorem dX10_factLine_10 : decode cX10_factLine 10 = .ok (.getfield 23, 3) := by decide +kernel
theorem dX10_factLine_13 : decode cX10_factLine 13 = .ok (.iconst 1, 1) := by decide +kernel
theorem dX10_factLine_14 : decode cX10_factLine 14 = .ok (.iaload, 1) := by decide +kernel
theorem dX10_factLine_15 : decode cX10_factLine 15 = .ok (.invokevirtual 265, 3) := by decide +kernel
theorem dX10_factLine_18 : decode cX10_factLine 18 = .ok (.aload_n 0, 1) := by decide +kernel
theorem dX10_factLine_19 : decode cX10_factLine 19 = .ok (.getfield 23, 3) := by decide +kernel
theorem dX10_factLine_22 : decode cX10_factLine 22 = .ok (.bipush 11, 2) := by decide +kernel
theorem dX10_factLine_24 : decode cX10_factLine 24 = .ok (.aload_n 0, 1) := by decide +kernel
theorem dX10_factLine_25 : decode cX10_factLine 25 = .ok (.getfield 23, 3) := by decide +kernel
theorem dX10_factLine_28 : decode cX10_factLine 28 = .ok (.iconst 1, 1) := by decide +kernel
theorem dX10_factLine_29 : decode cX10_factLine 29 = .ok (.iaload, 1) := by decide +kernel
theorem dX10_factLine_30 : decode cX10_factLine 30 = .ok (.iadd, 1) := by decide +kernel
theorem dX10_factLine_31 : decode cX10_factLine 31 = .ok (.aload_n 0, 1) := by decide +kernel
theorem dX10_factLine_32 : decode cX10_factLine 32 = .ok (.ldc_w 268, 3) := by decide +kernel
theorem dX10_factLine_35 : decode cX10_factLine 35 = .ok (.iconst 1, 1) := by decide +kernel
theorem dX10_factLine_36 : decode cX10_factLine 36 = .ok (.bipush 9, 2) := by decide +kernel
theorem dX10_factLine_38 : decode cX10_factLine 38 = .ok (.invokevirtual 261, 3) := by decide +kernel
theorem dX10_factLine_41 : decode cX10_factLine 41 = .ok (.iastore, 1) := by decide +kernel
theorem dX10_factLine_42 : decode cX10_factLine 42 = .ok (.aload_n 0, 1) := by decide +kernel
theorem dX10_factLine_43 : decode cX10_factLine 43 = .ok (.getfield 89, 3) := by decide +kernel
theorem dX10_factLine_46 : decode cX10_factLine 46 = .ok (.ifCond .ne 13, 3) := by decide +kernel
theorem dX10_factLine_49 : decode cX10_factLine 49 = .ok (.aload_n 0, 1) := by decide +kernel
theorem dX10_factLine_50 : decode cX10_factLine 50 = .ok (.getfield 23, 3) := by decide +kernel
theorem dX10_factLine_53 : decode cX10_factLine 53 = .ok (.iconst 1, 1) := by decide +kernel
theorem dX10_factLine_54 : decode cX10_factLine 54 = .ok (.dup2, 1) := by decide +kernel
theorem dX10_factLine_55 : decode cX10_factLine 55 = .ok (.iaload, 1) := by decide +kernel
theorem dX10_factLine_56 : decode cX10_factLine 56 = .ok (.iconst 1, 1) := by decide +kernel
theorem dX10_factLine_57 : decode cX10_factLine 57 = .ok (.iadd, 1) := by decide +kernel
theorem dX10_factLine_58 : decode cX10_factLine 58 = .ok (.iastore, 1) := by decide +kernel
theorem dX10_factLine_59 : decode cX10_factLine 59 = .ok (.return_, 1) := by decide +kernel
theorem dX10_lawLine_0 : decode cX10_lawLine 0 = .ok (.aload_n 0, 1) := by decide +kernel
theorem dX10_lawLine_1 : decode cX10_lawLine 1 = .ok (.getfield 89, 3) := by decide +kernel
theorem dX10_lawLine_4 : decode cX10_lawLine 4 = .ok (.ifCond .eq 4, 3) := by decide +kernel
theorem dX10_lawLine_7 : decode cX10_lawLine 7 = .ok (.return_, 1) := by decide +kernel
theorem dX10_lawLine_8 : decode cX10_lawLine 8 = .ok (.aload_n 0, 1) := by decide +kernel
theorem dX10_lawLine_9 : decode cX10_lawLine 9 = .ok (.iconst 0, 1) := by decide +kernel
theorem dX10_lawLine_10 : decode cX10_lawLine 10 = .ok (.putfield 192, 3) := by decide +kernel
theorem dX10_lawLine_13 : decode cX10_lawLine 13 = .ok (.aload_n 0, 1) := by decide +kernel
theorem dX10_lawLine_14 : decode cX10_lawLine 14 = .ok (.iconst 0, 1) := by decide +kernel
theorem dX10_lawLine_15 : decode cX10_lawLine 15 = .ok (.putfield 183, 3) := by decide +kernel
theorem dX10_lawLine_18 : decode cX10_lawLine 18 = .ok (.aload_n 0, 1) := by decide +kernel
theorem dX10_lawLine_19 : decode cX10_lawLine 19 = .ok (.invokevirtual 186, 3) := by decide +kernel
theorem dX10_lawLine_22 : decode cX10_lawLine 22 = .ok (.lstore_n 2, 1) := by decide +kernel
theorem dX10_lawLine_23 : decode cX10_lawLine 23 = .ok (.aload_n 0, 1) := by decide +kernel
theorem dX10_lawLine_24 : decode cX10_lawLine 24 = .ok (.getfield 89, 3) := by decide +kernel
theorem dX10_lawLine_27 : decode cX10_lawLine 27 = .ok (.ifCond .eq 4, 3) := by decide +kernel
theorem dX10_lawLine_30 : decode cX10_lawLine 30 = .ok (.return_, 1) := by decide +kernel
theorem dX10_lawLine_31 : decode cX10_lawLine 31 = .ok (.aload_n 0, 1) := by decide +kernel
theorem dX10_lawLine_32 : decode cX10_lawLine 32 = .ok (.getfield 30, 3) := by decide +kernel
theorem dX10_lawLine_35 : decode cX10_lawLine 35 = .ok (.bipush 8, 2) := by decide +kernel
theorem dX10_lawLine_37 : decode cX10_lawLine 37 = .ok (.dup2, 1) := by decide +kernel
theorem dX10_lawLine_38 : decode cX10_lawLine 38 = .ok (.laload, 1) := by decide +kernel
theorem dX10_lawLine_39 : decode cX10_lawLine 39 = .ok (.lload_n 2, 1) := by decide +kernel
theorem dX10_lawLine_40 : decode cX10_lawLine 40 = .ok (.land, 1) := by decide +kernel
theorem dX10_lawLine_41 : decode cX10_lawLine 41 = .ok (.lastore, 1) := by decide +kernel
theorem dX10_lawLine_42 : decode cX10_lawLine 42 = .ok (.aload_n 0, 1) := by decide +kernel
theorem dX10_lawLine_43 : decode cX10_lawLine 43 = .ok (.getfield 23, 3) := by decide +kernel
theorem dX10_lawLine_46 : decode cX10_lawLine 46 = .ok (.bipush 10, 2) := by decide +kernel
theorem dX10_lawLine_48 : decode cX10_lawLine 48 = .ok (.iaload, 1) := by decide +kernel
theorem dX10_lawLine_49 : decode cX10_lawLine 49 = .ok (.ifCond .eq 27, 3) := by decide +kernel
theorem dX10_lawLine_52 : decode cX10_lawLine 52 = .ok (.aload_n 0, 1) := by decide +kernel
theorem dX10_lawLine_53 : decode cX10_lawLine 53 = .ok (.getfield 30, 3) := by decide +kernel
theorem dX10_lawLine_56 : decode cX10_lawLine 56 = .ok (.bipush 8, 2) := by decide +kernel
theorem dX10_lawLine_58 : decode cX10_lawLine 58 = .ok (.laload, 1) := by decide +kernel
theorem dX10_lawLine_59 : decode cX10_lawLine 59 = .ok (.aload_n 0, 1) := by decide +kernel
theorem dX10_lawLine_60 : decode cX10_lawLine 60 = .ok (.getfield 23, 3) := by decide +kernel
theorem dX10_lawLine_63 : decode cX10_lawLine 63 = .ok (.bipush 10, 2) := by decide +kernel
theorem dX10_lawLine_65 : decode cX10_lawLine 65 = .ok (.iaload, 1) := by decide +kernel
theorem dX10_lawLine_66 : decode cX10_lawLine 66 = .ok (.iconst 1, 1) := by decide +kernel
theorem dX10_lawLine_67 : decode cX10_lawLine 67 = .ok (.isub, 1) := by decide +kernel
theorem dX10_lawLine_68 : decode cX10_lawLine 68 = .ok (.lshr, 1) := by decide +kernel
theorem dX10_lawLine_69 : decode cX10_lawLine 69 = .ok (.lconst 1, 1) := by decide +kernel
theorem dX10_lawLine_70 : decode cX10_lawLine 70 = .ok (.land, 1) := by decide +kernel
theorem dX10_lawLine_71 : decode cX10_lawLine 71 = .ok (.lconst 1, 1) := by decide +kernel
theorem dX10_lawLine_72 : decode cX10_lawLine 72 = .ok (.lcmp, 1) := by decide +kernel
theorem dX10_lawLine_73 : decode cX10_lawLine 73 = .ok (.ifCond .ne 7, 3) := by decide +kernel
theorem dX10_lawLine_76 : decode cX10_lawLine 76 = .ok (.iconst 1, 1) := by decide +kernel
theorem dX10_lawLine_77 : decode cX10_lawLine 77 = .ok (.goto 4, 3) := by decide +kernel
theorem dX10_lawLine_80 : decode cX10_lawLine 80 = .ok (.iconst 0, 1) := by decide +kernel
theorem dX10_lawLine_81 : decode cX10_lawLine 81 = .ok (.istore 4, 2) := by decide +kernel
theorem dX10_lawLine_83 : decode cX10_lawLine 83 = .ok (.aload_n 0, 1) := by decide +kernel
theorem dX10_lawLine_84 : decode cX10_lawLine 84 = .ok (.getfield 30, 3) := by decide +kernel
theorem dX10_lawLine_87 : decode cX10_lawLine 87 = .ok (.bipush 8, 2) := by decide +kernel
theorem dX10_lawLine_89 : decode cX10_lawLine 89 = .ok (.laload, 1) := by decide +kernel
theorem dX10_lawLine_90 : decode cX10_lawLine 90 = .ok (.lconst 0, 1) := by decide +kernel
theorem dX10_lawLine_91 : decode cX10_lawLine 91 = .ok (.lcmp, 1) := by decide +kernel
theorem dX10_lawLine_92 : decode cX10_lawLine 92 = .ok (.ifCond .eq 8, 3) := by decide +kernel
theorem dX10_lawLine_95 : decode cX10_lawLine 95 = .ok (.iload 4, 2) := by decide +kernel
theorem dX10_lawLine_97 : decode cX10_lawLine 97 = .ok (.ifCond .ne 10, 3) := by decide +kernel
theorem dX10_lawLine_100 : decode cX10_lawLine 100 = .ok (.aload_n 0, 1) := by decide +kernel
theorem dX10_lawLine_101 : decode cX10_lawLine 101 = .ok (.bipush 7, 2) := by decide +kernel
theorem dX10_lawLine_103 : decode cX10_lawLine 103 = .ok (.iload_n 1, 1) := by decide +kernel
theorem dX10_lawLine_104 : decode cX10_lawLine 104 = .ok (.invokevirtual 116, 3) := by decide +kernel
theorem dX10_lawLine_107 : decode cX10_lawLine 107 = .ok (.aload_n 0, 1) := by decide +kernel
theorem dX10_lawLine_108 : decode cX10_lawLine 108 = .ok (.getfield 23, 3) := by decide +kernel
theorem dX10_lawLine_111 : decode cX10_lawLine 111 = .ok (.iconst 2, 1) := by decide +kernel
theorem dX10_lawLine_112 : decode cX10_lawLine 112 = .ok (.dup2, 1) := by decide +kernel
theorem dX10_lawLine_113 : decode cX10_lawLine 113 = .ok (.iaload, 1) := by decide +kernel
theorem dX10_lawLine_114 : decode cX10_lawLine 114 = .ok (.iconst 1, 1) := by decide +kernel
theorem dX10_lawLine_115 : decode cX10_lawLine 115 = .ok (.iadd, 1) := by decide +kernel
theorem dX10_lawLine_116 : decode cX10_lawLine 116 = .ok (.iastore, 1) := by decide +kernel
theorem dX10_lawLine_117 : decode cX10_lawLine 117 = .ok (.return_, 1) := by decide +kernel
theorem dX10_truthLine_0 : decode cX10_truthLine 0 = .ok (.aload_n 0, 1) := by decide +kernel
theorem dX10_truthLine_1 : decode cX10_truthLine 1 = .ok (.getfield 23, 3) := by decide +kernel
theorem dX10_truthLine_4 : decode cX10_truthLine 4 = .ok (.bipush 10, 2) := by decide +kernel
theorem dX10_truthLine_6 : decode cX10_truthLine 6 = .ok (.iaload, 1) := by decide +kernel
theorem dX10_truthLine_7 : decode cX10_truthLine 7 = .ok (.ifCond .le 12, 3) := by decide +kernel
theorem dX10_truthLine_10 : decode cX10_truthLine 10 = .ok (.aload_n 0, 1) := by decide +kernel
theorem dX10_truthLine_11 : decode cX10_truthLine 11 = .ok (.iconst 3, 1) := by decide +kernel
theorem dX10_truthLine_12 : decode cX10_truthLine 12 = .ok (.aload_n 0, 1) := by decide +kernel
theorem dX10_truthLine_13 : decode cX10_truthLine 13 = .ok (.getfield 70, 3) := by decide +kernel
theorem dX10_truthLine_16 : decode cX10_truthLine 16 = .ok (.invokevirtual 116, 3) := by decide +kernel
theorem dX10_truthLine_19 : decode cX10_truthLine 19 = .ok (.aload_n 0, 1) := by decide +kernel
theorem dX10_truthLine_20 : decode cX10_truthLine 20 = .ok (.getfield 23, 3) := by decide +kernel
theorem dX10_truthLine_23 : decode cX10_truthLine 23 = .ok (.bipush 9, 2) := by decide +kernel
theorem dX10_truthLine_25 : decode cX10_truthLine 25 = .ok (.iaload, 1) := by decide +kernel
theorem dX10_truthLine_26 : decode cX10_truthLine 26 = .ok (.ifCond .ne 13, 3) := by decide +kernel
theorem dX10_truthLine_29 : decode cX10_truthLine 29 = .ok (.aload_n 0, 1) := by decide +kernel
theorem dX10_truthLine_30 : decode cX10_truthLine 30 = .ok (.bipush 6, 2) := by decide +kernel
theorem dX10_truthLine_32 : decode cX10_truthLine 32 = .ok (.aload_n 0, 1) := by decide +kernel
theorem dX10_truthLine_33 : decode cX10_truthLine 33 = .ok (.getfield 70, 3) := by decide +kernel
theorem dX10_truthLine_36 : decode cX10_truthLine 36 = .ok (.invokevirtual 116, 3) := by decide +kernel
theorem dX10_truthLine_39 : decode cX10_truthLine 39 = .ok (.aload_n 0, 1) := by decide +kernel
theorem dX10_truthLine_40 : decode cX10_truthLine 40 = .ok (.getfield 89, 3) := by decide +kernel
theorem dX10_truthLine_43 : decode cX10_truthLine 43 = .ok (.ifCond .eq 4, 3) := by decide +kernel
theorem dX10_truthLine_46 : decode cX10_truthLine 46 = .ok (.return_, 1) := by decide +kernel
theorem dX10_truthLine_47 : decode cX10_truthLine 47 = .ok (.aload_n 0, 1) := by decide +kernel
theorem dX10_truthLine_48 : decode cX10_truthLine 48 = .ok (.invokevirtual 110, 3) := by decide +kernel
theorem dX10_truthLine_51 : decode cX10_truthLine 51 = .ok (.iconst 0, 1) := by decide +kernel
theorem dX10_truthLine_52 : decode cX10_truthLine 52 = .ok (.istore_n 2, 1) := by decide +kernel
theorem dX10_truthLine_53 : decode cX10_truthLine 53 = .ok (.aload_n 0, 1) := by decide +kernel
theorem dX10_truthLine_54 : decode cX10_truthLine 54 = .ok (.ldc 128, 2) := by decide +kernel
theorem dX10_truthLine_56 : decode cX10_truthLine 56 = .ok (.invokevirtual 113, 3) := by decide +kernel
theorem dX10_truthLine_59 : decode cX10_truthLine 59 = .ok (.ifCond .ne 7, 3) := by decide +kernel
theorem dX10_truthLine_62 : decode cX10_truthLine 62 = .ok (.iconst 1, 1) := by decide +kernel
theorem dX10_truthLine_63 : decode cX10_truthLine 63 = .ok (.goto 4, 3) := by decide +kernel
theorem dX10_truthLine_66 : decode cX10_truthLine 66 = .ok (.iconst 0, 1) := by decide +kernel
theorem dX10_truthLine_67 : decode cX10_truthLine 67 = .ok (.istore_n 3, 1) := by decide +kernel
theorem dX10_truthLine_68 : decode cX10_truthLine 68 = .ok (.iload_n 3, 1) := by decide +kernel
theorem dX10_truthLine_69 : decode cX10_truthLine 69 = .ok (.ifCond .eq 65, 3) := by decide +kernel
theorem dX10_truthLine_72 : decode cX10_truthLine 72 = .ok (.aload_n 0, 1) := by decide +kernel
theorem dX10_truthLine_73 : decode cX10_truthLine 73 = .ok (.iconst 0, 1) := by decide +kernel
theorem dX10_truthLine_74 : decode cX10_truthLine 74 = .ok (.iconst 5, 1) := by decide +kernel
theorem dX10_truthLine_75 : decode cX10_truthLine 75 = .ok (.invokevirtual 160, 3) := by decide +kernel
theorem dX10_truthLine_78 : decode cX10_truthLine 78 = .ok (.istore 4, 2) := by decide +kernel
theorem dX10_truthLine_80 : decode cX10_truthLine 80 = .ok (.aload_n 0, 1) := by decide +kernel
theorem dX10_truthLine_81 : decode cX10_truthLine 81 = .ok (.getfield 89, 3) := by decide +kernel
theorem dX10_truthLine_84 : decode cX10_truthLine 84 = .ok (.ifCond .ne 21, 3) := by decide +kernel
theorem dX10_truthLine_87 : decode cX10_truthLine 87 = .ok (.iload_n 2, 1) := by decide +kernel
theorem dX10_truthLine_88 : decode cX10_truthLine 88 = .ok (.iload 4, 2) := by decide +kernel
theorem dX10_truthLine_90 : decode cX10_truthLine 90 = .ok (.invokestatic 270, 3) := by decide +kernel
theorem dX10_truthLine_93 : decode cX10_truthLine 93 = .ok (.ifCond .eq 12, 3) := by decide +kernel
theorem dX10_truthLine_96 : decode cX10_truthLine 96 = .ok (.aload_n 0, 1) := by decide +kernel
theorem dX10_truthLine_97 : decode cX10_truthLine 97 = .ok (.iconst 3, 1) := by decide +kernel
theorem dX10_truthLine_98 : decode cX10_truthLine 98 = .ok (.aload_n 0, 1) := by decide +kernel
theorem dX10_truthLine_99 : decode cX10_truthLine 99 = .ok (.getfield 70, 3) := by decide +kernel
theorem dX10_truthLine_102 : decode cX10_truthLine 102 = .ok (.invokevirtual 116, 3) := by decide +kernel
theorem dX10_truthLine_105 : decode cX10_truthLine 105 = .ok (.aload_n 0, 1) := by decide +kernel
theorem dX10_truthLine_106 : decode cX10_truthLine 106 = .ok (.getfield 89, 3) := by decide +kernel
theorem dX10_truthLine_109 : decode cX10_truthLine 109 = .ok (.ifCond .eq 4, 3) := by decide +kernel
theorem dX10_truthLine_112 : decode cX10_truthLine 112 = .ok (.return_, 1) := by decide +kernel
theorem dX10_truthLine_113 : decode cX10_truthLine 113 = .ok (.iload_n 2, 1) := by decide +kernel
theorem dX10_truthLine_114 : decode cX10_truthLine 114 = .ok (.iconst 1, 1) := by decide +kernel
theorem dX10_truthLine_115 : decode cX10_truthLine 115 = .ok (.iload 4, 2) := by decide +kernel
theorem dX10_truthLine_117 : decode cX10_truthLine 117 = .ok (.ishl, 1) := by decide +kernel
theorem dX10_truthLine_118 : decode cX10_truthLine 118 = .ok (.ior, 1) := by decide +kernel
theorem dX10_truthLine_119 : decode cX10_truthLine 119 = .ok (.istore_n 2, 1) := by decide +kernel
theorem dX10_truthLine_120 : decode cX10_truthLine 120 = .ok (.aload_n 0, 1) := by decide +kernel
theorem dX10_truthLine_121 : decode cX10_truthLine 121 = .ok (.invokevirtual 110, 3) := by decide +kernel
theorem dX10_truthLine_124 : decode cX10_truthLine 124 = .ok (.aload_n 0, 1) := by decide +kernel
theorem dX10_truthLine_125 : decode cX10_truthLine 125 = .ok (.bipush 44, 2) := by decide +kernel
theorem dX10_truthLine_127 : decode cX10_truthLine 127 = .ok (.invokevirtual 189, 3) := by decide +kernel
theorem dX10_truthLine_130 : decode cX10_truthLine 130 = .ok (.istore_n 3, 1) := by decide +kernel
theorem dX10_truthLine_131 : decode cX10_truthLine 131 = .ok (.goto (-63), 3) := by decide +kernel
theorem dX10_truthLine_134 : decode cX10_truthLine 134 = .ok (.aload_n 0, 1) := by decide +kernel
theorem dX10_truthLine_135 : decode cX10_truthLine 135 = .ok (.getfield 30, 3) := by decide +kernel
theorem dX10_truthLine_138 : decode cX10_truthLine 138 = .ok (.bipush 8, 2) := by decide +kernel
theorem dX10_truthLine_140 : decode cX10_truthLine 140 = .ok (.laload, 1) := by decide +kernel
theorem dX10_truthLine_141 : decode cX10_truthLine 141 = .ok (.iload_n 2, 1) := by decide +kernel
theorem dX10_truthLine_142 : decode cX10_truthLine 142 = .ok (.lshr, 1) := by decide +kernel
theorem dX10_truthLine_143 : decode cX10_truthLine 143 = .ok (.lconst 1, 1) := by decide +kernel
theorem dX10_truthLine_144 : decode cX10_truthLine 144 = .ok (.land, 1) := by decide +kernel
theorem dX10_truthLine_145 : decode cX10_truthLine 145 = .ok (.lconst 0, 1) := by decide +kernel
theorem dX10_truthLine_146 : decode cX10_truthLine 146 = .ok (.lcmp, 1) := by decide +kernel
theorem dX10_truthLine_147 : decode cX10_truthLine 147 = .ok (.ifCond .ne 10, 3) := by decide +kernel
theorem dX10_truthLine_150 : decode cX10_truthLine 150 = .ok (.aload_n 0, 1) := by decide +kernel
theorem dX10_truthLine_151 : decode cX10_truthLine 151 = .ok (.bipush 7, 2) := by decide +kernel
theorem dX10_truthLine_153 : decode cX10_truthLine 153 = .ok (.iload_n 1, 1) := by decide +kernel
theorem dX10_truthLine_154 : decode cX10_truthLine 154 = .ok (.invokevirtual 116, 3) := by decide +kernel
theorem dX10_truthLine_157 : decode cX10_truthLine 157 = .ok (.aload_n 0, 1) := by decide +kernel
theorem dX10_truthLine_158 : decode cX10_truthLine 158 = .ok (.getfield 23, 3) := by decide +kernel
theorem dX10_truthLine_161 : decode cX10_truthLine 161 = .ok (.bipush 10, 2) := by decide +kernel
theorem dX10_truthLine_163 : decode cX10_truthLine 163 = .ok (.iload_n 2, 1) := by decide +kernel
theorem dX10_truthLine_164 : decode cX10_truthLine 164 = .ok (.iconst 1, 1) := by decide +kernel
theorem dX10_truthLine_165 : decode cX10_truthLine 165 = .ok (.iadd, 1) := by decide +kernel
theorem dX10_truthLine_166 : decode cX10_truthLine 166 = .ok (.iastore, 1) := by decide +kernel
theorem dX10_truthLine_167 : decode cX10_truthLine 167 = .ok (.return_, 1) := by decide +kernel
theorem dX10_houseLine_0 : decode cX10_houseLine 0 = .ok (.aload_n 0, 1) := by decide +kernel
theorem dX10_houseLine_1 : decode cX10_houseLine 1 = .ok (.getfield 89, 3) := by decide +kernel
theorem dX10_houseLine_4 : decode cX10_houseLine 4 = .ok (.ifCond .eq 4, 3) := by decide +kernel
theorem dX10_houseLine_7 : decode cX10_houseLine 7 = .ok (.return_, 1) := by decide +kernel
theorem dX10_houseLine_8 : decode cX10_houseLine 8 = .ok (.bipush 17, 2) := by decide +kernel
theorem dX10_houseLine_10 : decode cX10_houseLine 10 = .ok (.iconst 4, 1) := by decide +kernel
theorem dX10_houseLine_11 : decode cX10_houseLine 11 = .ok (.aload_n 0, 1) := by decide +kernel
