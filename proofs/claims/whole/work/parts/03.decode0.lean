theorem dX0_init_0 : decode cX0_init 0 = .ok (.aload_n 0, 1) := by decide +kernel
theorem dX0_init_1 : decode cX0_init 1 = .ok (.invokespecial 1, 3) := by decide +kernel
theorem dX0_init_4 : decode cX0_init 4 = .ok (.aload_n 0, 1) := by decide +kernel
theorem dX0_init_5 : decode cX0_init 5 = .ok (.bipush 12, 2) := by decide +kernel
theorem dX0_init_7 : decode cX0_init 7 = .ok (.newarray .int, 2) := by decide +kernel
theorem dX0_init_9 : decode cX0_init 9 = .ok (.putfield 9, 3) := by decide +kernel
theorem dX0_init_12 : decode cX0_init 12 = .ok (.aload_n 0, 1) := by decide +kernel
theorem dX0_init_13 : decode cX0_init 13 = .ok (.bipush 12, 2) := by decide +kernel
theorem dX0_init_15 : decode cX0_init 15 = .ok (.newarray .int, 2) := by decide +kernel
theorem dX0_init_17 : decode cX0_init 17 = .ok (.putfield 13, 3) := by decide +kernel
theorem dX0_init_20 : decode cX0_init 20 = .ok (.aload_n 0, 1) := by decide +kernel
theorem dX0_init_21 : decode cX0_init 21 = .ok (.bipush 12, 2) := by decide +kernel
theorem dX0_init_23 : decode cX0_init 23 = .ok (.newarray .int, 2) := by decide +kernel
theorem dX0_init_25 : decode cX0_init 25 = .ok (.putfield 16, 3) := by decide +kernel
theorem dX0_init_28 : decode cX0_init 28 = .ok (.return_, 1) := by decide +kernel
theorem dX0_clear_0 : decode cX0_clear 0 = .ok (.aload_n 0, 1) := by decide +kernel
theorem dX0_clear_1 : decode cX0_clear 1 = .ok (.iconst 0, 1) := by decide +kernel
theorem dX0_clear_2 : decode cX0_clear 2 = .ok (.putfield 19, 3) := by decide +kernel
theorem dX0_clear_5 : decode cX0_clear 5 = .ok (.return_, 1) := by decide +kernel
theorem dX0_keep_0 : decode cX0_keep 0 = .ok (.aload_n 0, 1) := by decide +kernel
theorem dX0_keep_1 : decode cX0_keep 1 = .ok (.getfield 19, 3) := by decide +kernel
theorem dX0_keep_4 : decode cX0_keep 4 = .ok (.bipush 12, 2) := by decide +kernel
theorem dX0_keep_6 : decode cX0_keep 6 = .ok (.if_icmp .lt 7, 3) := by decide +kernel
theorem dX0_keep_9 : decode cX0_keep 9 = .ok (.aload_n 0, 1) := by decide +kernel
theorem dX0_keep_10 : decode cX0_keep 10 = .ok (.invokevirtual 23, 3) := by decide +kernel
theorem dX0_keep_13 : decode cX0_keep 13 = .ok (.aload_n 0, 1) := by decide +kernel
theorem dX0_keep_14 : decode cX0_keep 14 = .ok (.getfield 19, 3) := by decide +kernel
theorem dX0_keep_17 : decode cX0_keep 17 = .ok (.ifCond .lt 12, 3) := by decide +kernel
theorem dX0_keep_20 : decode cX0_keep 20 = .ok (.aload_n 0, 1) := by decide +kernel
theorem dX0_keep_21 : decode cX0_keep 21 = .ok (.getfield 19, 3) := by decide +kernel
theorem dX0_keep_24 : decode cX0_keep 24 = .ok (.bipush 12, 2) := by decide +kernel
theorem dX0_keep_26 : decode cX0_keep 26 = .ok (.if_icmp .lt 4, 3) := by decide +kernel
theorem dX0_keep_29 : decode cX0_keep 29 = .ok (.return_, 1) := by decide +kernel
theorem dX0_keep_30 : decode cX0_keep 30 = .ok (.aload_n 0, 1) := by decide +kernel
theorem dX0_keep_31 : decode cX0_keep 31 = .ok (.getfield 9, 3) := by decide +kernel
theorem dX0_keep_34 : decode cX0_keep 34 = .ok (.aload_n 0, 1) := by decide +kernel
theorem dX0_keep_35 : decode cX0_keep 35 = .ok (.getfield 19, 3) := by decide +kernel
theorem dX0_keep_38 : decode cX0_keep 38 = .ok (.iload_n 1, 1) := by decide +kernel
theorem dX0_keep_39 : decode cX0_keep 39 = .ok (.iastore, 1) := by decide +kernel
theorem dX0_keep_40 : decode cX0_keep 40 = .ok (.aload_n 0, 1) := by decide +kernel
theorem dX0_keep_41 : decode cX0_keep 41 = .ok (.getfield 13, 3) := by decide +kernel
theorem dX0_keep_44 : decode cX0_keep 44 = .ok (.aload_n 0, 1) := by decide +kernel
theorem dX0_keep_45 : decode cX0_keep 45 = .ok (.getfield 19, 3) := by decide +kernel
theorem dX0_keep_48 : decode cX0_keep 48 = .ok (.iload_n 2, 1) := by decide +kernel
theorem dX0_keep_49 : decode cX0_keep 49 = .ok (.iastore, 1) := by decide +kernel
theorem dX0_keep_50 : decode cX0_keep 50 = .ok (.aload_n 0, 1) := by decide +kernel
theorem dX0_keep_51 : decode cX0_keep 51 = .ok (.getfield 16, 3) := by decide +kernel
theorem dX0_keep_54 : decode cX0_keep 54 = .ok (.aload_n 0, 1) := by decide +kernel
theorem dX0_keep_55 : decode cX0_keep 55 = .ok (.getfield 19, 3) := by decide +kernel
theorem dX0_keep_58 : decode cX0_keep 58 = .ok (.iload_n 3, 1) := by decide +kernel
theorem dX0_keep_59 : decode cX0_keep 59 = .ok (.iastore, 1) := by decide +kernel
theorem dX0_keep_60 : decode cX0_keep 60 = .ok (.aload_n 0, 1) := by decide +kernel
theorem dX0_keep_61 : decode cX0_keep 61 = .ok (.dup, 1) := by decide +kernel
theorem dX0_keep_62 : decode cX0_keep 62 = .ok (.getfield 19, 3) := by decide +kernel
theorem dX0_keep_65 : decode cX0_keep 65 = .ok (.iconst 1, 1) := by decide +kernel
theorem dX0_keep_66 : decode cX0_keep 66 = .ok (.iadd, 1) := by decide +kernel
theorem dX0_keep_67 : decode cX0_keep 67 = .ok (.putfield 19, 3) := by decide +kernel
theorem dX0_keep_70 : decode cX0_keep 70 = .ok (.return_, 1) := by decide +kernel
theorem dX0_dropOldest_0 : decode cX0_dropOldest 0 = .ok (.iconst 1, 1) := by decide +kernel
theorem dX0_dropOldest_1 : decode cX0_dropOldest 1 = .ok (.istore_n 1, 1) := by decide +kernel
theorem dX0_dropOldest_2 : decode cX0_dropOldest 2 = .ok (.iload_n 1, 1) := by decide +kernel
theorem dX0_dropOldest_3 : decode cX0_dropOldest 3 = .ok (.bipush 12, 2) := by decide +kernel
theorem dX0_dropOldest_5 : decode cX0_dropOldest 5 = .ok (.if_icmp .ge 51, 3) := by decide +kernel
theorem dX0_dropOldest_8 : decode cX0_dropOldest 8 = .ok (.aload_n 0, 1) := by decide +kernel
theorem dX0_dropOldest_9 : decode cX0_dropOldest 9 = .ok (.getfield 9, 3) := by decide +kernel
theorem dX0_dropOldest_12 : decode cX0_dropOldest 12 = .ok (.iload_n 1, 1) := by decide +kernel
theorem dX0_dropOldest_13 : decode cX0_dropOldest 13 = .ok (.iconst 1, 1) := by decide +kernel
theorem dX0_dropOldest_14 : decode cX0_dropOldest 14 = .ok (.isub, 1) := by decide +kernel
theorem dX0_dropOldest_15 : decode cX0_dropOldest 15 = .ok (.aload_n 0, 1) := by decide +kernel
theorem dX0_dropOldest_16 : decode cX0_dropOldest 16 = .ok (.getfield 9, 3) := by decide +kernel
theorem dX0_dropOldest_19 : decode cX0_dropOldest 19 = .ok (.iload_n 1, 1) := by decide +kernel
theorem dX0_dropOldest_20 : decode cX0_dropOldest 20 = .ok (.iaload, 1) := by decide +kernel
theorem dX0_dropOldest_21 : decode cX0_dropOldest 21 = .ok (.iastore, 1) := by decide +kernel
theorem dX0_dropOldest_22 : decode cX0_dropOldest 22 = .ok (.aload_n 0, 1) := by decide +kernel
theorem dX0_dropOldest_23 : decode cX0_dropOldest 23 = .ok (.getfield 13, 3) := by decide +kernel
theorem dX0_dropOldest_26 : decode cX0_dropOldest 26 = .ok (.iload_n 1, 1) := by decide +kernel
theorem dX0_dropOldest_27 : decode cX0_dropOldest 27 = .ok (.iconst 1, 1) := by decide +kernel
theorem dX0_dropOldest_28 : decode cX0_dropOldest 28 = .ok (.isub, 1) := by decide +kernel
theorem dX0_dropOldest_29 : decode cX0_dropOldest 29 = .ok (.aload_n 0, 1) := by decide +kernel
theorem dX0_dropOldest_30 : decode cX0_dropOldest 30 = .ok (.getfield 13, 3) := by decide +kernel
theorem dX0_dropOldest_33 : decode cX0_dropOldest 33 = .ok (.iload_n 1, 1) := by decide +kernel
theorem dX0_dropOldest_34 : decode cX0_dropOldest 34 = .ok (.iaload, 1) := by decide +kernel
theorem dX0_dropOldest_35 : decode cX0_dropOldest 35 = .ok (.iastore, 1) := by decide +kernel
theorem dX0_dropOldest_36 : decode cX0_dropOldest 36 = .ok (.aload_n 0, 1) := by decide +kernel
theorem dX0_dropOldest_37 : decode cX0_dropOldest 37 = .ok (.getfield 16, 3) := by decide +kernel
theorem dX0_dropOldest_40 : decode cX0_dropOldest 40 = .ok (.iload_n 1, 1) := by decide +kernel
theorem dX0_dropOldest_41 : decode cX0_dropOldest 41 = .ok (.iconst 1, 1) := by decide +kernel
theorem dX0_dropOldest_42 : decode cX0_dropOldest 42 = .ok (.isub, 1) := by decide +kernel
theorem dX0_dropOldest_43 : decode cX0_dropOldest 43 = .ok (.aload_n 0, 1) := by decide +kernel
theorem dX0_dropOldest_44 : decode cX0_dropOldest 44 = .ok (.getfield 16, 3) := by decide +kernel
theorem dX0_dropOldest_47 : decode cX0_dropOldest 47 = .ok (.iload_n 1, 1) := by decide +kernel
theorem dX0_dropOldest_48 : decode cX0_dropOldest 48 = .ok (.iaload, 1) := by decide +kernel
theorem dX0_dropOldest_49 : decode cX0_dropOldest 49 = .ok (.iastore, 1) := by decide +kernel
theorem dX0_dropOldest_50 : decode cX0_dropOldest 50 = .ok (.iinc 1 1, 3) := by decide +kernel
theorem dX0_dropOldest_53 : decode cX0_dropOldest 53 = .ok (.goto (-51), 3) := by decide +kernel
theorem dX0_dropOldest_56 : decode cX0_dropOldest 56 = .ok (.aload_n 0, 1) := by decide +kernel
theorem dX0_dropOldest_57 : decode cX0_dropOldest 57 = .ok (.bipush 11, 2) := by decide +kernel
theorem dX0_dropOldest_59 : decode cX0_dropOldest 59 = .ok (.putfield 19, 3) := by decide +kernel
theorem dX0_dropOldest_62 : decode cX0_dropOldest 62 = .ok (.return_, 1) := by decide +kernel
theorem dX0_undoIn_0 : decode cX0_undoIn 0 = .ok (.aload_n 0, 1) := by decide +kernel
theorem dX0_undoIn_1 : decode cX0_undoIn 1 = .ok (.getfield 19, 3) := by decide +kernel
theorem dX0_undoIn_4 : decode cX0_undoIn 4 = .ok (.iconst 1, 1) := by decide +kernel
theorem dX0_undoIn_5 : decode cX0_undoIn 5 = .ok (.if_icmp .lt 12, 3) := by decide +kernel
theorem dX0_undoIn_8 : decode cX0_undoIn 8 = .ok (.aload_n 0, 1) := by decide +kernel
theorem dX0_undoIn_9 : decode cX0_undoIn 9 = .ok (.getfield 19, 3) := by decide +kernel
theorem dX0_undoIn_12 : decode cX0_undoIn 12 = .ok (.bipush 12, 2) := by decide +kernel
theorem dX0_undoIn_14 : decode cX0_undoIn 14 = .ok (.if_icmp .le 5, 3) := by decide +kernel
theorem dX0_undoIn_17 : decode cX0_undoIn 17 = .ok (.iconst 0, 1) := by decide +kernel
theorem dX0_undoIn_18 : decode cX0_undoIn 18 = .ok (.ireturn, 1) := by decide +kernel
theorem dX0_undoIn_19 : decode cX0_undoIn 19 = .ok (.aload_n 0, 1) := by decide +kernel
theorem dX0_undoIn_20 : decode cX0_undoIn 20 = .ok (.dup, 1) := by decide +kernel
theorem dX0_undoIn_21 : decode cX0_undoIn 21 = .ok (.getfield 19, 3) := by decide +kernel
theorem dX0_undoIn_24 : decode cX0_undoIn 24 = .ok (.iconst 1, 1) := by decide +kernel
theorem dX0_undoIn_25 : decode cX0_undoIn 25 = .ok (.isub, 1) := by decide +kernel
theorem dX0_undoIn_26 : decode cX0_undoIn 26 = .ok (.putfield 19, 3) := by decide +kernel
theorem dX0_undoIn_29 : decode cX0_undoIn 29 = .ok (.aload_n 0, 1) := by decide +kernel
theorem dX0_undoIn_30 : decode cX0_undoIn 30 = .ok (.getfield 9, 3) := by decide +kernel
theorem dX0_undoIn_33 : decode cX0_undoIn 33 = .ok (.aload_n 0, 1) := by decide +kernel
theorem dX0_undoIn_34 : decode cX0_undoIn 34 = .ok (.getfield 19, 3) := by decide +kernel
theorem dX0_undoIn_37 : decode cX0_undoIn 37 = .ok (.iaload, 1) := by decide +kernel
theorem dX0_undoIn_38 : decode cX0_undoIn 38 = .ok (.ifCond .ne 16, 3) := by decide +kernel
theorem dX0_undoIn_41 : decode cX0_undoIn 41 = .ok (.aload_n 1, 1) := by decide +kernel
theorem dX0_undoIn_42 : decode cX0_undoIn 42 = .ok (.dup, 1) := by decide +kernel
theorem dX0_undoIn_43 : decode cX0_undoIn 43 = .ok (.getfield 26, 3) := by decide +kernel
theorem dX0_undoIn_46 : decode cX0_undoIn 46 = .ok (.iconst 1, 1) := by decide +kernel
theorem dX0_undoIn_47 : decode cX0_undoIn 47 = .ok (.isub, 1) := by decide +kernel
theorem dX0_undoIn_48 : decode cX0_undoIn 48 = .ok (.putfield 26, 3) := by decide +kernel
theorem dX0_undoIn_51 : decode cX0_undoIn 51 = .ok (.goto 59, 3) := by decide +kernel
theorem dX0_undoIn_54 : decode cX0_undoIn 54 = .ok (.aload_n 0, 1) := by decide +kernel
theorem dX0_undoIn_55 : decode cX0_undoIn 55 = .ok (.getfield 9, 3) := by decide +kernel
theorem dX0_undoIn_58 : decode cX0_undoIn 58 = .ok (.aload_n 0, 1) := by decide +kernel
theorem dX0_undoIn_59 : decode cX0_undoIn 59 = .ok (.getfield 19, 3) := by decide +kernel
theorem dX0_undoIn_62 : decode cX0_undoIn 62 = .ok (.iaload, 1) := by decide +kernel
theorem dX0_undoIn_63 : decode cX0_undoIn 63 = .ok (.iconst 1, 1) := by decide +kernel
theorem dX0_undoIn_64 : decode cX0_undoIn 64 = .ok (.if_icmp .ne 28, 3) := by decide +kernel
theorem dX0_undoIn_67 : decode cX0_undoIn 67 = .ok (.aload_n 1, 1) := by decide +kernel
theorem dX0_undoIn_68 : decode cX0_undoIn 68 = .ok (.aload_n 0, 1) := by decide +kernel
theorem dX0_undoIn_69 : decode cX0_undoIn 69 = .ok (.getfield 13, 3) := by decide +kernel
theorem dX0_undoIn_72 : decode cX0_undoIn 72 = .ok (.aload_n 0, 1) := by decide +kernel
theorem dX0_undoIn_73 : decode cX0_undoIn 73 = .ok (.getfield 19, 3) := by decide +kernel
theorem dX0_undoIn_76 : decode cX0_undoIn 76 = .ok (.iaload, 1) := by decide +kernel
theorem dX0_undoIn_77 : decode cX0_undoIn 77 = .ok (.aload_n 0, 1) := by decide +kernel
theorem dX0_undoIn_78 : decode cX0_undoIn 78 = .ok (.getfield 16, 3) := by decide +kernel
theorem dX0_undoIn_81 : decode cX0_undoIn 81 = .ok (.aload_n 0, 1) := by decide +kernel
theorem dX0_undoIn_82 : decode cX0_undoIn 82 = .ok (.getfield 19, 3) := by decide +kernel
theorem dX0_undoIn_85 : decode cX0_undoIn 85 = .ok (.iaload, 1) := by decide +kernel
theorem dX0_undoIn_86 : decode cX0_undoIn 86 = .ok (.invokevirtual 29, 3) := by decide +kernel
theorem dX0_undoIn_89 : decode cX0_undoIn 89 = .ok (.goto 21, 3) := by decide +kernel
theorem dX0_undoIn_92 : decode cX0_undoIn 92 = .ok (.aload_n 1, 1) := by decide +kernel
theorem dX0_undoIn_93 : decode cX0_undoIn 93 = .ok (.dup, 1) := by decide +kernel
theorem dX0_undoIn_94 : decode cX0_undoIn 94 = .ok (.getfield 33, 3) := by decide +kernel
theorem dX0_undoIn_97 : decode cX0_undoIn 97 = .ok (.aload_n 0, 1) := by decide +kernel
theorem dX0_undoIn_98 : decode cX0_undoIn 98 = .ok (.getfield 13, 3) := by decide +kernel
theorem dX0_undoIn_101 : decode cX0_undoIn 101 = .ok (.aload_n 0, 1) := by decide +kernel
theorem dX0_undoIn_102 : decode cX0_undoIn 102 = .ok (.getfield 19, 3) := by decide +kernel
theorem dX0_undoIn_105 : decode cX0_undoIn 105 = .ok (.iaload, 1) := by decide +kernel
theorem dX0_undoIn_106 : decode cX0_undoIn 106 = .ok (.isub, 1) := by decide +kernel
theorem dX0_undoIn_107 : decode cX0_undoIn 107 = .ok (.putfield 33, 3) := by decide +kernel
theorem dX0_undoIn_110 : decode cX0_undoIn 110 = .ok (.iconst 1, 1) := by decide +kernel
theorem dX0_undoIn_111 : decode cX0_undoIn 111 = .ok (.ireturn, 1) := by decide +kernel
theorem dX1_init_0 : decode cX1_init 0 = .ok (.aload_n 0, 1) := by decide +kernel
theorem dX1_init_1 : decode cX1_init 1 = .ok (.invokespecial 3, 3) := by decide +kernel
theorem dX1_init_4 : decode cX1_init 4 = .ok (.return_, 1) := by decide +kernel
theorem dX1_clear_0 : decode cX1_clear 0 = .ok (.aload_n 0, 1) := by decide +kernel
theorem dX1_clear_1 : decode cX1_clear 1 = .ok (.iconst 0, 1) := by decide +kernel
theorem dX1_clear_2 : decode cX1_clear 2 = .ok (.putfield 9, 3) := by decide +kernel
theorem dX1_clear_5 : decode cX1_clear 5 = .ok (.aload_n 0, 1) := by decide +kernel
theorem dX1_clear_6 : decode cX1_clear 6 = .ok (.iconst 1, 1) := by decide +kernel
theorem dX1_clear_7 : decode cX1_clear 7 = .ok (.putfield 15, 3) := by decide +kernel
theorem dX1_clear_10 : decode cX1_clear 10 = .ok (.aload_n 0, 1) := by decide +kernel
theorem dX1_clear_11 : decode cX1_clear 11 = .ok (.iconst 0, 1) := by decide +kernel
theorem dX1_clear_12 : decode cX1_clear 12 = .ok (.putfield 18, 3) := by decide +kernel
theorem dX1_clear_15 : decode cX1_clear 15 = .ok (.aload_n 0, 1) := by decide +kernel
theorem dX1_clear_16 : decode cX1_clear 16 = .ok (.iconst 0, 1) := by decide +kernel
theorem dX1_clear_17 : decode cX1_clear 17 = .ok (.putfield 21, 3) := by decide +kernel
theorem dX1_clear_20 : decode cX1_clear 20 = .ok (.aload_n 0, 1) := by decide +kernel
theorem dX1_clear_21 : decode cX1_clear 21 = .ok (.iconst (-1), 1) := by decide +kernel
theorem dX1_clear_22 : decode cX1_clear 22 = .ok (.putfield 24, 3) := by decide +kernel
theorem dX1_clear_25 : decode cX1_clear 25 = .ok (.return_, 1) := by decide +kernel
theorem dX1_askingsOf_0 : decode cX1_askingsOf 0 = .ok (.iload_n 1, 1) := by decide +kernel
theorem dX1_askingsOf_1 : decode cX1_askingsOf 1 = .ok (.ifCond .lt 23, 3) := by decide +kernel
theorem dX1_askingsOf_4 : decode cX1_askingsOf 4 = .ok (.iload_n 1, 1) := by decide +kernel
theorem dX1_askingsOf_5 : decode cX1_askingsOf 5 = .ok (.bipush 30, 2) := by decide +kernel
theorem dX1_askingsOf_7 : decode cX1_askingsOf 7 = .ok (.if_icmp .gt 17, 3) := by decide +kernel
theorem dX1_askingsOf_10 : decode cX1_askingsOf 10 = .ok (.iconst 1, 1) := by decide +kernel
theorem dX1_askingsOf_11 : decode cX1_askingsOf 11 = .ok (.aload_n 0, 1) := by decide +kernel
theorem dX1_askingsOf_12 : decode cX1_askingsOf 12 = .ok (.getfield 21, 3) := by decide +kernel
theorem dX1_askingsOf_15 : decode cX1_askingsOf 15 = .ok (.i2l, 1) := by decide +kernel
theorem dX1_askingsOf_16 : decode cX1_askingsOf 16 = .ok (.iload_n 1, 1) := by decide +kernel
theorem dX1_askingsOf_17 : decode cX1_askingsOf 17 = .ok (.invokestatic 27, 3) := by decide +kernel
theorem dX1_askingsOf_20 : decode cX1_askingsOf 20 = .ok (.iadd, 1) := by decide +kernel
theorem dX1_askingsOf_21 : decode cX1_askingsOf 21 = .ok (.goto 4, 3) := by decide +kernel
theorem dX1_askingsOf_24 : decode cX1_askingsOf 24 = .ok (.iconst 1, 1) := by decide +kernel
theorem dX1_askingsOf_25 : decode cX1_askingsOf 25 = .ok (.ireturn, 1) := by decide +kernel
theorem dX1_yearOf_0 : decode cX1_yearOf 0 = .ok (.aload_n 0, 1) := by decide +kernel
theorem dX1_yearOf_1 : decode cX1_yearOf 1 = .ok (.getfield 9, 3) := by decide +kernel
theorem dX1_yearOf_4 : decode cX1_yearOf 4 = .ok (.iload_n 1, 1) := by decide +kernel
theorem dX1_yearOf_5 : decode cX1_yearOf 5 = .ok (.aload_n 0, 1) := by decide +kernel
theorem dX1_yearOf_6 : decode cX1_yearOf 6 = .ok (.getfield 15, 3) := by decide +kernel
theorem dX1_yearOf_9 : decode cX1_yearOf 9 = .ok (.imul, 1) := by decide +kernel
theorem dX1_yearOf_10 : decode cX1_yearOf 10 = .ok (.iadd, 1) := by decide +kernel
theorem dX1_yearOf_11 : decode cX1_yearOf 11 = .ok (.istore_n 2, 1) := by decide +kernel
theorem dX1_yearOf_12 : decode cX1_yearOf 12 = .ok (.aload_n 0, 1) := by decide +kernel
theorem dX1_yearOf_13 : decode cX1_yearOf 13 = .ok (.getfield 24, 3) := by decide +kernel
theorem dX1_yearOf_16 : decode cX1_yearOf 16 = .ok (.iconst (-1), 1) := by decide +kernel
theorem dX1_yearOf_17 : decode cX1_yearOf 17 = .ok (.if_icmp .eq 16, 3) := by decide +kernel
theorem dX1_yearOf_20 : decode cX1_yearOf 20 = .ok (.iload_n 2, 1) := by decide +kernel
theorem dX1_yearOf_21 : decode cX1_yearOf 21 = .ok (.aload_n 0, 1) := by decide +kernel
theorem dX1_yearOf_22 : decode cX1_yearOf 22 = .ok (.getfield 24, 3) := by decide +kernel
theorem dX1_yearOf_25 : decode cX1_yearOf 25 = .ok (.if_icmp .lt 8, 3) := by decide +kernel
theorem dX1_yearOf_28 : decode cX1_yearOf 28 = .ok (.bipush (-2), 2) := by decide +kernel
theorem dX1_yearOf_30 : decode cX1_yearOf 30 = .ok (.goto 4, 3) := by decide +kernel
theorem dX1_yearOf_33 : decode cX1_yearOf 33 = .ok (.iload_n 2, 1) := by decide +kernel
theorem dX1_yearOf_34 : decode cX1_yearOf 34 = .ok (.ireturn, 1) := by decide +kernel
theorem dX1_yearOfAsking_0 : decode cX1_yearOfAsking 0 = .ok (.iload_n 1, 1) := by decide +kernel
theorem dX1_yearOfAsking_1 : decode cX1_yearOfAsking 1 = .ok (.istore_n 2, 1) := by decide +kernel
theorem dX1_yearOfAsking_2 : decode cX1_yearOfAsking 2 = .ok (.iconst 0, 1) := by decide +kernel
theorem dX1_yearOfAsking_3 : decode cX1_yearOfAsking 3 = .ok (.istore_n 3, 1) := by decide +kernel
theorem dX1_yearOfAsking_4 : decode cX1_yearOfAsking 4 = .ok (.iload_n 3, 1) := by decide +kernel
theorem dX1_yearOfAsking_5 : decode cX1_yearOfAsking 5 = .ok (.iload_n 1, 1) := by decide +kernel
theorem dX1_yearOfAsking_6 : decode cX1_yearOfAsking 6 = .ok (.if_icmp .gt 27, 3) := by decide +kernel
theorem dX1_yearOfAsking_9 : decode cX1_yearOfAsking 9 = .ok (.iload_n 2, 1) := by decide +kernel
theorem dX1_yearOfAsking_10 : decode cX1_yearOfAsking 10 = .ok (.aload_n 0, 1) := by decide +kernel
theorem dX1_yearOfAsking_11 : decode cX1_yearOfAsking 11 = .ok (.iload_n 3, 1) := by decide +kernel
theorem dX1_yearOfAsking_12 : decode cX1_yearOfAsking 12 = .ok (.invokevirtual 31, 3) := by decide +kernel
theorem dX1_yearOfAsking_15 : decode cX1_yearOfAsking 15 = .ok (.isub, 1) := by decide +kernel
theorem dX1_yearOfAsking_16 : decode cX1_yearOfAsking 16 = .ok (.istore_n 2, 1) := by decide +kernel
theorem dX1_yearOfAsking_17 : decode cX1_yearOfAsking 17 = .ok (.iload_n 2, 1) := by decide +kernel
theorem dX1_yearOfAsking_18 : decode cX1_yearOfAsking 18 = .ok (.ifCond .ge 9, 3) := by decide +kernel
theorem dX1_yearOfAsking_21 : decode cX1_yearOfAsking 21 = .ok (.aload_n 0, 1) := by decide +kernel
theorem dX1_yearOfAsking_22 : decode cX1_yearOfAsking 22 = .ok (.iload_n 3, 1) := by decide +kernel
theorem dX1_yearOfAsking_23 : decode cX1_yearOfAsking 23 = .ok (.invokevirtual 35, 3) := by decide +kernel
theorem dX1_yearOfAsking_26 : decode cX1_yearOfAsking 26 = .ok (.ireturn, 1) := by decide +kernel
theorem dX1_yearOfAsking_27 : decode cX1_yearOfAsking 27 = .ok (.iinc 3 1, 3) := by decide +kernel
theorem dX1_yearOfAsking_30 : decode cX1_yearOfAsking 30 = .ok (.goto (-26), 3) := by decide +kernel
theorem dX1_yearOfAsking_33 : decode cX1_yearOfAsking 33 = .ok (.bipush (-2), 2) := by decide +kernel
theorem dX1_yearOfAsking_35 : decode cX1_yearOfAsking 35 = .ok (.ireturn, 1) := by decide +kernel
theorem dX1_yearFrom_0 : decode cX1_yearFrom 0 = .ok (.aload_n 0, 1) := by decide +kernel
theorem dX1_yearFrom_1 : decode cX1_yearFrom 1 = .ok (.getfield 9, 3) := by decide +kernel
theorem dX1_yearFrom_4 : decode cX1_yearFrom 4 = .ok (.iload_n 1, 1) := by decide +kernel
theorem dX1_yearFrom_5 : decode cX1_yearFrom 5 = .ok (.if_icmp .ge 11, 3) := by decide +kernel
theorem dX1_yearFrom_8 : decode cX1_yearFrom 8 = .ok (.aload_n 0, 1) := by decide +kernel
theorem dX1_yearFrom_9 : decode cX1_yearFrom 9 = .ok (.getfield 15, 3) := by decide +kernel
theorem dX1_yearFrom_12 : decode cX1_yearFrom 12 = .ok (.iconst 1, 1) := by decide +kernel
theorem dX1_yearFrom_13 : decode cX1_yearFrom 13 = .ok (.if_icmp .ge 9, 3) := by decide +kernel
theorem dX1_yearFrom_16 : decode cX1_yearFrom 16 = .ok (.aload_n 0, 1) := by decide +kernel
theorem dX1_yearFrom_17 : decode cX1_yearFrom 17 = .ok (.iconst 0, 1) := by decide +kernel
theorem dX1_yearFrom_18 : decode cX1_yearFrom 18 = .ok (.invokevirtual 35, 3) := by decide +kernel
theorem dX1_yearFrom_21 : decode cX1_yearFrom 21 = .ok (.ireturn, 1) := by decide +kernel
theorem dX1_yearFrom_22 : decode cX1_yearFrom 22 = .ok (.aload_n 0, 1) := by decide +kernel
theorem dX1_yearFrom_23 : decode cX1_yearFrom 23 = .ok (.iload_n 1, 1) := by decide +kernel
theorem dX1_yearFrom_24 : decode cX1_yearFrom 24 = .ok (.aload_n 0, 1) := by decide +kernel
theorem dX1_yearFrom_25 : decode cX1_yearFrom 25 = .ok (.getfield 9, 3) := by decide +kernel
theorem dX1_yearFrom_28 : decode cX1_yearFrom 28 = .ok (.isub, 1) := by decide +kernel
theorem dX1_yearFrom_29 : decode cX1_yearFrom 29 = .ok (.aload_n 0, 1) := by decide +kernel
theorem dX1_yearFrom_30 : decode cX1_yearFrom 30 = .ok (.getfield 15, 3) := by decide +kernel
theorem dX1_yearFrom_33 : decode cX1_yearFrom 33 = .ok (.iadd, 1) := by decide +kernel
theorem dX1_yearFrom_34 : decode cX1_yearFrom 34 = .ok (.iconst 1, 1) := by decide +kernel
theorem dX1_yearFrom_35 : decode cX1_yearFrom 35 = .ok (.isub, 1) := by decide +kernel
theorem dX1_yearFrom_36 : decode cX1_yearFrom 36 = .ok (.aload_n 0, 1) := by decide +kernel
theorem dX1_yearFrom_37 : decode cX1_yearFrom 37 = .ok (.getfield 15, 3) := by decide +kernel
theorem dX1_yearFrom_40 : decode cX1_yearFrom 40 = .ok (.idiv, 1) := by decide +kernel
theorem dX1_yearFrom_41 : decode cX1_yearFrom 41 = .ok (.invokevirtual 35, 3) := by decide +kernel
theorem dX1_yearFrom_44 : decode cX1_yearFrom 44 = .ok (.ireturn, 1) := by decide +kernel
theorem dX1_askingsTo_0 : decode cX1_askingsTo 0 = .ok (.aload_n 0, 1) := by decide +kernel
theorem dX1_askingsTo_1 : decode cX1_askingsTo 1 = .ok (.getfield 24, 3) := by decide +kernel
theorem dX1_askingsTo_4 : decode cX1_askingsTo 4 = .ok (.iconst (-1), 1) := by decide +kernel
theorem dX1_askingsTo_5 : decode cX1_askingsTo 5 = .ok (.if_icmp .eq 20, 3) := by decide +kernel
theorem dX1_askingsTo_8 : decode cX1_askingsTo 8 = .ok (.aload_n 0, 1) := by decide +kernel
theorem dX1_askingsTo_9 : decode cX1_askingsTo 9 = .ok (.getfield 24, 3) := by decide +kernel
theorem dX1_askingsTo_12 : decode cX1_askingsTo 12 = .ok (.iload_n 1, 1) := by decide +kernel
theorem dX1_askingsTo_13 : decode cX1_askingsTo 13 = .ok (.if_icmp .gt 12, 3) := by decide +kernel
theorem dX1_askingsTo_16 : decode cX1_askingsTo 16 = .ok (.aload_n 0, 1) := by decide +kernel
theorem dX1_askingsTo_17 : decode cX1_askingsTo 17 = .ok (.getfield 24, 3) := by decide +kernel
theorem dX1_askingsTo_20 : decode cX1_askingsTo 20 = .ok (.iconst 1, 1) := by decide +kernel
theorem dX1_askingsTo_21 : decode cX1_askingsTo 21 = .ok (.isub, 1) := by decide +kernel
theorem dX1_askingsTo_22 : decode cX1_askingsTo 22 = .ok (.goto 4, 3) := by decide +kernel
theorem dX1_askingsTo_25 : decode cX1_askingsTo 25 = .ok (.iload_n 1, 1) := by decide +kernel
theorem dX1_askingsTo_26 : decode cX1_askingsTo 26 = .ok (.istore_n 2, 1) := by decide +kernel
theorem dX1_askingsTo_27 : decode cX1_askingsTo 27 = .ok (.iload_n 2, 1) := by decide +kernel
theorem dX1_askingsTo_28 : decode cX1_askingsTo 28 = .ok (.aload_n 0, 1) := by decide +kernel
theorem dX1_askingsTo_29 : decode cX1_askingsTo 29 = .ok (.getfield 9, 3) := by decide +kernel
theorem dX1_askingsTo_32 : decode cX1_askingsTo 32 = .ok (.if_icmp .lt 11, 3) := by decide +kernel
theorem dX1_askingsTo_35 : decode cX1_askingsTo 35 = .ok (.aload_n 0, 1) := by decide +kernel
theorem dX1_askingsTo_36 : decode cX1_askingsTo 36 = .ok (.getfield 15, 3) := by decide +kernel
theorem dX1_askingsTo_39 : decode cX1_askingsTo 39 = .ok (.iconst 1, 1) := by decide +kernel
theorem dX1_askingsTo_40 : decode cX1_askingsTo 40 = .ok (.if_icmp .ge 5, 3) := by decide +kernel
theorem dX1_askingsTo_43 : decode cX1_askingsTo 43 = .ok (.iconst 0, 1) := by decide +kernel
theorem dX1_askingsTo_44 : decode cX1_askingsTo 44 = .ok (.ireturn, 1) := by decide +kernel
theorem dX1_askingsTo_45 : decode cX1_askingsTo 45 = .ok (.iload_n 2, 1) := by decide +kernel
theorem dX1_askingsTo_46 : decode cX1_askingsTo 46 = .ok (.aload_n 0, 1) := by decide +kernel
theorem dX1_askingsTo_47 : decode cX1_askingsTo 47 = .ok (.getfield 9, 3) := by decide +kernel
theorem dX1_askingsTo_50 : decode cX1_askingsTo 50 = .ok (.isub, 1) := by decide +kernel
theorem dX1_askingsTo_51 : decode cX1_askingsTo 51 = .ok (.aload_n 0, 1) := by decide +kernel
theorem dX1_askingsTo_52 : decode cX1_askingsTo 52 = .ok (.getfield 15, 3) := by decide +kernel
theorem dX1_askingsTo_55 : decode cX1_askingsTo 55 = .ok (.idiv, 1) := by decide +kernel
theorem dX1_askingsTo_56 : decode cX1_askingsTo 56 = .ok (.iconst 1, 1) := by decide +kernel
theorem dX1_askingsTo_57 : decode cX1_askingsTo 57 = .ok (.iadd, 1) := by decide +kernel
theorem dX1_askingsTo_58 : decode cX1_askingsTo 58 = .ok (.istore_n 3, 1) := by decide +kernel
theorem dX1_askingsTo_59 : decode cX1_askingsTo 59 = .ok (.iload_n 3, 1) := by decide +kernel
theorem dX1_askingsTo_60 : decode cX1_askingsTo 60 = .ok (.bipush 30, 2) := by decide +kernel
theorem dX1_askingsTo_62 : decode cX1_askingsTo 62 = .ok (.if_icmp .le 10, 3) := by decide +kernel
theorem dX1_askingsTo_65 : decode cX1_askingsTo 65 = .ok (.aload_n 0, 1) := by decide +kernel
theorem dX1_askingsTo_66 : decode cX1_askingsTo 66 = .ok (.getfield 21, 3) := by decide +kernel
theorem dX1_askingsTo_69 : decode cX1_askingsTo 69 = .ok (.goto 13, 3) := by decide +kernel
theorem dX1_askingsTo_72 : decode cX1_askingsTo 72 = .ok (.aload_n 0, 1) := by decide +kernel
theorem dX1_askingsTo_73 : decode cX1_askingsTo 73 = .ok (.getfield 21, 3) := by decide +kernel
theorem dX1_askingsTo_76 : decode cX1_askingsTo 76 = .ok (.iconst 1, 1) := by decide +kernel
theorem dX1_askingsTo_77 : decode cX1_askingsTo 77 = .ok (.iload_n 3, 1) := by decide +kernel
theorem dX1_askingsTo_78 : decode cX1_askingsTo 78 = .ok (.ishl, 1) := by decide +kernel
theorem dX1_askingsTo_79 : decode cX1_askingsTo 79 = .ok (.iconst 1, 1) := by decide +kernel
theorem dX1_askingsTo_80 : decode cX1_askingsTo 80 = .ok (.isub, 1) := by decide +kernel
theorem dX1_askingsTo_81 : decode cX1_askingsTo 81 = .ok (.iand, 1) := by decide +kernel
theorem dX1_askingsTo_82 : decode cX1_askingsTo 82 = .ok (.istore 4, 2) := by decide +kernel
theorem dX1_askingsTo_84 : decode cX1_askingsTo 84 = .ok (.iload_n 3, 1) := by decide +kernel
theorem dX1_askingsTo_85 : decode cX1_askingsTo 85 = .ok (.iload 4, 2) := by decide +kernel
theorem dX1_askingsTo_87 : decode cX1_askingsTo 87 = .ok (.invokestatic 38, 3) := by decide +kernel
theorem dX1_askingsTo_90 : decode cX1_askingsTo 90 = .ok (.iadd, 1) := by decide +kernel
theorem dX1_askingsTo_91 : decode cX1_askingsTo 91 = .ok (.ireturn, 1) := by decide +kernel
theorem dX2_init_0 : decode cX2_init 0 = .ok (.aload_n 0, 1) := by decide +kernel
theorem dX2_init_1 : decode cX2_init 1 = .ok (.invokespecial 3, 3) := by decide +kernel
theorem dX2_init_4 : decode cX2_init 4 = .ok (.aload_n 0, 1) := by decide +kernel
theorem dX2_init_5 : decode cX2_init 5 = .ok (.bipush 6, 2) := by decide +kernel
theorem dX2_init_7 : decode cX2_init 7 = .ok (.newarray .int, 2) := by decide +kernel
theorem dX2_init_9 : decode cX2_init 9 = .ok (.putfield 9, 3) := by decide +kernel
theorem dX2_init_12 : decode cX2_init 12 = .ok (.aload_n 0, 1) := by decide +kernel
theorem dX2_init_13 : decode cX2_init 13 = .ok (.bipush 8, 2) := by decide +kernel
theorem dX2_init_15 : decode cX2_init 15 = .ok (.newarray .long, 2) := by decide +kernel
theorem dX2_init_17 : decode cX2_init 17 = .ok (.putfield 15, 3) := by decide +kernel
theorem dX2_init_20 : decode cX2_init 20 = .ok (.aload_n 0, 1) := by decide +kernel
theorem dX2_init_21 : decode cX2_init 21 = .ok (.bipush 64, 2) := by decide +kernel
theorem dX2_init_23 : decode cX2_init 23 = .ok (.newarray .int, 2) := by decide +kernel
theorem dX2_init_25 : decode cX2_init 25 = .ok (.putfield 19, 3) := by decide +kernel
theorem dX2_init_28 : decode cX2_init 28 = .ok (.return_, 1) := by decide +kernel
theorem dX2_clear_0 : decode cX2_clear 0 = .ok (.aload_n 0, 1) := by decide +kernel
theorem dX2_clear_1 : decode cX2_clear 1 = .ok (.iconst 0, 1) := by decide +kernel
theorem dX2_clear_2 : decode cX2_clear 2 = .ok (.putfield 22, 3) := by decide +kernel
theorem dX2_clear_5 : decode cX2_clear 5 = .ok (.aload_n 0, 1) := by decide +kernel
theorem dX2_clear_6 : decode cX2_clear 6 = .ok (.iconst 0, 1) := by decide +kernel
theorem dX2_clear_7 : decode cX2_clear 7 = .ok (.putfield 26, 3) := by decide +kernel
theorem dX2_clear_10 : decode cX2_clear 10 = .ok (.aload_n 0, 1) := by decide +kernel
theorem dX2_clear_11 : decode cX2_clear 11 = .ok (.ldc2_w 29, 3) := by decide +kernel
theorem dX2_clear_14 : decode cX2_clear 14 = .ok (.putfield 31, 3) := by decide +kernel
theorem dX2_clear_17 : decode cX2_clear 17 = .ok (.aload_n 0, 1) := by decide +kernel
theorem dX2_clear_18 : decode cX2_clear 18 = .ok (.iconst 0, 1) := by decide +kernel
theorem dX2_clear_19 : decode cX2_clear 19 = .ok (.putfield 35, 3) := by decide +kernel
theorem dX2_clear_22 : decode cX2_clear 22 = .ok (.aload_n 0, 1) := by decide +kernel
theorem dX2_clear_23 : decode cX2_clear 23 = .ok (.iconst 0, 1) := by decide +kernel
theorem dX2_clear_24 : decode cX2_clear 24 = .ok (.putfield 39, 3) := by decide +kernel
theorem dX2_clear_27 : decode cX2_clear 27 = .ok (.aload_n 0, 1) := by decide +kernel
theorem dX2_clear_28 : decode cX2_clear 28 = .ok (.iconst 0, 1) := by decide +kernel
theorem dX2_clear_29 : decode cX2_clear 29 = .ok (.putfield 42, 3) := by decide +kernel
theorem dX2_clear_32 : decode cX2_clear 32 = .ok (.aload_n 0, 1) := by decide +kernel
theorem dX2_clear_33 : decode cX2_clear 33 = .ok (.iconst 0, 1) := by decide +kernel
theorem dX2_clear_34 : decode cX2_clear 34 = .ok (.putfield 45, 3) := by decide +kernel
theorem dX2_clear_37 : decode cX2_clear 37 = .ok (.aload_n 0, 1) := by decide +kernel
theorem dX2_clear_38 : decode cX2_clear 38 = .ok (.iconst 0, 1) := by decide +kernel
theorem dX2_clear_39 : decode cX2_clear 39 = .ok (.putfield 48, 3) := by decide +kernel
theorem dX2_clear_42 : decode cX2_clear 42 = .ok (.return_, 1) := by decide +kernel
theorem dX2_close_0 : decode cX2_close 0 = .ok (.iconst 1, 1) := by decide +kernel
theorem dX2_close_1 : decode cX2_close 1 = .ok (.aload_n 0, 1) := by decide +kernel
theorem dX2_close_2 : decode cX2_close 2 = .ok (.getfield 22, 3) := by decide +kernel
theorem dX2_close_5 : decode cX2_close 5 = .ok (.ishl, 1) := by decide +kernel
theorem dX2_close_6 : decode cX2_close 6 = .ok (.istore_n 1, 1) := by decide +kernel
theorem dX2_close_7 : decode cX2_close 7 = .ok (.iload_n 1, 1) := by decide +kernel
theorem dX2_close_8 : decode cX2_close 8 = .ok (.bipush 64, 2) := by decide +kernel
theorem dX2_close_10 : decode cX2_close 10 = .ok (.if_icmp .ge 17, 3) := by decide +kernel
theorem dX2_close_13 : decode cX2_close 13 = .ok (.aload_n 0, 1) := by decide +kernel
theorem dX2_close_14 : decode cX2_close 14 = .ok (.dup, 1) := by decide +kernel
theorem dX2_close_15 : decode cX2_close 15 = .ok (.getfield 31, 3) := by decide +kernel
theorem dX2_close_18 : decode cX2_close 18 = .ok (.lconst 1, 1) := by decide +kernel
theorem dX2_close_19 : decode cX2_close 19 = .ok (.iload_n 1, 1) := by decide +kernel
theorem dX2_close_20 : decode cX2_close 20 = .ok (.lshl, 1) := by decide +kernel
theorem dX2_close_21 : decode cX2_close 21 = .ok (.lconst 1, 1) := by decide +kernel
theorem dX2_close_22 : decode cX2_close 22 = .ok (.lsub, 1) := by decide +kernel
theorem dX2_close_23 : decode cX2_close 23 = .ok (.land, 1) := by decide +kernel
theorem dX2_close_24 : decode cX2_close 24 = .ok (.putfield 31, 3) := by decide +kernel
theorem dX2_close_27 : decode cX2_close 27 = .ok (.iconst 0, 1) := by decide +kernel
theorem dX2_close_28 : decode cX2_close 28 = .ok (.istore_n 2, 1) := by decide +kernel
theorem dX2_close_29 : decode cX2_close 29 = .ok (.iload_n 2, 1) := by decide +kernel
theorem dX2_close_30 : decode cX2_close 30 = .ok (.iload_n 1, 1) := by decide +kernel
theorem dX2_close_31 : decode cX2_close 31 = .ok (.if_icmp .ge 26, 3) := by decide +kernel
theorem dX2_close_34 : decode cX2_close 34 = .ok (.iload_n 2, 1) := by decide +kernel
theorem dX2_close_35 : decode cX2_close 35 = .ok (.bipush 64, 2) := by decide +kernel
theorem dX2_close_37 : decode cX2_close 37 = .ok (.if_icmp .ge 20, 3) := by decide +kernel
theorem dX2_close_40 : decode cX2_close 40 = .ok (.aload_n 0, 1) := by decide +kernel
theorem dX2_close_41 : decode cX2_close 41 = .ok (.getfield 19, 3) := by decide +kernel
theorem dX2_close_44 : decode cX2_close 44 = .ok (.iload_n 2, 1) := by decide +kernel
theorem dX2_close_45 : decode cX2_close 45 = .ok (.aload_n 0, 1) := by decide +kernel
theorem dX2_close_46 : decode cX2_close 46 = .ok (.iload_n 2, 1) := by decide +kernel
theorem dX2_close_47 : decode cX2_close 47 = .ok (.invokevirtual 51, 3) := by decide +kernel
theorem dX2_close_50 : decode cX2_close 50 = .ok (.iastore, 1) := by decide +kernel
theorem dX2_close_51 : decode cX2_close 51 = .ok (.iinc 2 1, 3) := by decide +kernel
theorem dX2_close_54 : decode cX2_close 54 = .ok (.goto (-25), 3) := by decide +kernel
theorem dX2_close_57 : decode cX2_close 57 = .ok (.return_, 1) := by decide +kernel
theorem dX2_stands_0 : decode cX2_stands 0 = .ok (.aload_n 0, 1) := by decide +kernel
theorem dX2_stands_1 : decode cX2_stands 1 = .ok (.getfield 35, 3) := by decide +kernel
theorem dX2_stands_4 : decode cX2_stands 4 = .ok (.ifCond .eq 26, 3) := by decide +kernel
theorem dX2_stands_7 : decode cX2_stands 7 = .ok (.aload_n 0, 1) := by decide +kernel
theorem dX2_stands_8 : decode cX2_stands 8 = .ok (.getfield 31, 3) := by decide +kernel
theorem dX2_stands_11 : decode cX2_stands 11 = .ok (.aload_n 0, 1) := by decide +kernel
theorem dX2_stands_12 : decode cX2_stands 12 = .ok (.getfield 39, 3) := by decide +kernel
theorem dX2_stands_15 : decode cX2_stands 15 = .ok (.invokestatic 55, 3) := by decide +kernel
theorem dX2_stands_18 : decode cX2_stands 18 = .ok (.iconst 1, 1) := by decide +kernel
theorem dX2_stands_19 : decode cX2_stands 19 = .ok (.if_icmp .ne 7, 3) := by decide +kernel
theorem dX2_stands_22 : decode cX2_stands 22 = .ok (.iconst 1, 1) := by decide +kernel
theorem dX2_stands_23 : decode cX2_stands 23 = .ok (.goto 21, 3) := by decide +kernel
theorem dX2_stands_26 : decode cX2_stands 26 = .ok (.iconst 0, 1) := by decide +kernel
theorem dX2_stands_27 : decode cX2_stands 27 = .ok (.goto 17, 3) := by decide +kernel
theorem dX2_stands_30 : decode cX2_stands 30 = .ok (.aload_n 0, 1) := by decide +kernel
theorem dX2_stands_31 : decode cX2_stands 31 = .ok (.getfield 31, 3) := by decide +kernel
theorem dX2_stands_34 : decode cX2_stands 34 = .ok (.lconst 0, 1) := by decide +kernel
theorem dX2_stands_35 : decode cX2_stands 35 = .ok (.lcmp, 1) := by decide +kernel
theorem dX2_stands_36 : decode cX2_stands 36 = .ok (.ifCond .eq 7, 3) := by decide +kernel
theorem dX2_stands_39 : decode cX2_stands 39 = .ok (.iconst 1, 1) := by decide +kernel
theorem dX2_stands_40 : decode cX2_stands 40 = .ok (.goto 4, 3) := by decide +kernel
theorem dX2_stands_43 : decode cX2_stands 43 = .ok (.iconst 0, 1) := by decide +kernel
theorem dX2_stands_44 : decode cX2_stands 44 = .ok (.ireturn, 1) := by decide +kernel
theorem dX2_product_0 : decode cX2_product 0 = .ok (.iconst 1, 1) := by decide +kernel
theorem dX2_product_1 : decode cX2_product 1 = .ok (.istore_n 2, 1) := by decide +kernel
theorem dX2_product_2 : decode cX2_product 2 = .ok (.iconst 0, 1) := by decide +kernel
theorem dX2_product_3 : decode cX2_product 3 = .ok (.istore_n 3, 1) := by decide +kernel
theorem dX2_product_4 : decode cX2_product 4 = .ok (.iload_n 3, 1) := by decide +kernel
theorem dX2_product_5 : decode cX2_product 5 = .ok (.aload_n 0, 1) := by decide +kernel
theorem dX2_product_6 : decode cX2_product 6 = .ok (.getfield 22, 3) := by decide +kernel
theorem dX2_product_9 : decode cX2_product 9 = .ok (.if_icmp .ge 46, 3) := by decide +kernel
theorem dX2_product_12 : decode cX2_product 12 = .ok (.iload_n 3, 1) := by decide +kernel
theorem dX2_product_13 : decode cX2_product 13 = .ok (.bipush 6, 2) := by decide +kernel
theorem dX2_product_15 : decode cX2_product 15 = .ok (.if_icmp .ge 40, 3) := by decide +kernel
theorem dX2_product_18 : decode cX2_product 18 = .ok (.iload_n 2, 1) := by decide +kernel
theorem dX2_product_19 : decode cX2_product 19 = .ok (.iload_n 1, 1) := by decide +kernel
theorem dX2_product_20 : decode cX2_product 20 = .ok (.i2l, 1) := by decide +kernel
theorem dX2_product_21 : decode cX2_product 21 = .ok (.iload_n 3, 1) := by decide +kernel
theorem dX2_product_22 : decode cX2_product 22 = .ok (.invokestatic 55, 3) := by decide +kernel
theorem dX2_product_25 : decode cX2_product 25 = .ok (.iconst 1, 1) := by decide +kernel
theorem dX2_product_26 : decode cX2_product 26 = .ok (.if_icmp .ne 12, 3) := by decide +kernel
theorem dX2_product_29 : decode cX2_product 29 = .ok (.aload_n 0, 1) := by decide +kernel
theorem dX2_product_30 : decode cX2_product 30 = .ok (.getfield 9, 3) := by decide +kernel
theorem dX2_product_33 : decode cX2_product 33 = .ok (.iload_n 3, 1) := by decide +kernel
theorem dX2_product_34 : decode cX2_product 34 = .ok (.iaload, 1) := by decide +kernel
theorem dX2_product_35 : decode cX2_product 35 = .ok (.goto 12, 3) := by decide +kernel
theorem dX2_product_38 : decode cX2_product 38 = .ok (.bipush 10, 2) := by decide +kernel
theorem dX2_product_40 : decode cX2_product 40 = .ok (.aload_n 0, 1) := by decide +kernel
theorem dX2_product_41 : decode cX2_product 41 = .ok (.getfield 9, 3) := by decide +kernel
theorem dX2_product_44 : decode cX2_product 44 = .ok (.iload_n 3, 1) := by decide +kernel
theorem dX2_product_45 : decode cX2_product 45 = .ok (.iaload, 1) := by decide +kernel
theorem dX2_product_46 : decode cX2_product 46 = .ok (.isub, 1) := by decide +kernel
theorem dX2_product_47 : decode cX2_product 47 = .ok (.imul, 1) := by decide +kernel
theorem dX2_product_48 : decode cX2_product 48 = .ok (.istore_n 2, 1) := by decide +kernel
theorem dX2_product_49 : decode cX2_product 49 = .ok (.iinc 3 1, 3) := by decide +kernel
theorem dX2_product_52 : decode cX2_product 52 = .ok (.goto (-48), 3) := by decide +kernel
theorem dX2_product_55 : decode cX2_product 55 = .ok (.iload_n 2, 1) := by decide +kernel
theorem dX2_product_56 : decode cX2_product 56 = .ok (.ireturn, 1) := by decide +kernel
theorem dX2_weightOf_0 : decode cX2_weightOf 0 = .ok (.iconst 0, 1) := by decide +kernel
theorem dX2_weightOf_1 : decode cX2_weightOf 1 = .ok (.istore_n 3, 1) := by decide +kernel
theorem dX2_weightOf_2 : decode cX2_weightOf 2 = .ok (.lload_n 1, 1) := by decide +kernel
theorem dX2_weightOf_3 : decode cX2_weightOf 3 = .ok (.aload_n 0, 1) := by decide +kernel
theorem dX2_weightOf_4 : decode cX2_weightOf 4 = .ok (.getfield 31, 3) := by decide +kernel
theorem dX2_weightOf_7 : decode cX2_weightOf 7 = .ok (.land, 1) := by decide +kernel
theorem dX2_weightOf_8 : decode cX2_weightOf 8 = .ok (.lstore 4, 2) := by decide +kernel
theorem dX2_weightOf_10 : decode cX2_weightOf 10 = .ok (.iconst 0, 1) := by decide +kernel
theorem dX2_weightOf_11 : decode cX2_weightOf 11 = .ok (.istore 6, 2) := by decide +kernel
theorem dX2_weightOf_13 : decode cX2_weightOf 13 = .ok (.iload 6, 2) := by decide +kernel
theorem dX2_weightOf_15 : decode cX2_weightOf 15 = .ok (.bipush 64, 2) := by decide +kernel
theorem dX2_weightOf_17 : decode cX2_weightOf 17 = .ok (.if_icmp .ge 55, 3) := by decide +kernel
theorem dX2_weightOf_20 : decode cX2_weightOf 20 = .ok (.lload 4, 2) := by decide +kernel
theorem dX2_weightOf_22 : decode cX2_weightOf 22 = .ok (.lconst 0, 1) := by decide +kernel
theorem dX2_weightOf_23 : decode cX2_weightOf 23 = .ok (.lcmp, 1) := by decide +kernel
theorem dX2_weightOf_24 : decode cX2_weightOf 24 = .ok (.ifCond .eq 48, 3) := by decide +kernel
theorem dX2_weightOf_27 : decode cX2_weightOf 27 = .ok (.lload 4, 2) := by decide +kernel
theorem dX2_weightOf_29 : decode cX2_weightOf 29 = .ok (.lload 4, 2) := by decide +kernel
theorem dX2_weightOf_31 : decode cX2_weightOf 31 = .ok (.lneg, 1) := by decide +kernel
theorem dX2_weightOf_32 : decode cX2_weightOf 32 = .ok (.land, 1) := by decide +kernel
theorem dX2_weightOf_33 : decode cX2_weightOf 33 = .ok (.lconst 1, 1) := by decide +kernel
theorem dX2_weightOf_34 : decode cX2_weightOf 34 = .ok (.lsub, 1) := by decide +kernel
theorem dX2_weightOf_35 : decode cX2_weightOf 35 = .ok (.invokestatic 59, 3) := by decide +kernel
theorem dX2_weightOf_38 : decode cX2_weightOf 38 = .ok (.istore 7, 2) := by decide +kernel
theorem dX2_weightOf_40 : decode cX2_weightOf 40 = .ok (.iload 7, 2) := by decide +kernel
theorem dX2_weightOf_42 : decode cX2_weightOf 42 = .ok (.bipush 64, 2) := by decide +kernel
theorem dX2_weightOf_44 : decode cX2_weightOf 44 = .ok (.if_icmp .ge 13, 3) := by decide +kernel
theorem dX2_weightOf_47 : decode cX2_weightOf 47 = .ok (.iload_n 3, 1) := by decide +kernel
theorem dX2_weightOf_48 : decode cX2_weightOf 48 = .ok (.aload_n 0, 1) := by decide +kernel
theorem dX2_weightOf_49 : decode cX2_weightOf 49 = .ok (.getfield 19, 3) := by decide +kernel
theorem dX2_weightOf_52 : decode cX2_weightOf 52 = .ok (.iload 7, 2) := by decide +kernel
theorem dX2_weightOf_54 : decode cX2_weightOf 54 = .ok (.iaload, 1) := by decide +kernel
theorem dX2_weightOf_55 : decode cX2_weightOf 55 = .ok (.iadd, 1) := by decide +kernel
theorem dX2_weightOf_56 : decode cX2_weightOf 56 = .ok (.istore_n 3, 1) := by decide +kernel
theorem dX2_weightOf_57 : decode cX2_weightOf 57 = .ok (.lload 4, 2) := by decide +kernel
theorem dX2_weightOf_59 : decode cX2_weightOf 59 = .ok (.lload 4, 2) := by decide +kernel
theorem dX2_weightOf_61 : decode cX2_weightOf 61 = .ok (.lconst 1, 1) := by decide +kernel
theorem dX2_weightOf_62 : decode cX2_weightOf 62 = .ok (.lsub, 1) := by decide +kernel
theorem dX2_weightOf_63 : decode cX2_weightOf 63 = .ok (.land, 1) := by decide +kernel
theorem dX2_weightOf_64 : decode cX2_weightOf 64 = .ok (.lstore 4, 2) := by decide +kernel
theorem dX2_weightOf_66 : decode cX2_weightOf 66 = .ok (.iinc 6 1, 3) := by decide +kernel
theorem dX2_weightOf_69 : decode cX2_weightOf 69 = .ok (.goto (-56), 3) := by decide +kernel
theorem dX2_weightOf_72 : decode cX2_weightOf 72 = .ok (.iload_n 3, 1) := by decide +kernel
theorem dX2_weightOf_73 : decode cX2_weightOf 73 = .ok (.ireturn, 1) := by decide +kernel
theorem dX2_likeliestOf_0 : decode cX2_likeliestOf 0 = .ok (.bipush (-2), 2) := by decide +kernel
theorem dX2_likeliestOf_2 : decode cX2_likeliestOf 2 = .ok (.istore_n 3, 1) := by decide +kernel
theorem dX2_likeliestOf_3 : decode cX2_likeliestOf 3 = .ok (.iconst 0, 1) := by decide +kernel
theorem dX2_likeliestOf_4 : decode cX2_likeliestOf 4 = .ok (.istore 4, 2) := by decide +kernel
theorem dX2_likeliestOf_6 : decode cX2_likeliestOf 6 = .ok (.iconst 0, 1) := by decide +kernel
theorem dX2_likeliestOf_7 : decode cX2_likeliestOf 7 = .ok (.istore 5, 2) := by decide +kernel
theorem dX2_likeliestOf_9 : decode cX2_likeliestOf 9 = .ok (.iload 5, 2) := by decide +kernel
theorem dX2_likeliestOf_11 : decode cX2_likeliestOf 11 = .ok (.bipush 64, 2) := by decide +kernel
theorem dX2_likeliestOf_13 : decode cX2_likeliestOf 13 = .ok (.if_icmp .ge 43, 3) := by decide +kernel
theorem dX2_likeliestOf_16 : decode cX2_likeliestOf 16 = .ok (.lload_n 1, 1) := by decide +kernel
theorem dX2_likeliestOf_17 : decode cX2_likeliestOf 17 = .ok (.iload 5, 2) := by decide +kernel
theorem dX2_likeliestOf_19 : decode cX2_likeliestOf 19 = .ok (.invokestatic 55, 3) := by decide +kernel
theorem dX2_likeliestOf_22 : decode cX2_likeliestOf 22 = .ok (.iconst 1, 1) := by decide +kernel
theorem dX2_likeliestOf_23 : decode cX2_likeliestOf 23 = .ok (.if_icmp .ne 27, 3) := by decide +kernel
theorem dX2_likeliestOf_26 : decode cX2_likeliestOf 26 = .ok (.aload_n 0, 1) := by decide +kernel
theorem dX2_likeliestOf_27 : decode cX2_likeliestOf 27 = .ok (.getfield 19, 3) := by decide +kernel
theorem dX2_likeliestOf_30 : decode cX2_likeliestOf 30 = .ok (.iload 5, 2) := by decide +kernel
theorem dX2_likeliestOf_32 : decode cX2_likeliestOf 32 = .ok (.iaload, 1) := by decide +kernel
theorem dX2_likeliestOf_33 : decode cX2_likeliestOf 33 = .ok (.iload 4, 2) := by decide +kernel
theorem dX2_likeliestOf_35 : decode cX2_likeliestOf 35 = .ok (.if_icmp .le 15, 3) := by decide +kernel
theorem dX2_likeliestOf_38 : decode cX2_likeliestOf 38 = .ok (.aload_n 0, 1) := by decide +kernel
theorem dX2_likeliestOf_39 : decode cX2_likeliestOf 39 = .ok (.getfield 19, 3) := by decide +kernel
theorem dX2_likeliestOf_42 : decode cX2_likeliestOf 42 = .ok (.iload 5, 2) := by decide +kernel
theorem dX2_likeliestOf_44 : decode cX2_likeliestOf 44 = .ok (.iaload, 1) := by decide +kernel
theorem dX2_likeliestOf_45 : decode cX2_likeliestOf 45 = .ok (.istore 4, 2) := by decide +kernel
theorem dX2_likeliestOf_47 : decode cX2_likeliestOf 47 = .ok (.iload 5, 2) := by decide +kernel
theorem dX2_likeliestOf_49 : decode cX2_likeliestOf 49 = .ok (.istore_n 3, 1) := by decide +kernel
theorem dX2_likeliestOf_50 : decode cX2_likeliestOf 50 = .ok (.iinc 5 1, 3) := by decide +kernel
theorem dX2_likeliestOf_53 : decode cX2_likeliestOf 53 = .ok (.goto (-44), 3) := by decide +kernel
theorem dX2_likeliestOf_56 : decode cX2_likeliestOf 56 = .ok (.iload_n 3, 1) := by decide +kernel
theorem dX2_likeliestOf_57 : decode cX2_likeliestOf 57 = .ok (.ireturn, 1) := by decide +kernel
theorem dX2_addQuestion_0 : decode cX2_addQuestion 0 = .ok (.aload_n 0, 1) := by decide +kernel
theorem dX2_addQuestion_1 : decode cX2_addQuestion 1 = .ok (.getfield 42, 3) := by decide +kernel
theorem dX2_addQuestion_4 : decode cX2_addQuestion 4 = .ok (.ifCond .lt 32, 3) := by decide +kernel
theorem dX2_addQuestion_7 : decode cX2_addQuestion 7 = .ok (.aload_n 0, 1) := by decide +kernel
theorem dX2_addQuestion_8 : decode cX2_addQuestion 8 = .ok (.getfield 42, 3) := by decide +kernel
theorem dX2_addQuestion_11 : decode cX2_addQuestion 11 = .ok (.bipush 8, 2) := by decide +kernel
theorem dX2_addQuestion_13 : decode cX2_addQuestion 13 = .ok (.if_icmp .ge 23, 3) := by decide +kernel
theorem dX2_addQuestion_16 : decode cX2_addQuestion 16 = .ok (.aload_n 0, 1) := by decide +kernel
theorem dX2_addQuestion_17 : decode cX2_addQuestion 17 = .ok (.getfield 15, 3) := by decide +kernel
theorem dX2_addQuestion_20 : decode cX2_addQuestion 20 = .ok (.aload_n 0, 1) := by decide +kernel
theorem dX2_addQuestion_21 : decode cX2_addQuestion 21 = .ok (.getfield 42, 3) := by decide +kernel
theorem dX2_addQuestion_24 : decode cX2_addQuestion 24 = .ok (.lload_n 1, 1) := by decide +kernel
theorem dX2_addQuestion_25 : decode cX2_addQuestion 25 = .ok (.lastore, 1) := by decide +kernel
theorem dX2_addQuestion_26 : decode cX2_addQuestion 26 = .ok (.aload_n 0, 1) := by decide +kernel
theorem dX2_addQuestion_27 : decode cX2_addQuestion 27 = .ok (.dup, 1) := by decide +kernel
theorem dX2_addQuestion_28 : decode cX2_addQuestion 28 = .ok (.getfield 42, 3) := by decide +kernel
theorem dX2_addQuestion_31 : decode cX2_addQuestion 31 = .ok (.iconst 1, 1) := by decide +kernel
theorem dX2_addQuestion_32 : decode cX2_addQuestion 32 = .ok (.iadd, 1) := by decide +kernel
theorem dX2_addQuestion_33 : decode cX2_addQuestion 33 = .ok (.putfield 42, 3) := by decide +kernel
theorem dX2_addQuestion_36 : decode cX2_addQuestion 36 = .ok (.return_, 1) := by decide +kernel
theorem dX2_soWorlds_0 : decode cX2_soWorlds 0 = .ok (.iload_n 1, 1) := by decide +kernel
theorem dX2_soWorlds_1 : decode cX2_soWorlds 1 = .ok (.ifCond .lt 18, 3) := by decide +kernel
theorem dX2_soWorlds_4 : decode cX2_soWorlds 4 = .ok (.iload_n 1, 1) := by decide +kernel
theorem dX2_soWorlds_5 : decode cX2_soWorlds 5 = .ok (.bipush 8, 2) := by decide +kernel
theorem dX2_soWorlds_7 : decode cX2_soWorlds 7 = .ok (.if_icmp .ge 12, 3) := by decide +kernel
theorem dX2_soWorlds_10 : decode cX2_soWorlds 10 = .ok (.aload_n 0, 1) := by decide +kernel
theorem dX2_soWorlds_11 : decode cX2_soWorlds 11 = .ok (.getfield 15, 3) := by decide +kernel
theorem dX2_soWorlds_14 : decode cX2_soWorlds 14 = .ok (.iload_n 1, 1) := by decide +kernel
theorem dX2_soWorlds_15 : decode cX2_soWorlds 15 = .ok (.laload, 1) := by decide +kernel
theorem dX2_soWorlds_16 : decode cX2_soWorlds 16 = .ok (.goto 4, 3) := by decide +kernel
theorem dX2_soWorlds_19 : decode cX2_soWorlds 19 = .ok (.lconst 0, 1) := by decide +kernel
theorem dX2_soWorlds_20 : decode cX2_soWorlds 20 = .ok (.lreturn, 1) := by decide +kernel
theorem dX2_worldsWith_0 : decode cX2_worldsWith 0 = .ok (.aload_n 0, 1) := by decide +kernel
theorem dX2_worldsWith_1 : decode cX2_worldsWith 1 = .ok (.getfield 31, 3) := by decide +kernel
theorem dX2_worldsWith_4 : decode cX2_worldsWith 4 = .ok (.iload_n 2, 1) := by decide +kernel
theorem dX2_worldsWith_5 : decode cX2_worldsWith 5 = .ok (.ifCond .eq 11, 3) := by decide +kernel
theorem dX2_worldsWith_8 : decode cX2_worldsWith 8 = .ok (.aload_n 0, 1) := by decide +kernel
theorem dX2_worldsWith_9 : decode cX2_worldsWith 9 = .ok (.iload_n 1, 1) := by decide +kernel
theorem dX2_worldsWith_10 : decode cX2_worldsWith 10 = .ok (.invokevirtual 65, 3) := by decide +kernel
theorem dX2_worldsWith_13 : decode cX2_worldsWith 13 = .ok (.goto 12, 3) := by decide +kernel
theorem dX2_worldsWith_16 : decode cX2_worldsWith 16 = .ok (.aload_n 0, 1) := by decide +kernel
theorem dX2_worldsWith_17 : decode cX2_worldsWith 17 = .ok (.iload_n 1, 1) := by decide +kernel
theorem dX2_worldsWith_18 : decode cX2_worldsWith 18 = .ok (.invokevirtual 65, 3) := by decide +kernel
theorem dX2_worldsWith_21 : decode cX2_worldsWith 21 = .ok (.ldc2_w 29, 3) := by decide +kernel
theorem dX2_worldsWith_24 : decode cX2_worldsWith 24 = .ok (.lxor, 1) := by decide +kernel
theorem dX2_worldsWith_25 : decode cX2_worldsWith 25 = .ok (.land, 1) := by decide +kernel
theorem dX2_worldsWith_26 : decode cX2_worldsWith 26 = .ok (.lreturn, 1) := by decide +kernel
theorem dX2_settled_0 : decode cX2_settled 0 = .ok (.iconst 0, 1) := by decide +kernel
theorem dX2_settled_1 : decode cX2_settled 1 = .ok (.istore_n 3, 1) := by decide +kernel
theorem dX2_settled_2 : decode cX2_settled 2 = .ok (.iconst 0, 1) := by decide +kernel
theorem dX2_settled_3 : decode cX2_settled 3 = .ok (.istore 4, 2) := by decide +kernel
theorem dX2_settled_5 : decode cX2_settled 5 = .ok (.iload 4, 2) := by decide +kernel
theorem dX2_settled_7 : decode cX2_settled 7 = .ok (.aload_n 0, 1) := by decide +kernel
theorem dX2_settled_8 : decode cX2_settled 8 = .ok (.getfield 42, 3) := by decide +kernel
theorem dX2_settled_11 : decode cX2_settled 11 = .ok (.if_icmp .ge 31, 3) := by decide +kernel
theorem dX2_settled_14 : decode cX2_settled 14 = .ok (.lload_n 1, 1) := by decide +kernel
theorem dX2_settled_15 : decode cX2_settled 15 = .ok (.aload_n 0, 1) := by decide +kernel
theorem dX2_settled_16 : decode cX2_settled 16 = .ok (.iload 4, 2) := by decide +kernel
theorem dX2_settled_18 : decode cX2_settled 18 = .ok (.invokevirtual 65, 3) := by decide +kernel
theorem dX2_settled_21 : decode cX2_settled 21 = .ok (.invokestatic 69, 3) := by decide +kernel
theorem dX2_settled_24 : decode cX2_settled 24 = .ok (.bipush (-2), 2) := by decide +kernel
theorem dX2_settled_26 : decode cX2_settled 26 = .ok (.if_icmp .eq 10, 3) := by decide +kernel
theorem dX2_settled_29 : decode cX2_settled 29 = .ok (.iload_n 3, 1) := by decide +kernel
theorem dX2_settled_30 : decode cX2_settled 30 = .ok (.iconst 1, 1) := by decide +kernel
theorem dX2_settled_31 : decode cX2_settled 31 = .ok (.iload 4, 2) := by decide +kernel
theorem dX2_settled_33 : decode cX2_settled 33 = .ok (.ishl, 1) := by decide +kernel
theorem dX2_settled_34 : decode cX2_settled 34 = .ok (.ior, 1) := by decide +kernel
theorem dX2_settled_35 : decode cX2_settled 35 = .ok (.istore_n 3, 1) := by decide +kernel
theorem dX2_settled_36 : decode cX2_settled 36 = .ok (.iinc 4 1, 3) := by decide +kernel
theorem dX2_settled_39 : decode cX2_settled 39 = .ok (.goto (-34), 3) := by decide +kernel
theorem dX2_settled_42 : decode cX2_settled 42 = .ok (.iload_n 3, 1) := by decide +kernel
theorem dX2_settled_43 : decode cX2_settled 43 = .ok (.ireturn, 1) := by decide +kernel
theorem dX2_stoneSaysYes_0 : decode cX2_stoneSaysYes 0 = .ok (.aload_n 0, 1) := by decide +kernel
theorem dX2_stoneSaysYes_1 : decode cX2_stoneSaysYes 1 = .ok (.getfield 48, 3) := by decide +kernel
theorem dX2_stoneSaysYes_4 : decode cX2_stoneSaysYes 4 = .ok (.i2l, 1) := by decide +kernel
theorem dX2_stoneSaysYes_5 : decode cX2_stoneSaysYes 5 = .ok (.iload_n 1, 1) := by decide +kernel
theorem dX2_stoneSaysYes_6 : decode cX2_stoneSaysYes 6 = .ok (.invokestatic 55, 3) := by decide +kernel
theorem dX2_stoneSaysYes_9 : decode cX2_stoneSaysYes 9 = .ok (.iconst 1, 1) := by decide +kernel
theorem dX2_stoneSaysYes_10 : decode cX2_stoneSaysYes 10 = .ok (.if_icmp .ne 7, 3) := by decide +kernel
theorem dX2_stoneSaysYes_13 : decode cX2_stoneSaysYes 13 = .ok (.iconst 1, 1) := by decide +kernel
theorem dX2_stoneSaysYes_14 : decode cX2_stoneSaysYes 14 = .ok (.goto 4, 3) := by decide +kernel
theorem dX2_stoneSaysYes_17 : decode cX2_stoneSaysYes 17 = .ok (.iconst 0, 1) := by decide +kernel
theorem dX2_stoneSaysYes_18 : decode cX2_stoneSaysYes 18 = .ok (.ireturn, 1) := by decide +kernel
theorem dX2_askable_0 : decode cX2_askable 0 = .ok (.iconst 0, 1) := by decide +kernel
theorem dX2_askable_1 : decode cX2_askable 1 = .ok (.istore 4, 2) := by decide +kernel
theorem dX2_askable_3 : decode cX2_askable 3 = .ok (.iconst 0, 1) := by decide +kernel
theorem dX2_askable_4 : decode cX2_askable 4 = .ok (.istore 5, 2) := by decide +kernel
theorem dX2_askable_6 : decode cX2_askable 6 = .ok (.iload 5, 2) := by decide +kernel
theorem dX2_askable_8 : decode cX2_askable 8 = .ok (.aload_n 0, 1) := by decide +kernel
theorem dX2_askable_9 : decode cX2_askable 9 = .ok (.getfield 42, 3) := by decide +kernel
theorem dX2_askable_12 : decode cX2_askable 12 = .ok (.if_icmp .ge 36, 3) := by decide +kernel
theorem dX2_askable_15 : decode cX2_askable 15 = .ok (.lload_n 2, 1) := by decide +kernel
theorem dX2_askable_16 : decode cX2_askable 16 = .ok (.aload_n 0, 1) := by decide +kernel
theorem dX2_askable_17 : decode cX2_askable 17 = .ok (.iload 5, 2) := by decide +kernel
theorem dX2_askable_19 : decode cX2_askable 19 = .ok (.aload_n 0, 1) := by decide +kernel
theorem dX2_askable_20 : decode cX2_askable 20 = .ok (.iload_n 1, 1) := by decide +kernel
theorem dX2_askable_21 : decode cX2_askable 21 = .ok (.invokevirtual 73, 3) := by decide +kernel
theorem dX2_askable_24 : decode cX2_askable 24 = .ok (.invokevirtual 77, 3) := by decide +kernel
theorem dX2_askable_27 : decode cX2_askable 27 = .ok (.land, 1) := by decide +kernel
theorem dX2_askable_28 : decode cX2_askable 28 = .ok (.lconst 0, 1) := by decide +kernel
theorem dX2_askable_29 : decode cX2_askable 29 = .ok (.lcmp, 1) := by decide +kernel
theorem dX2_askable_30 : decode cX2_askable 30 = .ok (.ifCond .eq 12, 3) := by decide +kernel
theorem dX2_askable_33 : decode cX2_askable 33 = .ok (.iload 4, 2) := by decide +kernel
theorem dX2_askable_35 : decode cX2_askable 35 = .ok (.iconst 1, 1) := by decide +kernel
theorem dX2_askable_36 : decode cX2_askable 36 = .ok (.iload 5, 2) := by decide +kernel
theorem dX2_askable_38 : decode cX2_askable 38 = .ok (.ishl, 1) := by decide +kernel
theorem dX2_askable_39 : decode cX2_askable 39 = .ok (.ior, 1) := by decide +kernel
theorem dX2_askable_40 : decode cX2_askable 40 = .ok (.istore 4, 2) := by decide +kernel
theorem dX2_askable_42 : decode cX2_askable 42 = .ok (.iinc 5 1, 3) := by decide +kernel
theorem dX2_askable_45 : decode cX2_askable 45 = .ok (.goto (-39), 3) := by decide +kernel
theorem dX2_askable_48 : decode cX2_askable 48 = .ok (.iload 4, 2) := by decide +kernel
theorem dX2_askable_50 : decode cX2_askable 50 = .ok (.ireturn, 1) := by decide +kernel
theorem dX2_mostAskable_0 : decode cX2_mostAskable 0 = .ok (.aload_n 0, 1) := by decide +kernel
theorem dX2_mostAskable_1 : decode cX2_mostAskable 1 = .ok (.lload_n 1, 1) := by decide +kernel
theorem dX2_mostAskable_2 : decode cX2_mostAskable 2 = .ok (.aload_n 0, 1) := by decide +kernel
theorem dX2_mostAskable_3 : decode cX2_mostAskable 3 = .ok (.iload_n 3, 1) := by decide +kernel
theorem dX2_mostAskable_4 : decode cX2_mostAskable 4 = .ok (.iconst 1, 1) := by decide +kernel
theorem dX2_mostAskable_5 : decode cX2_mostAskable 5 = .ok (.invokevirtual 77, 3) := by decide +kernel
theorem dX2_mostAskable_8 : decode cX2_mostAskable 8 = .ok (.land, 1) := by decide +kernel
theorem dX2_mostAskable_9 : decode cX2_mostAskable 9 = .ok (.invokevirtual 81, 3) := by decide +kernel
theorem dX2_mostAskable_12 : decode cX2_mostAskable 12 = .ok (.aload_n 0, 1) := by decide +kernel
theorem dX2_mostAskable_13 : decode cX2_mostAskable 13 = .ok (.lload_n 1, 1) := by decide +kernel
theorem dX2_mostAskable_14 : decode cX2_mostAskable 14 = .ok (.aload_n 0, 1) := by decide +kernel
theorem dX2_mostAskable_15 : decode cX2_mostAskable 15 = .ok (.iload_n 3, 1) := by decide +kernel
theorem dX2_mostAskable_16 : decode cX2_mostAskable 16 = .ok (.iconst 0, 1) := by decide +kernel
theorem dX2_mostAskable_17 : decode cX2_mostAskable 17 = .ok (.invokevirtual 77, 3) := by decide +kernel
theorem dX2_mostAskable_20 : decode cX2_mostAskable 20 = .ok (.land, 1) := by decide +kernel
theorem dX2_mostAskable_21 : decode cX2_mostAskable 21 = .ok (.invokevirtual 81, 3) := by decide +kernel
theorem dX2_mostAskable_24 : decode cX2_mostAskable 24 = .ok (.invokestatic 84, 3) := by decide +kernel
theorem dX2_mostAskable_27 : decode cX2_mostAskable 27 = .ok (.ireturn, 1) := by decide +kernel
theorem dX2_askableOfAll_0 : decode cX2_askableOfAll 0 = .ok (.iconst 0, 1) := by decide +kernel
theorem dX2_askableOfAll_1 : decode cX2_askableOfAll 1 = .ok (.istore_n 3, 1) := by decide +kernel
theorem dX2_askableOfAll_2 : decode cX2_askableOfAll 2 = .ok (.iconst 0, 1) := by decide +kernel
theorem dX2_askableOfAll_3 : decode cX2_askableOfAll 3 = .ok (.istore 4, 2) := by decide +kernel
theorem dX2_askableOfAll_5 : decode cX2_askableOfAll 5 = .ok (.iload 4, 2) := by decide +kernel
theorem dX2_askableOfAll_7 : decode cX2_askableOfAll 7 = .ok (.aload_n 0, 1) := by decide +kernel
theorem dX2_askableOfAll_8 : decode cX2_askableOfAll 8 = .ok (.getfield 45, 3) := by decide +kernel
theorem dX2_askableOfAll_11 : decode cX2_askableOfAll 11 = .ok (.if_icmp .ge 22, 3) := by decide +kernel
theorem dX2_askableOfAll_14 : decode cX2_askableOfAll 14 = .ok (.iload_n 3, 1) := by decide +kernel
theorem dX2_askableOfAll_15 : decode cX2_askableOfAll 15 = .ok (.aload_n 0, 1) := by decide +kernel
theorem dX2_askableOfAll_16 : decode cX2_askableOfAll 16 = .ok (.iload 4, 2) := by decide +kernel
theorem dX2_askableOfAll_18 : decode cX2_askableOfAll 18 = .ok (.lload_n 1, 1) := by decide +kernel
theorem dX2_askableOfAll_19 : decode cX2_askableOfAll 19 = .ok (.invokevirtual 90, 3) := by decide +kernel
theorem dX2_askableOfAll_22 : decode cX2_askableOfAll 22 = .ok (.invokestatic 94, 3) := by decide +kernel
theorem dX2_askableOfAll_25 : decode cX2_askableOfAll 25 = .ok (.iadd, 1) := by decide +kernel
theorem dX2_askableOfAll_26 : decode cX2_askableOfAll 26 = .ok (.istore_n 3, 1) := by decide +kernel
theorem dX2_askableOfAll_27 : decode cX2_askableOfAll 27 = .ok (.iinc 4 1, 3) := by decide +kernel
theorem dX2_askableOfAll_30 : decode cX2_askableOfAll 30 = .ok (.goto (-25), 3) := by decide +kernel
theorem dX2_askableOfAll_33 : decode cX2_askableOfAll 33 = .ok (.iload_n 3, 1) := by decide +kernel
theorem dX2_askableOfAll_34 : decode cX2_askableOfAll 34 = .ok (.ireturn, 1) := by decide +kernel
theorem dX2_bestIn_0 : decode cX2_bestIn 0 = .ok (.bipush (-2), 2) := by decide +kernel
theorem dX2_bestIn_2 : decode cX2_bestIn 2 = .ok (.istore_n 3, 1) := by decide +kernel
theorem dX2_bestIn_3 : decode cX2_bestIn 3 = .ok (.iconst 0, 1) := by decide +kernel
theorem dX2_bestIn_4 : decode cX2_bestIn 4 = .ok (.istore 4, 2) := by decide +kernel
theorem dX2_bestIn_6 : decode cX2_bestIn 6 = .ok (.iconst 0, 1) := by decide +kernel
theorem dX2_bestIn_7 : decode cX2_bestIn 7 = .ok (.istore 5, 2) := by decide +kernel
theorem dX2_bestIn_9 : decode cX2_bestIn 9 = .ok (.iload 5, 2) := by decide +kernel
theorem dX2_bestIn_11 : decode cX2_bestIn 11 = .ok (.aload_n 0, 1) := by decide +kernel
theorem dX2_bestIn_12 : decode cX2_bestIn 12 = .ok (.getfield 42, 3) := by decide +kernel
theorem dX2_bestIn_15 : decode cX2_bestIn 15 = .ok (.if_icmp .ge 38, 3) := by decide +kernel
theorem dX2_bestIn_18 : decode cX2_bestIn 18 = .ok (.aload_n 0, 1) := by decide +kernel
theorem dX2_bestIn_19 : decode cX2_bestIn 19 = .ok (.lload_n 1, 1) := by decide +kernel
theorem dX2_bestIn_20 : decode cX2_bestIn 20 = .ok (.iload 5, 2) := by decide +kernel
theorem dX2_bestIn_22 : decode cX2_bestIn 22 = .ok (.invokevirtual 98, 3) := by decide +kernel
theorem dX2_bestIn_25 : decode cX2_bestIn 25 = .ok (.istore 6, 2) := by decide +kernel
theorem dX2_bestIn_27 : decode cX2_bestIn 27 = .ok (.iload_n 3, 1) := by decide +kernel
theorem dX2_bestIn_28 : decode cX2_bestIn 28 = .ok (.bipush (-2), 2) := by decide +kernel
theorem dX2_bestIn_30 : decode cX2_bestIn 30 = .ok (.if_icmp .eq 10, 3) := by decide +kernel
theorem dX2_bestIn_33 : decode cX2_bestIn 33 = .ok (.iload 6, 2) := by decide +kernel
theorem dX2_bestIn_35 : decode cX2_bestIn 35 = .ok (.iload 4, 2) := by decide +kernel
theorem dX2_bestIn_37 : decode cX2_bestIn 37 = .ok (.if_icmp .ge 10, 3) := by decide +kernel
theorem dX2_bestIn_40 : decode cX2_bestIn 40 = .ok (.iload 5, 2) := by decide +kernel
theorem dX2_bestIn_42 : decode cX2_bestIn 42 = .ok (.istore_n 3, 1) := by decide +kernel
theorem dX2_bestIn_43 : decode cX2_bestIn 43 = .ok (.iload 6, 2) := by decide +kernel
theorem dX2_bestIn_45 : decode cX2_bestIn 45 = .ok (.istore 4, 2) := by decide +kernel
theorem dX2_bestIn_47 : decode cX2_bestIn 47 = .ok (.iinc 5 1, 3) := by decide +kernel
theorem dX2_bestIn_50 : decode cX2_bestIn 50 = .ok (.goto (-41), 3) := by decide +kernel
theorem dX2_bestIn_53 : decode cX2_bestIn 53 = .ok (.iload_n 3, 1) := by decide +kernel
theorem dX2_bestIn_54 : decode cX2_bestIn 54 = .ok (.ireturn, 1) := by decide +kernel
theorem dX2_mostLeft_0 : decode cX2_mostLeft 0 = .ok (.aload_n 0, 1) := by decide +kernel
theorem dX2_mostLeft_1 : decode cX2_mostLeft 1 = .ok (.lload_n 1, 1) := by decide +kernel
theorem dX2_mostLeft_2 : decode cX2_mostLeft 2 = .ok (.aload_n 0, 1) := by decide +kernel
theorem dX2_mostLeft_3 : decode cX2_mostLeft 3 = .ok (.iload_n 3, 1) := by decide +kernel
theorem dX2_mostLeft_4 : decode cX2_mostLeft 4 = .ok (.iconst 1, 1) := by decide +kernel
theorem dX2_mostLeft_5 : decode cX2_mostLeft 5 = .ok (.invokevirtual 77, 3) := by decide +kernel
theorem dX2_mostLeft_8 : decode cX2_mostLeft 8 = .ok (.land, 1) := by decide +kernel
theorem dX2_mostLeft_9 : decode cX2_mostLeft 9 = .ok (.invokevirtual 101, 3) := by decide +kernel
theorem dX2_mostLeft_12 : decode cX2_mostLeft 12 = .ok (.aload_n 0, 1) := by decide +kernel
theorem dX2_mostLeft_13 : decode cX2_mostLeft 13 = .ok (.lload_n 1, 1) := by decide +kernel
theorem dX2_mostLeft_14 : decode cX2_mostLeft 14 = .ok (.aload_n 0, 1) := by decide +kernel
theorem dX2_mostLeft_15 : decode cX2_mostLeft 15 = .ok (.iload_n 3, 1) := by decide +kernel
theorem dX2_mostLeft_16 : decode cX2_mostLeft 16 = .ok (.iconst 0, 1) := by decide +kernel
theorem dX2_mostLeft_17 : decode cX2_mostLeft 17 = .ok (.invokevirtual 77, 3) := by decide +kernel
theorem dX2_mostLeft_20 : decode cX2_mostLeft 20 = .ok (.land, 1) := by decide +kernel
theorem dX2_mostLeft_21 : decode cX2_mostLeft 21 = .ok (.invokevirtual 101, 3) := by decide +kernel
theorem dX2_mostLeft_24 : decode cX2_mostLeft 24 = .ok (.invokestatic 84, 3) := by decide +kernel
theorem dX2_mostLeft_27 : decode cX2_mostLeft 27 = .ok (.ireturn, 1) := by decide +kernel
theorem dX3_init_0 : decode cX3_init 0 = .ok (.aload_n 0, 1) := by decide +kernel
theorem dX3_init_1 : decode cX3_init 1 = .ok (.invokespecial 3, 3) := by decide +kernel
theorem dX3_init_4 : decode cX3_init 4 = .ok (.aload_n 0, 1) := by decide +kernel
theorem dX3_init_5 : decode cX3_init 5 = .ok (.bipush 6, 2) := by decide +kernel
theorem dX3_init_7 : decode cX3_init 7 = .ok (.newarray .long, 2) := by decide +kernel
theorem dX3_init_9 : decode cX3_init 9 = .ok (.putfield 9, 3) := by decide +kernel
theorem dX3_init_12 : decode cX3_init 12 = .ok (.aload_n 0, 1) := by decide +kernel
theorem dX3_init_13 : decode cX3_init 13 = .ok (.bipush 6, 2) := by decide +kernel
theorem dX3_init_15 : decode cX3_init 15 = .ok (.newarray .long, 2) := by decide +kernel
theorem dX3_init_17 : decode cX3_init 17 = .ok (.putfield 15, 3) := by decide +kernel
theorem dX3_init_20 : decode cX3_init 20 = .ok (.aload_n 0, 1) := by decide +kernel
theorem dX3_init_21 : decode cX3_init 21 = .ok (.aload_n 1, 1) := by decide +kernel
theorem dX3_init_22 : decode cX3_init 22 = .ok (.putfield 18, 3) := by decide +kernel
theorem dX3_init_25 : decode cX3_init 25 = .ok (.aload_n 0, 1) := by decide +kernel
theorem dX3_init_26 : decode cX3_init 26 = .ok (.aload_n 2, 1) := by decide +kernel
theorem dX3_init_27 : decode cX3_init 27 = .ok (.putfield 22, 3) := by decide +kernel
theorem dX3_init_30 : decode cX3_init 30 = .ok (.return_, 1) := by decide +kernel
theorem dX3_findLiars_0 : decode cX3_findLiars 0 = .ok (.aload_n 0, 1) := by decide +kernel
theorem dX3_findLiars_1 : decode cX3_findLiars 1 = .ok (.invokevirtual 26, 3) := by decide +kernel
theorem dX3_findLiars_4 : decode cX3_findLiars 4 = .ok (.aload_n 0, 1) := by decide +kernel
theorem dX3_findLiars_5 : decode cX3_findLiars 5 = .ok (.iconst 0, 1) := by decide +kernel
theorem dX3_findLiars_6 : decode cX3_findLiars 6 = .ok (.putfield 29, 3) := by decide +kernel
theorem dX3_findLiars_9 : decode cX3_findLiars 9 = .ok (.aload_n 0, 1) := by decide +kernel
theorem dX3_findLiars_10 : decode cX3_findLiars 10 = .ok (.iconst 0, 1) := by decide +kernel
theorem dX3_findLiars_11 : decode cX3_findLiars 11 = .ok (.putfield 33, 3) := by decide +kernel
theorem dX3_findLiars_14 : decode cX3_findLiars 14 = .ok (.aload_n 0, 1) := by decide +kernel
theorem dX3_findLiars_15 : decode cX3_findLiars 15 = .ok (.iconst 0, 1) := by decide +kernel
theorem dX3_findLiars_16 : decode cX3_findLiars 16 = .ok (.putfield 36, 3) := by decide +kernel
theorem dX3_findLiars_19 : decode cX3_findLiars 19 = .ok (.aload_n 0, 1) := by decide +kernel
theorem dX3_findLiars_20 : decode cX3_findLiars 20 = .ok (.iconst 0, 1) := by decide +kernel
theorem dX3_findLiars_21 : decode cX3_findLiars 21 = .ok (.putfield 39, 3) := by decide +kernel
theorem dX3_findLiars_24 : decode cX3_findLiars 24 = .ok (.bipush 7, 2) := by decide +kernel
theorem dX3_findLiars_26 : decode cX3_findLiars 26 = .ok (.istore_n 2, 1) := by decide +kernel
theorem dX3_findLiars_27 : decode cX3_findLiars 27 = .ok (.iconst 0, 1) := by decide +kernel
theorem dX3_findLiars_28 : decode cX3_findLiars 28 = .ok (.istore_n 3, 1) := by decide +kernel
theorem dX3_findLiars_29 : decode cX3_findLiars 29 = .ok (.iload_n 3, 1) := by decide +kernel
theorem dX3_findLiars_30 : decode cX3_findLiars 30 = .ok (.iconst 1, 1) := by decide +kernel
theorem dX3_findLiars_31 : decode cX3_findLiars 31 = .ok (.iload_n 1, 1) := by decide +kernel
theorem dX3_findLiars_32 : decode cX3_findLiars 32 = .ok (.ishl, 1) := by decide +kernel
theorem dX3_findLiars_33 : decode cX3_findLiars 33 = .ok (.if_icmp .ge 89, 3) := by decide +kernel
theorem dX3_findLiars_36 : decode cX3_findLiars 36 = .ok (.aload_n 0, 1) := by decide +kernel
theorem dX3_findLiars_37 : decode cX3_findLiars 37 = .ok (.iload_n 3, 1) := by decide +kernel
theorem dX3_findLiars_38 : decode cX3_findLiars 38 = .ok (.iload_n 1, 1) := by decide +kernel
theorem dX3_findLiars_39 : decode cX3_findLiars 39 = .ok (.invokevirtual 42, 3) := by decide +kernel
theorem dX3_findLiars_42 : decode cX3_findLiars 42 = .ok (.lconst 0, 1) := by decide +kernel
theorem dX3_findLiars_43 : decode cX3_findLiars 43 = .ok (.lcmp, 1) := by decide +kernel
theorem dX3_findLiars_44 : decode cX3_findLiars 44 = .ok (.ifCond .eq 72, 3) := by decide +kernel
theorem dX3_findLiars_47 : decode cX3_findLiars 47 = .ok (.aload_n 0, 1) := by decide +kernel
theorem dX3_findLiars_48 : decode cX3_findLiars 48 = .ok (.dup, 1) := by decide +kernel
theorem dX3_findLiars_49 : decode cX3_findLiars 49 = .ok (.getfield 33, 3) := by decide +kernel
theorem dX3_findLiars_52 : decode cX3_findLiars 52 = .ok (.iconst 1, 1) := by decide +kernel
theorem dX3_findLiars_53 : decode cX3_findLiars 53 = .ok (.iadd, 1) := by decide +kernel
theorem dX3_findLiars_54 : decode cX3_findLiars 54 = .ok (.putfield 33, 3) := by decide +kernel
theorem dX3_findLiars_57 : decode cX3_findLiars 57 = .ok (.iload_n 3, 1) := by decide +kernel
theorem dX3_findLiars_58 : decode cX3_findLiars 58 = .ok (.invokestatic 46, 3) := by decide +kernel
theorem dX3_findLiars_61 : decode cX3_findLiars 61 = .ok (.istore 4, 2) := by decide +kernel
theorem dX3_findLiars_63 : decode cX3_findLiars 63 = .ok (.iload 4, 2) := by decide +kernel
theorem dX3_findLiars_65 : decode cX3_findLiars 65 = .ok (.iload_n 2, 1) := by decide +kernel
theorem dX3_findLiars_66 : decode cX3_findLiars 66 = .ok (.if_icmp .ge 24, 3) := by decide +kernel
theorem dX3_findLiars_69 : decode cX3_findLiars 69 = .ok (.iload 4, 2) := by decide +kernel
theorem dX3_findLiars_71 : decode cX3_findLiars 71 = .ok (.istore_n 2, 1) := by decide +kernel
theorem dX3_findLiars_72 : decode cX3_findLiars 72 = .ok (.aload_n 0, 1) := by decide +kernel
theorem dX3_findLiars_73 : decode cX3_findLiars 73 = .ok (.iload_n 3, 1) := by decide +kernel
theorem dX3_findLiars_74 : decode cX3_findLiars 74 = .ok (.putfield 29, 3) := by decide +kernel
theorem dX3_findLiars_77 : decode cX3_findLiars 77 = .ok (.aload_n 0, 1) := by decide +kernel
theorem dX3_findLiars_78 : decode cX3_findLiars 78 = .ok (.iload_n 3, 1) := by decide +kernel
theorem dX3_findLiars_79 : decode cX3_findLiars 79 = .ok (.putfield 36, 3) := by decide +kernel
theorem dX3_findLiars_82 : decode cX3_findLiars 82 = .ok (.aload_n 0, 1) := by decide +kernel
theorem dX3_findLiars_83 : decode cX3_findLiars 83 = .ok (.iload_n 3, 1) := by decide +kernel
theorem dX3_findLiars_84 : decode cX3_findLiars 84 = .ok (.putfield 39, 3) := by decide +kernel
theorem dX3_findLiars_87 : decode cX3_findLiars 87 = .ok (.goto 29, 3) := by decide +kernel
theorem dX3_findLiars_90 : decode cX3_findLiars 90 = .ok (.iload 4, 2) := by decide +kernel
theorem dX3_findLiars_92 : decode cX3_findLiars 92 = .ok (.iload_n 2, 1) := by decide +kernel
theorem dX3_findLiars_93 : decode cX3_findLiars 93 = .ok (.if_icmp .ne 23, 3) := by decide +kernel
theorem dX3_findLiars_96 : decode cX3_findLiars 96 = .ok (.aload_n 0, 1) := by decide +kernel
theorem dX3_findLiars_97 : decode cX3_findLiars 97 = .ok (.dup, 1) := by decide +kernel
theorem dX3_findLiars_98 : decode cX3_findLiars 98 = .ok (.getfield 36, 3) := by decide +kernel
theorem dX3_findLiars_101 : decode cX3_findLiars 101 = .ok (.iload_n 3, 1) := by decide +kernel
theorem dX3_findLiars_102 : decode cX3_findLiars 102 = .ok (.ior, 1) := by decide +kernel
theorem dX3_findLiars_103 : decode cX3_findLiars 103 = .ok (.putfield 36, 3) := by decide +kernel
theorem dX3_findLiars_106 : decode cX3_findLiars 106 = .ok (.aload_n 0, 1) := by decide +kernel
theorem dX3_findLiars_107 : decode cX3_findLiars 107 = .ok (.dup, 1) := by decide +kernel
theorem dX3_findLiars_108 : decode cX3_findLiars 108 = .ok (.getfield 39, 3) := by decide +kernel
theorem dX3_findLiars_111 : decode cX3_findLiars 111 = .ok (.iload_n 3, 1) := by decide +kernel
theorem dX3_findLiars_112 : decode cX3_findLiars 112 = .ok (.iand, 1) := by decide +kernel
theorem dX3_findLiars_113 : decode cX3_findLiars 113 = .ok (.putfield 39, 3) := by decide +kernel
theorem dX3_findLiars_116 : decode cX3_findLiars 116 = .ok (.iinc 3 1, 3) := by decide +kernel
theorem dX3_findLiars_119 : decode cX3_findLiars 119 = .ok (.goto (-90), 3) := by decide +kernel
theorem dX3_findLiars_122 : decode cX3_findLiars 122 = .ok (.return_, 1) := by decide +kernel
theorem dX3_gatherAnswers_0 : decode cX3_gatherAnswers 0 = .ok (.iconst 0, 1) := by decide +kernel
theorem dX3_gatherAnswers_1 : decode cX3_gatherAnswers 1 = .ok (.istore_n 1, 1) := by decide +kernel
theorem dX3_gatherAnswers_2 : decode cX3_gatherAnswers 2 = .ok (.iload_n 1, 1) := by decide +kernel
theorem dX3_gatherAnswers_3 : decode cX3_gatherAnswers 3 = .ok (.bipush 6, 2) := by decide +kernel
theorem dX3_gatherAnswers_5 : decode cX3_gatherAnswers 5 = .ok (.if_icmp .ge 35, 3) := by decide +kernel
theorem dX3_gatherAnswers_8 : decode cX3_gatherAnswers 8 = .ok (.aload_n 0, 1) := by decide +kernel
theorem dX3_gatherAnswers_9 : decode cX3_gatherAnswers 9 = .ok (.getfield 9, 3) := by decide +kernel
theorem dX3_gatherAnswers_12 : decode cX3_gatherAnswers 12 = .ok (.iload_n 1, 1) := by decide +kernel
theorem dX3_gatherAnswers_13 : decode cX3_gatherAnswers 13 = .ok (.aload_n 0, 1) := by decide +kernel
theorem dX3_gatherAnswers_14 : decode cX3_gatherAnswers 14 = .ok (.getfield 18, 3) := by decide +kernel
theorem dX3_gatherAnswers_17 : decode cX3_gatherAnswers 17 = .ok (.getfield 52, 3) := by decide +kernel
theorem dX3_gatherAnswers_20 : decode cX3_gatherAnswers 20 = .ok (.lastore, 1) := by decide +kernel
theorem dX3_gatherAnswers_21 : decode cX3_gatherAnswers 21 = .ok (.aload_n 0, 1) := by decide +kernel
theorem dX3_gatherAnswers_22 : decode cX3_gatherAnswers 22 = .ok (.getfield 15, 3) := by decide +kernel
theorem dX3_gatherAnswers_25 : decode cX3_gatherAnswers 25 = .ok (.iload_n 1, 1) := by decide +kernel
theorem dX3_gatherAnswers_26 : decode cX3_gatherAnswers 26 = .ok (.aload_n 0, 1) := by decide +kernel
theorem dX3_gatherAnswers_27 : decode cX3_gatherAnswers 27 = .ok (.getfield 18, 3) := by decide +kernel
theorem dX3_gatherAnswers_30 : decode cX3_gatherAnswers 30 = .ok (.getfield 52, 3) := by decide +kernel
theorem dX3_gatherAnswers_33 : decode cX3_gatherAnswers 33 = .ok (.lastore, 1) := by decide +kernel
theorem dX3_gatherAnswers_34 : decode cX3_gatherAnswers 34 = .ok (.iinc 1 1, 3) := by decide +kernel
theorem dX3_gatherAnswers_37 : decode cX3_gatherAnswers 37 = .ok (.goto (-35), 3) := by decide +kernel
theorem dX3_gatherAnswers_40 : decode cX3_gatherAnswers 40 = .ok (.iconst 0, 1) := by decide +kernel
theorem dX3_gatherAnswers_41 : decode cX3_gatherAnswers 41 = .ok (.istore_n 1, 1) := by decide +kernel
theorem dX3_gatherAnswers_42 : decode cX3_gatherAnswers 42 = .ok (.iload_n 1, 1) := by decide +kernel
theorem dX3_gatherAnswers_43 : decode cX3_gatherAnswers 43 = .ok (.aload_n 0, 1) := by decide +kernel
theorem dX3_gatherAnswers_44 : decode cX3_gatherAnswers 44 = .ok (.getfield 22, 3) := by decide +kernel
theorem dX3_gatherAnswers_47 : decode cX3_gatherAnswers 47 = .ok (.getfield 58, 3) := by decide +kernel
theorem dX3_gatherAnswers_50 : decode cX3_gatherAnswers 50 = .ok (.if_icmp .ge 111, 3) := by decide +kernel
theorem dX3_gatherAnswers_53 : decode cX3_gatherAnswers 53 = .ok (.iload_n 1, 1) := by decide +kernel
theorem dX3_gatherAnswers_54 : decode cX3_gatherAnswers 54 = .ok (.bipush 20, 2) := by decide +kernel
theorem dX3_gatherAnswers_56 : decode cX3_gatherAnswers 56 = .ok (.if_icmp .ge 105, 3) := by decide +kernel
theorem dX3_gatherAnswers_59 : decode cX3_gatherAnswers 59 = .ok (.aload_n 0, 1) := by decide +kernel
theorem dX3_gatherAnswers_60 : decode cX3_gatherAnswers 60 = .ok (.getfield 22, 3) := by decide +kernel
theorem dX3_gatherAnswers_63 : decode cX3_gatherAnswers 63 = .ok (.getfield 63, 3) := by decide +kernel
theorem dX3_gatherAnswers_66 : decode cX3_gatherAnswers 66 = .ok (.iload_n 1, 1) := by decide +kernel
theorem dX3_gatherAnswers_67 : decode cX3_gatherAnswers 67 = .ok (.iaload, 1) := by decide +kernel
theorem dX3_gatherAnswers_68 : decode cX3_gatherAnswers 68 = .ok (.istore_n 2, 1) := by decide +kernel
theorem dX3_gatherAnswers_69 : decode cX3_gatherAnswers 69 = .ok (.iload_n 2, 1) := by decide +kernel
theorem dX3_gatherAnswers_70 : decode cX3_gatherAnswers 70 = .ok (.ifCond .lt 85, 3) := by decide +kernel
theorem dX3_gatherAnswers_73 : decode cX3_gatherAnswers 73 = .ok (.iload_n 2, 1) := by decide +kernel
theorem dX3_gatherAnswers_74 : decode cX3_gatherAnswers 74 = .ok (.bipush 6, 2) := by decide +kernel
theorem dX3_gatherAnswers_76 : decode cX3_gatherAnswers 76 = .ok (.if_icmp .ge 79, 3) := by decide +kernel
theorem dX3_gatherAnswers_79 : decode cX3_gatherAnswers 79 = .ok (.aload_n 0, 1) := by decide +kernel
theorem dX3_gatherAnswers_80 : decode cX3_gatherAnswers 80 = .ok (.getfield 9, 3) := by decide +kernel
theorem dX3_gatherAnswers_83 : decode cX3_gatherAnswers 83 = .ok (.iload_n 2, 1) := by decide +kernel
theorem dX3_gatherAnswers_84 : decode cX3_gatherAnswers 84 = .ok (.dup2, 1) := by decide +kernel
theorem dX3_gatherAnswers_85 : decode cX3_gatherAnswers 85 = .ok (.laload, 1) := by decide +kernel
theorem dX3_gatherAnswers_86 : decode cX3_gatherAnswers 86 = .ok (.aload_n 0, 1) := by decide +kernel
theorem dX3_gatherAnswers_87 : decode cX3_gatherAnswers 87 = .ok (.getfield 18, 3) := by decide +kernel
theorem dX3_gatherAnswers_90 : decode cX3_gatherAnswers 90 = .ok (.aload_n 0, 1) := by decide +kernel
theorem dX3_gatherAnswers_91 : decode cX3_gatherAnswers 91 = .ok (.getfield 22, 3) := by decide +kernel
theorem dX3_gatherAnswers_94 : decode cX3_gatherAnswers 94 = .ok (.getfield 67, 3) := by decide +kernel
theorem dX3_gatherAnswers_97 : decode cX3_gatherAnswers 97 = .ok (.iload_n 1, 1) := by decide +kernel
theorem dX3_gatherAnswers_98 : decode cX3_gatherAnswers 98 = .ok (.iaload, 1) := by decide +kernel
theorem dX3_gatherAnswers_99 : decode cX3_gatherAnswers 99 = .ok (.aload_n 0, 1) := by decide +kernel
theorem dX3_gatherAnswers_100 : decode cX3_gatherAnswers 100 = .ok (.getfield 22, 3) := by decide +kernel
theorem dX3_gatherAnswers_103 : decode cX3_gatherAnswers 103 = .ok (.getfield 70, 3) := by decide +kernel
theorem dX3_gatherAnswers_106 : decode cX3_gatherAnswers 106 = .ok (.iload_n 1, 1) := by decide +kernel
theorem dX3_gatherAnswers_107 : decode cX3_gatherAnswers 107 = .ok (.baload, 1) := by decide +kernel
theorem dX3_gatherAnswers_108 : decode cX3_gatherAnswers 108 = .ok (.invokevirtual 74, 3) := by decide +kernel
theorem dX3_gatherAnswers_111 : decode cX3_gatherAnswers 111 = .ok (.land, 1) := by decide +kernel
theorem dX3_gatherAnswers_112 : decode cX3_gatherAnswers 112 = .ok (.lastore, 1) := by decide +kernel
theorem dX3_gatherAnswers_113 : decode cX3_gatherAnswers 113 = .ok (.aload_n 0, 1) := by decide +kernel
theorem dX3_gatherAnswers_114 : decode cX3_gatherAnswers 114 = .ok (.getfield 15, 3) := by decide +kernel
theorem dX3_gatherAnswers_117 : decode cX3_gatherAnswers 117 = .ok (.iload_n 2, 1) := by decide +kernel
theorem dX3_gatherAnswers_118 : decode cX3_gatherAnswers 118 = .ok (.dup2, 1) := by decide +kernel
theorem dX3_gatherAnswers_119 : decode cX3_gatherAnswers 119 = .ok (.laload, 1) := by decide +kernel
theorem dX3_gatherAnswers_120 : decode cX3_gatherAnswers 120 = .ok (.aload_n 0, 1) := by decide +kernel
theorem dX3_gatherAnswers_121 : decode cX3_gatherAnswers 121 = .ok (.getfield 18, 3) := by decide +kernel
theorem dX3_gatherAnswers_124 : decode cX3_gatherAnswers 124 = .ok (.aload_n 0, 1) := by decide +kernel
theorem dX3_gatherAnswers_125 : decode cX3_gatherAnswers 125 = .ok (.getfield 22, 3) := by decide +kernel
theorem dX3_gatherAnswers_128 : decode cX3_gatherAnswers 128 = .ok (.getfield 67, 3) := by decide +kernel
theorem dX3_gatherAnswers_131 : decode cX3_gatherAnswers 131 = .ok (.iload_n 1, 1) := by decide +kernel
theorem dX3_gatherAnswers_132 : decode cX3_gatherAnswers 132 = .ok (.iaload, 1) := by decide +kernel
theorem dX3_gatherAnswers_133 : decode cX3_gatherAnswers 133 = .ok (.aload_n 0, 1) := by decide +kernel
theorem dX3_gatherAnswers_134 : decode cX3_gatherAnswers 134 = .ok (.getfield 22, 3) := by decide +kernel
theorem dX3_gatherAnswers_137 : decode cX3_gatherAnswers 137 = .ok (.getfield 70, 3) := by decide +kernel
theorem dX3_gatherAnswers_140 : decode cX3_gatherAnswers 140 = .ok (.iload_n 1, 1) := by decide +kernel
theorem dX3_gatherAnswers_141 : decode cX3_gatherAnswers 141 = .ok (.baload, 1) := by decide +kernel
theorem dX3_gatherAnswers_142 : decode cX3_gatherAnswers 142 = .ok (.ifCond .ne 7, 3) := by decide +kernel
theorem dX3_gatherAnswers_145 : decode cX3_gatherAnswers 145 = .ok (.iconst 1, 1) := by decide +kernel
theorem dX3_gatherAnswers_146 : decode cX3_gatherAnswers 146 = .ok (.goto 4, 3) := by decide +kernel
theorem dX3_gatherAnswers_149 : decode cX3_gatherAnswers 149 = .ok (.iconst 0, 1) := by decide +kernel
theorem dX3_gatherAnswers_150 : decode cX3_gatherAnswers 150 = .ok (.invokevirtual 74, 3) := by decide +kernel
theorem dX3_gatherAnswers_153 : decode cX3_gatherAnswers 153 = .ok (.land, 1) := by decide +kernel
theorem dX3_gatherAnswers_154 : decode cX3_gatherAnswers 154 = .ok (.lastore, 1) := by decide +kernel
theorem dX3_gatherAnswers_155 : decode cX3_gatherAnswers 155 = .ok (.iinc 1 1, 3) := by decide +kernel
theorem dX3_gatherAnswers_158 : decode cX3_gatherAnswers 158 = .ok (.goto (-116), 3) := by decide +kernel
theorem dX3_gatherAnswers_161 : decode cX3_gatherAnswers 161 = .ok (.return_, 1) := by decide +kernel
theorem dX3_worldsIfLying_0 : decode cX3_worldsIfLying 0 = .ok (.aload_n 0, 1) := by decide +kernel
theorem dX3_worldsIfLying_1 : decode cX3_worldsIfLying 1 = .ok (.getfield 18, 3) := by decide +kernel
theorem dX3_worldsIfLying_4 : decode cX3_worldsIfLying 4 = .ok (.getfield 52, 3) := by decide +kernel
theorem dX3_worldsIfLying_7 : decode cX3_worldsIfLying 7 = .ok (.lstore_n 3, 1) := by decide +kernel
theorem dX3_worldsIfLying_8 : decode cX3_worldsIfLying 8 = .ok (.iconst 0, 1) := by decide +kernel
theorem dX3_worldsIfLying_9 : decode cX3_worldsIfLying 9 = .ok (.istore 5, 2) := by decide +kernel
theorem dX3_worldsIfLying_11 : decode cX3_worldsIfLying 11 = .ok (.iload 5, 2) := by decide +kernel
theorem dX3_worldsIfLying_13 : decode cX3_worldsIfLying 13 = .ok (.iload_n 2, 1) := by decide +kernel
theorem dX3_worldsIfLying_14 : decode cX3_worldsIfLying 14 = .ok (.if_icmp .ge 47, 3) := by decide +kernel
theorem dX3_worldsIfLying_17 : decode cX3_worldsIfLying 17 = .ok (.iload 5, 2) := by decide +kernel
theorem dX3_worldsIfLying_19 : decode cX3_worldsIfLying 19 = .ok (.bipush 6, 2) := by decide +kernel
theorem dX3_worldsIfLying_21 : decode cX3_worldsIfLying 21 = .ok (.if_icmp .ge 40, 3) := by decide +kernel
theorem dX3_worldsIfLying_24 : decode cX3_worldsIfLying 24 = .ok (.lload_n 3, 1) := by decide +kernel
theorem dX3_worldsIfLying_25 : decode cX3_worldsIfLying 25 = .ok (.iload_n 1, 1) := by decide +kernel
theorem dX3_worldsIfLying_26 : decode cX3_worldsIfLying 26 = .ok (.i2l, 1) := by decide +kernel
theorem dX3_worldsIfLying_27 : decode cX3_worldsIfLying 27 = .ok (.iload 5, 2) := by decide +kernel
theorem dX3_worldsIfLying_29 : decode cX3_worldsIfLying 29 = .ok (.invokestatic 78, 3) := by decide +kernel
theorem dX3_worldsIfLying_32 : decode cX3_worldsIfLying 32 = .ok (.iconst 1, 1) := by decide +kernel
theorem dX3_worldsIfLying_33 : decode cX3_worldsIfLying 33 = .ok (.if_icmp .ne 13, 3) := by decide +kernel
theorem dX3_worldsIfLying_36 : decode cX3_worldsIfLying 36 = .ok (.aload_n 0, 1) := by decide +kernel
theorem dX3_worldsIfLying_37 : decode cX3_worldsIfLying 37 = .ok (.getfield 15, 3) := by decide +kernel
theorem dX3_worldsIfLying_40 : decode cX3_worldsIfLying 40 = .ok (.iload 5, 2) := by decide +kernel
theorem dX3_worldsIfLying_42 : decode cX3_worldsIfLying 42 = .ok (.laload, 1) := by decide +kernel
theorem dX3_worldsIfLying_43 : decode cX3_worldsIfLying 43 = .ok (.goto 10, 3) := by decide +kernel
theorem dX3_worldsIfLying_46 : decode cX3_worldsIfLying 46 = .ok (.aload_n 0, 1) := by decide +kernel
theorem dX3_worldsIfLying_47 : decode cX3_worldsIfLying 47 = .ok (.getfield 9, 3) := by decide +kernel
theorem dX3_worldsIfLying_50 : decode cX3_worldsIfLying 50 = .ok (.iload 5, 2) := by decide +kernel
theorem dX3_worldsIfLying_52 : decode cX3_worldsIfLying 52 = .ok (.laload, 1) := by decide +kernel
theorem dX3_worldsIfLying_53 : decode cX3_worldsIfLying 53 = .ok (.land, 1) := by decide +kernel
theorem dX3_worldsIfLying_54 : decode cX3_worldsIfLying 54 = .ok (.lstore_n 3, 1) := by decide +kernel
theorem dX3_worldsIfLying_55 : decode cX3_worldsIfLying 55 = .ok (.iinc 5 1, 3) := by decide +kernel
theorem dX3_worldsIfLying_58 : decode cX3_worldsIfLying 58 = .ok (.goto (-47), 3) := by decide +kernel
theorem dX3_worldsIfLying_61 : decode cX3_worldsIfLying 61 = .ok (.lload_n 3, 1) := by decide +kernel
theorem dX3_worldsIfLying_62 : decode cX3_worldsIfLying 62 = .ok (.lreturn, 1) := by decide +kernel
theorem dX3_worldsAsTold_0 : decode cX3_worldsAsTold 0 = .ok (.iload_n 1, 1) := by decide +kernel
theorem dX3_worldsAsTold_1 : decode cX3_worldsAsTold 1 = .ok (.ifCond .lt 9, 3) := by decide +kernel
theorem dX3_worldsAsTold_4 : decode cX3_worldsAsTold 4 = .ok (.iload_n 1, 1) := by decide +kernel
theorem dX3_worldsAsTold_5 : decode cX3_worldsAsTold 5 = .ok (.bipush 20, 2) := by decide +kernel
theorem dX3_worldsAsTold_7 : decode cX3_worldsAsTold 7 = .ok (.if_icmp .lt 11, 3) := by decide +kernel
theorem dX3_worldsAsTold_10 : decode cX3_worldsAsTold 10 = .ok (.aload_n 0, 1) := by decide +kernel
theorem dX3_worldsAsTold_11 : decode cX3_worldsAsTold 11 = .ok (.getfield 18, 3) := by decide +kernel
theorem dX3_worldsAsTold_14 : decode cX3_worldsAsTold 14 = .ok (.getfield 52, 3) := by decide +kernel
theorem dX3_worldsAsTold_17 : decode cX3_worldsAsTold 17 = .ok (.lreturn, 1) := by decide +kernel
theorem dX3_worldsAsTold_18 : decode cX3_worldsAsTold 18 = .ok (.aload_n 0, 1) := by decide +kernel
theorem dX3_worldsAsTold_19 : decode cX3_worldsAsTold 19 = .ok (.getfield 18, 3) := by decide +kernel
theorem dX3_worldsAsTold_22 : decode cX3_worldsAsTold 22 = .ok (.aload_n 0, 1) := by decide +kernel
theorem dX3_worldsAsTold_23 : decode cX3_worldsAsTold 23 = .ok (.getfield 22, 3) := by decide +kernel
theorem dX3_worldsAsTold_26 : decode cX3_worldsAsTold 26 = .ok (.getfield 67, 3) := by decide +kernel
theorem dX3_worldsAsTold_29 : decode cX3_worldsAsTold 29 = .ok (.iload_n 1, 1) := by decide +kernel
theorem dX3_worldsAsTold_30 : decode cX3_worldsAsTold 30 = .ok (.iaload, 1) := by decide +kernel
theorem dX3_worldsAsTold_31 : decode cX3_worldsAsTold 31 = .ok (.aload_n 0, 1) := by decide +kernel
theorem dX3_worldsAsTold_32 : decode cX3_worldsAsTold 32 = .ok (.getfield 22, 3) := by decide +kernel
theorem dX3_worldsAsTold_35 : decode cX3_worldsAsTold 35 = .ok (.getfield 70, 3) := by decide +kernel
theorem dX3_worldsAsTold_38 : decode cX3_worldsAsTold 38 = .ok (.iload_n 1, 1) := by decide +kernel
theorem dX3_worldsAsTold_39 : decode cX3_worldsAsTold 39 = .ok (.baload, 1) := by decide +kernel
theorem dX3_worldsAsTold_40 : decode cX3_worldsAsTold 40 = .ok (.invokevirtual 74, 3) := by decide +kernel
theorem dX3_worldsAsTold_43 : decode cX3_worldsAsTold 43 = .ok (.lreturn, 1) := by decide +kernel
theorem dX3_worldsByAnswer_0 : decode cX3_worldsByAnswer 0 = .ok (.iload_n 1, 1) := by decide +kernel
theorem dX3_worldsByAnswer_1 : decode cX3_worldsByAnswer 1 = .ok (.ifCond .lt 9, 3) := by decide +kernel
theorem dX3_worldsByAnswer_4 : decode cX3_worldsByAnswer 4 = .ok (.iload_n 1, 1) := by decide +kernel
theorem dX3_worldsByAnswer_5 : decode cX3_worldsByAnswer 5 = .ok (.bipush 20, 2) := by decide +kernel
theorem dX3_worldsByAnswer_7 : decode cX3_worldsByAnswer 7 = .ok (.if_icmp .lt 11, 3) := by decide +kernel
theorem dX3_worldsByAnswer_10 : decode cX3_worldsByAnswer 10 = .ok (.aload_n 0, 1) := by decide +kernel
theorem dX3_worldsByAnswer_11 : decode cX3_worldsByAnswer 11 = .ok (.getfield 18, 3) := by decide +kernel
theorem dX3_worldsByAnswer_14 : decode cX3_worldsByAnswer 14 = .ok (.getfield 52, 3) := by decide +kernel
theorem dX3_worldsByAnswer_17 : decode cX3_worldsByAnswer 17 = .ok (.lreturn, 1) := by decide +kernel
theorem dX3_worldsByAnswer_18 : decode cX3_worldsByAnswer 18 = .ok (.aload_n 0, 1) := by decide +kernel
theorem dX3_worldsByAnswer_19 : decode cX3_worldsByAnswer 19 = .ok (.getfield 29, 3) := by decide +kernel
theorem dX3_worldsByAnswer_22 : decode cX3_worldsByAnswer 22 = .ok (.i2l, 1) := by decide +kernel
theorem dX3_worldsByAnswer_23 : decode cX3_worldsByAnswer 23 = .ok (.aload_n 0, 1) := by decide +kernel
theorem dX3_worldsByAnswer_24 : decode cX3_worldsByAnswer 24 = .ok (.getfield 22, 3) := by decide +kernel
theorem dX3_worldsByAnswer_27 : decode cX3_worldsByAnswer 27 = .ok (.getfield 63, 3) := by decide +kernel
theorem dX3_worldsByAnswer_30 : decode cX3_worldsByAnswer 30 = .ok (.iload_n 1, 1) := by decide +kernel
theorem dX3_worldsByAnswer_31 : decode cX3_worldsByAnswer 31 = .ok (.iaload, 1) := by decide +kernel
theorem dX3_worldsByAnswer_32 : decode cX3_worldsByAnswer 32 = .ok (.invokestatic 78, 3) := by decide +kernel
theorem dX3_worldsByAnswer_35 : decode cX3_worldsByAnswer 35 = .ok (.iconst 1, 1) := by decide +kernel
theorem dX3_worldsByAnswer_36 : decode cX3_worldsByAnswer 36 = .ok (.if_icmp .ne 7, 3) := by decide +kernel
theorem dX3_worldsByAnswer_39 : decode cX3_worldsByAnswer 39 = .ok (.iconst 1, 1) := by decide +kernel
theorem dX3_worldsByAnswer_40 : decode cX3_worldsByAnswer 40 = .ok (.goto 4, 3) := by decide +kernel
theorem dX3_worldsByAnswer_43 : decode cX3_worldsByAnswer 43 = .ok (.iconst 0, 1) := by decide +kernel
theorem dX3_worldsByAnswer_44 : decode cX3_worldsByAnswer 44 = .ok (.istore_n 2, 1) := by decide +kernel
theorem dX3_worldsByAnswer_45 : decode cX3_worldsByAnswer 45 = .ok (.aload_n 0, 1) := by decide +kernel
theorem dX3_worldsByAnswer_46 : decode cX3_worldsByAnswer 46 = .ok (.getfield 18, 3) := by decide +kernel
theorem dX3_worldsByAnswer_49 : decode cX3_worldsByAnswer 49 = .ok (.aload_n 0, 1) := by decide +kernel
theorem dX3_worldsByAnswer_50 : decode cX3_worldsByAnswer 50 = .ok (.getfield 22, 3) := by decide +kernel
theorem dX3_worldsByAnswer_53 : decode cX3_worldsByAnswer 53 = .ok (.getfield 67, 3) := by decide +kernel
theorem dX3_worldsByAnswer_56 : decode cX3_worldsByAnswer 56 = .ok (.iload_n 1, 1) := by decide +kernel
theorem dX3_worldsByAnswer_57 : decode cX3_worldsByAnswer 57 = .ok (.iaload, 1) := by decide +kernel
theorem dX3_worldsByAnswer_58 : decode cX3_worldsByAnswer 58 = .ok (.aload_n 0, 1) := by decide +kernel
theorem dX3_worldsByAnswer_59 : decode cX3_worldsByAnswer 59 = .ok (.getfield 22, 3) := by decide +kernel
theorem dX3_worldsByAnswer_62 : decode cX3_worldsByAnswer 62 = .ok (.getfield 70, 3) := by decide +kernel
theorem dX3_worldsByAnswer_65 : decode cX3_worldsByAnswer 65 = .ok (.iload_n 1, 1) := by decide +kernel
theorem dX3_worldsByAnswer_66 : decode cX3_worldsByAnswer 66 = .ok (.baload, 1) := by decide +kernel
theorem dX3_worldsByAnswer_67 : decode cX3_worldsByAnswer 67 = .ok (.iload_n 2, 1) := by decide +kernel
theorem dX3_worldsByAnswer_68 : decode cX3_worldsByAnswer 68 = .ok (.if_icmp .eq 7, 3) := by decide +kernel
theorem dX3_worldsByAnswer_71 : decode cX3_worldsByAnswer 71 = .ok (.iconst 1, 1) := by decide +kernel
theorem dX3_worldsByAnswer_72 : decode cX3_worldsByAnswer 72 = .ok (.goto 4, 3) := by decide +kernel
theorem dX3_worldsByAnswer_75 : decode cX3_worldsByAnswer 75 = .ok (.iconst 0, 1) := by decide +kernel
theorem dX3_worldsByAnswer_76 : decode cX3_worldsByAnswer 76 = .ok (.invokevirtual 74, 3) := by decide +kernel
theorem dX3_worldsByAnswer_79 : decode cX3_worldsByAnswer 79 = .ok (.lreturn, 1) := by decide +kernel
theorem dX3_worldsOf_0 : decode cX3_worldsOf 0 = .ok (.aload_n 0, 1) := by decide +kernel
theorem dX3_worldsOf_1 : decode cX3_worldsOf 1 = .ok (.iconst (-1), 1) := by decide +kernel
theorem dX3_worldsOf_2 : decode cX3_worldsOf 2 = .ok (.aload_n 0, 1) := by decide +kernel
theorem dX3_worldsOf_3 : decode cX3_worldsOf 3 = .ok (.getfield 22, 3) := by decide +kernel
theorem dX3_worldsOf_6 : decode cX3_worldsOf 6 = .ok (.iload_n 1, 1) := by decide +kernel
theorem dX3_worldsOf_7 : decode cX3_worldsOf 7 = .ok (.invokevirtual 82, 3) := by decide +kernel
theorem dX3_worldsOf_10 : decode cX3_worldsOf 10 = .ok (.invokevirtual 85, 3) := by decide +kernel
theorem dX3_worldsOf_13 : decode cX3_worldsOf 13 = .ok (.lreturn, 1) := by decide +kernel
theorem dX3_worldsOfAll_0 : decode cX3_worldsOfAll 0 = .ok (.aload_n 0, 1) := by decide +kernel
theorem dX3_worldsOfAll_1 : decode cX3_worldsOfAll 1 = .ok (.iconst (-1), 1) := by decide +kernel
theorem dX3_worldsOfAll_2 : decode cX3_worldsOfAll 2 = .ok (.iconst (-1), 1) := by decide +kernel
theorem dX3_worldsOfAll_3 : decode cX3_worldsOfAll 3 = .ok (.invokevirtual 85, 3) := by decide +kernel
theorem dX3_worldsOfAll_6 : decode cX3_worldsOfAll 6 = .ok (.lreturn, 1) := by decide +kernel
theorem dX3_worldsBy_0 : decode cX3_worldsBy 0 = .ok (.aload_n 0, 1) := by decide +kernel
theorem dX3_worldsBy_1 : decode cX3_worldsBy 1 = .ok (.iconst (-1), 1) := by decide +kernel
theorem dX3_worldsBy_2 : decode cX3_worldsBy 2 = .ok (.iload_n 1, 1) := by decide +kernel
theorem dX3_worldsBy_3 : decode cX3_worldsBy 3 = .ok (.invokevirtual 85, 3) := by decide +kernel
theorem dX3_worldsBy_6 : decode cX3_worldsBy 6 = .ok (.lreturn, 1) := by decide +kernel
theorem dX3_worldsWithout_0 : decode cX3_worldsWithout 0 = .ok (.aload_n 0, 1) := by decide +kernel
theorem dX3_worldsWithout_1 : decode cX3_worldsWithout 1 = .ok (.getfield 18, 3) := by decide +kernel
theorem dX3_worldsWithout_4 : decode cX3_worldsWithout 4 = .ok (.getfield 52, 3) := by decide +kernel
theorem dX3_worldsWithout_7 : decode cX3_worldsWithout 7 = .ok (.lstore_n 3, 1) := by decide +kernel
theorem dX3_worldsWithout_8 : decode cX3_worldsWithout 8 = .ok (.iconst 0, 1) := by decide +kernel
theorem dX3_worldsWithout_9 : decode cX3_worldsWithout 9 = .ok (.istore 5, 2) := by decide +kernel
theorem dX3_worldsWithout_11 : decode cX3_worldsWithout 11 = .ok (.iload 5, 2) := by decide +kernel
theorem dX3_worldsWithout_13 : decode cX3_worldsWithout 13 = .ok (.aload_n 0, 1) := by decide +kernel
theorem dX3_worldsWithout_14 : decode cX3_worldsWithout 14 = .ok (.getfield 22, 3) := by decide +kernel
theorem dX3_worldsWithout_17 : decode cX3_worldsWithout 17 = .ok (.getfield 58, 3) := by decide +kernel
theorem dX3_worldsWithout_20 : decode cX3_worldsWithout 20 = .ok (.if_icmp .ge 50, 3) := by decide +kernel
theorem dX3_worldsWithout_23 : decode cX3_worldsWithout 23 = .ok (.iload 5, 2) := by decide +kernel
theorem dX3_worldsWithout_25 : decode cX3_worldsWithout 25 = .ok (.bipush 20, 2) := by decide +kernel
theorem dX3_worldsWithout_27 : decode cX3_worldsWithout 27 = .ok (.if_icmp .ge 43, 3) := by decide +kernel
theorem dX3_worldsWithout_30 : decode cX3_worldsWithout 30 = .ok (.iload 5, 2) := by decide +kernel
theorem dX3_worldsWithout_32 : decode cX3_worldsWithout 32 = .ok (.iload_n 1, 1) := by decide +kernel
theorem dX3_worldsWithout_33 : decode cX3_worldsWithout 33 = .ok (.if_icmp .eq 31, 3) := by decide +kernel
theorem dX3_worldsWithout_36 : decode cX3_worldsWithout 36 = .ok (.iload_n 2, 1) := by decide +kernel
theorem dX3_worldsWithout_37 : decode cX3_worldsWithout 37 = .ok (.i2l, 1) := by decide +kernel
theorem dX3_worldsWithout_38 : decode cX3_worldsWithout 38 = .ok (.aload_n 0, 1) := by decide +kernel
theorem dX3_worldsWithout_39 : decode cX3_worldsWithout 39 = .ok (.getfield 22, 3) := by decide +kernel
theorem dX3_worldsWithout_42 : decode cX3_worldsWithout 42 = .ok (.getfield 63, 3) := by decide +kernel
theorem dX3_worldsWithout_45 : decode cX3_worldsWithout 45 = .ok (.iload 5, 2) := by decide +kernel
theorem dX3_worldsWithout_47 : decode cX3_worldsWithout 47 = .ok (.iaload, 1) := by decide +kernel
theorem dX3_worldsWithout_48 : decode cX3_worldsWithout 48 = .ok (.invokestatic 78, 3) := by decide +kernel
theorem dX3_worldsWithout_51 : decode cX3_worldsWithout 51 = .ok (.iconst 1, 1) := by decide +kernel
theorem dX3_worldsWithout_52 : decode cX3_worldsWithout 52 = .ok (.if_icmp .ne 12, 3) := by decide +kernel
theorem dX3_worldsWithout_55 : decode cX3_worldsWithout 55 = .ok (.lload_n 3, 1) := by decide +kernel
theorem dX3_worldsWithout_56 : decode cX3_worldsWithout 56 = .ok (.aload_n 0, 1) := by decide +kernel
theorem dX3_worldsWithout_57 : decode cX3_worldsWithout 57 = .ok (.iload 5, 2) := by decide +kernel
theorem dX3_worldsWithout_59 : decode cX3_worldsWithout 59 = .ok (.invokevirtual 88, 3) := by decide +kernel
theorem dX3_worldsWithout_62 : decode cX3_worldsWithout 62 = .ok (.land, 1) := by decide +kernel
theorem dX3_worldsWithout_63 : decode cX3_worldsWithout 63 = .ok (.lstore_n 3, 1) := by decide +kernel
theorem dX3_worldsWithout_64 : decode cX3_worldsWithout 64 = .ok (.iinc 5 1, 3) := by decide +kernel
theorem dX3_worldsWithout_67 : decode cX3_worldsWithout 67 = .ok (.goto (-56), 3) := by decide +kernel
theorem dX3_worldsWithout_70 : decode cX3_worldsWithout 70 = .ok (.lload_n 3, 1) := by decide +kernel
theorem dX3_worldsWithout_71 : decode cX3_worldsWithout 71 = .ok (.lreturn, 1) := by decide +kernel
theorem dX3_needlessTo_0 : decode cX3_needlessTo 0 = .ok (.aload_n 0, 1) := by decide +kernel
theorem dX3_needlessTo_1 : decode cX3_needlessTo 1 = .ok (.iload_n 1, 1) := by decide +kernel
theorem dX3_needlessTo_2 : decode cX3_needlessTo 2 = .ok (.invokevirtual 92, 3) := by decide +kernel
theorem dX3_needlessTo_5 : decode cX3_needlessTo 5 = .ok (.lstore_n 2, 1) := by decide +kernel
theorem dX3_needlessTo_6 : decode cX3_needlessTo 6 = .ok (.iconst 0, 1) := by decide +kernel
theorem dX3_needlessTo_7 : decode cX3_needlessTo 7 = .ok (.istore 4, 2) := by decide +kernel
theorem dX3_needlessTo_9 : decode cX3_needlessTo 9 = .ok (.iconst 0, 1) := by decide +kernel
theorem dX3_needlessTo_10 : decode cX3_needlessTo 10 = .ok (.istore 5, 2) := by decide +kernel
theorem dX3_needlessTo_12 : decode cX3_needlessTo 12 = .ok (.iload 5, 2) := by decide +kernel
theorem dX3_needlessTo_14 : decode cX3_needlessTo 14 = .ok (.aload_n 0, 1) := by decide +kernel
theorem dX3_needlessTo_15 : decode cX3_needlessTo 15 = .ok (.getfield 22, 3) := by decide +kernel
theorem dX3_needlessTo_18 : decode cX3_needlessTo 18 = .ok (.getfield 58, 3) := by decide +kernel
theorem dX3_needlessTo_21 : decode cX3_needlessTo 21 = .ok (.if_icmp .ge 56, 3) := by decide +kernel
theorem dX3_needlessTo_24 : decode cX3_needlessTo 24 = .ok (.iload 5, 2) := by decide +kernel
theorem dX3_needlessTo_26 : decode cX3_needlessTo 26 = .ok (.bipush 20, 2) := by decide +kernel
theorem dX3_needlessTo_28 : decode cX3_needlessTo 28 = .ok (.if_icmp .ge 49, 3) := by decide +kernel
theorem dX3_needlessTo_31 : decode cX3_needlessTo 31 = .ok (.iload_n 1, 1) := by decide +kernel
theorem dX3_needlessTo_32 : decode cX3_needlessTo 32 = .ok (.i2l, 1) := by decide +kernel
theorem dX3_needlessTo_33 : decode cX3_needlessTo 33 = .ok (.aload_n 0, 1) := by decide +kernel
theorem dX3_needlessTo_34 : decode cX3_needlessTo 34 = .ok (.getfield 22, 3) := by decide +kernel
theorem dX3_needlessTo_37 : decode cX3_needlessTo 37 = .ok (.getfield 63, 3) := by decide +kernel
theorem dX3_needlessTo_40 : decode cX3_needlessTo 40 = .ok (.iload 5, 2) := by decide +kernel
theorem dX3_needlessTo_42 : decode cX3_needlessTo 42 = .ok (.iaload, 1) := by decide +kernel
theorem dX3_needlessTo_43 : decode cX3_needlessTo 43 = .ok (.invokestatic 78, 3) := by decide +kernel
theorem dX3_needlessTo_46 : decode cX3_needlessTo 46 = .ok (.iconst 1, 1) := by decide +kernel
theorem dX3_needlessTo_47 : decode cX3_needlessTo 47 = .ok (.if_icmp .ne 24, 3) := by decide +kernel
theorem dX3_needlessTo_50 : decode cX3_needlessTo 50 = .ok (.aload_n 0, 1) := by decide +kernel
theorem dX3_needlessTo_51 : decode cX3_needlessTo 51 = .ok (.iload 5, 2) := by decide +kernel
theorem dX3_needlessTo_53 : decode cX3_needlessTo 53 = .ok (.iload_n 1, 1) := by decide +kernel
theorem dX3_needlessTo_54 : decode cX3_needlessTo 54 = .ok (.invokevirtual 85, 3) := by decide +kernel
theorem dX3_needlessTo_57 : decode cX3_needlessTo 57 = .ok (.lload_n 2, 1) := by decide +kernel
theorem dX3_needlessTo_58 : decode cX3_needlessTo 58 = .ok (.lcmp, 1) := by decide +kernel
theorem dX3_needlessTo_59 : decode cX3_needlessTo 59 = .ok (.ifCond .ne 12, 3) := by decide +kernel
theorem dX3_needlessTo_62 : decode cX3_needlessTo 62 = .ok (.iload 4, 2) := by decide +kernel
theorem dX3_needlessTo_64 : decode cX3_needlessTo 64 = .ok (.iconst 1, 1) := by decide +kernel
theorem dX3_needlessTo_65 : decode cX3_needlessTo 65 = .ok (.iload 5, 2) := by decide +kernel
theorem dX3_needlessTo_67 : decode cX3_needlessTo 67 = .ok (.ishl, 1) := by decide +kernel
theorem dX3_needlessTo_68 : decode cX3_needlessTo 68 = .ok (.ior, 1) := by decide +kernel
theorem dX3_needlessTo_69 : decode cX3_needlessTo 69 = .ok (.istore 4, 2) := by decide +kernel
theorem dX3_needlessTo_71 : decode cX3_needlessTo 71 = .ok (.iinc 5 1, 3) := by decide +kernel
theorem dX3_needlessTo_74 : decode cX3_needlessTo 74 = .ok (.goto (-62), 3) := by decide +kernel
theorem dX3_needlessTo_77 : decode cX3_needlessTo 77 = .ok (.iload 4, 2) := by decide +kernel
theorem dX3_needlessTo_79 : decode cX3_needlessTo 79 = .ok (.ireturn, 1) := by decide +kernel
theorem dX3_takenBy_0 : decode cX3_takenBy 0 = .ok (.aload_n 0, 1) := by decide +kernel
theorem dX3_takenBy_1 : decode cX3_takenBy 1 = .ok (.getfield 18, 3) := by decide +kernel
theorem dX3_takenBy_4 : decode cX3_takenBy 4 = .ok (.getfield 52, 3) := by decide +kernel
theorem dX3_takenBy_7 : decode cX3_takenBy 7 = .ok (.lstore_n 2, 1) := by decide +kernel
theorem dX3_takenBy_8 : decode cX3_takenBy 8 = .ok (.iconst 0, 1) := by decide +kernel
theorem dX3_takenBy_9 : decode cX3_takenBy 9 = .ok (.istore 4, 2) := by decide +kernel
theorem dX3_takenBy_11 : decode cX3_takenBy 11 = .ok (.iload 4, 2) := by decide +kernel
theorem dX3_takenBy_13 : decode cX3_takenBy 13 = .ok (.iload_n 1, 1) := by decide +kernel
theorem dX3_takenBy_14 : decode cX3_takenBy 14 = .ok (.if_icmp .ge 30, 3) := by decide +kernel
theorem dX3_takenBy_17 : decode cX3_takenBy 17 = .ok (.iload 4, 2) := by decide +kernel
theorem dX3_takenBy_19 : decode cX3_takenBy 19 = .ok (.aload_n 0, 1) := by decide +kernel
theorem dX3_takenBy_20 : decode cX3_takenBy 20 = .ok (.getfield 22, 3) := by decide +kernel
theorem dX3_takenBy_23 : decode cX3_takenBy 23 = .ok (.getfield 58, 3) := by decide +kernel
theorem dX3_takenBy_26 : decode cX3_takenBy 26 = .ok (.if_icmp .ge 18, 3) := by decide +kernel
theorem dX3_takenBy_29 : decode cX3_takenBy 29 = .ok (.lload_n 2, 1) := by decide +kernel
theorem dX3_takenBy_30 : decode cX3_takenBy 30 = .ok (.aload_n 0, 1) := by decide +kernel
theorem dX3_takenBy_31 : decode cX3_takenBy 31 = .ok (.iload 4, 2) := by decide +kernel
theorem dX3_takenBy_33 : decode cX3_takenBy 33 = .ok (.invokevirtual 88, 3) := by decide +kernel
theorem dX3_takenBy_36 : decode cX3_takenBy 36 = .ok (.land, 1) := by decide +kernel
theorem dX3_takenBy_37 : decode cX3_takenBy 37 = .ok (.lstore_n 2, 1) := by decide +kernel
theorem dX3_takenBy_38 : decode cX3_takenBy 38 = .ok (.iinc 4 1, 3) := by decide +kernel
theorem dX3_takenBy_41 : decode cX3_takenBy 41 = .ok (.goto (-30), 3) := by decide +kernel
theorem dX3_takenBy_44 : decode cX3_takenBy 44 = .ok (.lload_n 2, 1) := by decide +kernel
theorem dX3_takenBy_45 : decode cX3_takenBy 45 = .ok (.aload_n 0, 1) := by decide +kernel
theorem dX3_takenBy_46 : decode cX3_takenBy 46 = .ok (.iload_n 1, 1) := by decide +kernel
theorem dX3_takenBy_47 : decode cX3_takenBy 47 = .ok (.invokevirtual 88, 3) := by decide +kernel
theorem dX3_takenBy_50 : decode cX3_takenBy 50 = .ok (.ldc2_w 95, 3) := by decide +kernel
theorem dX3_takenBy_53 : decode cX3_takenBy 53 = .ok (.lxor, 1) := by decide +kernel
theorem dX3_takenBy_54 : decode cX3_takenBy 54 = .ok (.land, 1) := by decide +kernel
theorem dX3_takenBy_55 : decode cX3_takenBy 55 = .ok (.invokestatic 97, 3) := by decide +kernel
theorem dX3_takenBy_58 : decode cX3_takenBy 58 = .ok (.ireturn, 1) := by decide +kernel
theorem dX3_clashesOf_0 : decode cX3_clashesOf 0 = .ok (.iconst 0, 1) := by decide +kernel
theorem dX3_clashesOf_1 : decode cX3_clashesOf 1 = .ok (.istore_n 3, 1) := by decide +kernel
theorem dX3_clashesOf_2 : decode cX3_clashesOf 2 = .ok (.iload_n 2, 1) := by decide +kernel
theorem dX3_clashesOf_3 : decode cX3_clashesOf 3 = .ok (.istore 4, 2) := by decide +kernel
theorem dX3_clashesOf_5 : decode cX3_clashesOf 5 = .ok (.iload 4, 2) := by decide +kernel
theorem dX3_clashesOf_7 : decode cX3_clashesOf 7 = .ok (.aload_n 0, 1) := by decide +kernel
theorem dX3_clashesOf_8 : decode cX3_clashesOf 8 = .ok (.getfield 22, 3) := by decide +kernel
theorem dX3_clashesOf_11 : decode cX3_clashesOf 11 = .ok (.getfield 58, 3) := by decide +kernel
theorem dX3_clashesOf_14 : decode cX3_clashesOf 14 = .ok (.if_icmp .ge 35, 3) := by decide +kernel
theorem dX3_clashesOf_17 : decode cX3_clashesOf 17 = .ok (.iload 4, 2) := by decide +kernel
theorem dX3_clashesOf_19 : decode cX3_clashesOf 19 = .ok (.iload_n 1, 1) := by decide +kernel
theorem dX3_clashesOf_20 : decode cX3_clashesOf 20 = .ok (.if_icmp .eq 23, 3) := by decide +kernel
theorem dX3_clashesOf_23 : decode cX3_clashesOf 23 = .ok (.aload_n 0, 1) := by decide +kernel
theorem dX3_clashesOf_24 : decode cX3_clashesOf 24 = .ok (.iload_n 1, 1) := by decide +kernel
theorem dX3_clashesOf_25 : decode cX3_clashesOf 25 = .ok (.invokevirtual 102, 3) := by decide +kernel
theorem dX3_clashesOf_28 : decode cX3_clashesOf 28 = .ok (.aload_n 0, 1) := by decide +kernel
theorem dX3_clashesOf_29 : decode cX3_clashesOf 29 = .ok (.iload 4, 2) := by decide +kernel
theorem dX3_clashesOf_31 : decode cX3_clashesOf 31 = .ok (.invokevirtual 102, 3) := by decide +kernel
theorem dX3_clashesOf_34 : decode cX3_clashesOf 34 = .ok (.land, 1) := by decide +kernel
theorem dX3_clashesOf_35 : decode cX3_clashesOf 35 = .ok (.lconst 0, 1) := by decide +kernel
theorem dX3_clashesOf_36 : decode cX3_clashesOf 36 = .ok (.lcmp, 1) := by decide +kernel
theorem dX3_clashesOf_37 : decode cX3_clashesOf 37 = .ok (.ifCond .ne 6, 3) := by decide +kernel
theorem dX3_clashesOf_40 : decode cX3_clashesOf 40 = .ok (.iinc 3 1, 3) := by decide +kernel
theorem dX3_clashesOf_43 : decode cX3_clashesOf 43 = .ok (.iinc 4 1, 3) := by decide +kernel
theorem dX3_clashesOf_46 : decode cX3_clashesOf 46 = .ok (.goto (-41), 3) := by decide +kernel
theorem dX3_clashesOf_49 : decode cX3_clashesOf 49 = .ok (.iload_n 3, 1) := by decide +kernel
theorem dX3_clashesOf_50 : decode cX3_clashesOf 50 = .ok (.ireturn, 1) := by decide +kernel
theorem dX4_init_0 : decode cX4_init 0 = .ok (.aload_n 0, 1) := by decide +kernel
theorem dX4_init_1 : decode cX4_init 1 = .ok (.invokespecial 3, 3) := by decide +kernel
theorem dX4_init_4 : decode cX4_init 4 = .ok (.aload_n 0, 1) := by decide +kernel
theorem dX4_init_5 : decode cX4_init 5 = .ok (.bipush 7, 2) := by decide +kernel
theorem dX4_init_7 : decode cX4_init 7 = .ok (.newarray .long, 2) := by decide +kernel
theorem dX4_init_9 : decode cX4_init 9 = .ok (.putfield 11, 3) := by decide +kernel
theorem dX4_init_12 : decode cX4_init 12 = .ok (.aload_n 0, 1) := by decide +kernel
theorem dX4_init_13 : decode cX4_init 13 = .ok (.bipush 7, 2) := by decide +kernel
theorem dX4_init_15 : decode cX4_init 15 = .ok (.newarray .int, 2) := by decide +kernel
theorem dX4_init_17 : decode cX4_init 17 = .ok (.putfield 15, 3) := by decide +kernel
theorem dX4_init_20 : decode cX4_init 20 = .ok (.aload_n 0, 1) := by decide +kernel
theorem dX4_init_21 : decode cX4_init 21 = .ok (.sipush 2187, 3) := by decide +kernel
theorem dX4_init_24 : decode cX4_init 24 = .ok (.newarray .int, 2) := by decide +kernel
theorem dX4_init_26 : decode cX4_init 26 = .ok (.putfield 19, 3) := by decide +kernel
theorem dX4_init_29 : decode cX4_init 29 = .ok (.aload_n 0, 1) := by decide +kernel
theorem dX4_init_30 : decode cX4_init 30 = .ok (.sipush 2187, 3) := by decide +kernel
theorem dX4_init_33 : decode cX4_init 33 = .ok (.newarray .int, 2) := by decide +kernel
theorem dX4_init_35 : decode cX4_init 35 = .ok (.putfield 22, 3) := by decide +kernel
theorem dX4_init_38 : decode cX4_init 38 = .ok (.aload_n 0, 1) := by decide +kernel
theorem dX4_init_39 : decode cX4_init 39 = .ok (.aload_n 1, 1) := by decide +kernel
theorem dX4_init_40 : decode cX4_init 40 = .ok (.putfield 25, 3) := by decide +kernel
theorem dX4_init_43 : decode cX4_init 43 = .ok (.return_, 1) := by decide +kernel
theorem dX4_make_0 : decode cX4_make 0 = .ok (.aload_n 0, 1) := by decide +kernel
theorem dX4_make_1 : decode cX4_make 1 = .ok (.aload_n 1, 1) := by decide +kernel
theorem dX4_make_2 : decode cX4_make 2 = .ok (.putfield 25, 3) := by decide +kernel
theorem dX4_make_5 : decode cX4_make 5 = .ok (.aload_n 0, 1) := by decide +kernel
theorem dX4_make_6 : decode cX4_make 6 = .ok (.iload 5, 2) := by decide +kernel
theorem dX4_make_8 : decode cX4_make 8 = .ok (.putfield 29, 3) := by decide +kernel
theorem dX4_make_11 : decode cX4_make 11 = .ok (.aload_n 0, 1) := by decide +kernel
theorem dX4_make_12 : decode cX4_make 12 = .ok (.lload_n 2, 1) := by decide +kernel
theorem dX4_make_13 : decode cX4_make 13 = .ok (.putfield 33, 3) := by decide +kernel
theorem dX4_make_16 : decode cX4_make 16 = .ok (.aload_n 0, 1) := by decide +kernel
theorem dX4_make_17 : decode cX4_make 17 = .ok (.dup, 1) := by decide +kernel
theorem dX4_make_18 : decode cX4_make 18 = .ok (.getfield 37, 3) := by decide +kernel
theorem dX4_make_21 : decode cX4_make 21 = .ok (.iconst 1, 1) := by decide +kernel
theorem dX4_make_22 : decode cX4_make 22 = .ok (.iadd, 1) := by decide +kernel
theorem dX4_make_23 : decode cX4_make 23 = .ok (.putfield 37, 3) := by decide +kernel
theorem dX4_make_26 : decode cX4_make 26 = .ok (.aload_n 0, 1) := by decide +kernel
theorem dX4_make_27 : decode cX4_make 27 = .ok (.iconst 0, 1) := by decide +kernel
theorem dX4_make_28 : decode cX4_make 28 = .ok (.putfield 41, 3) := by decide +kernel
theorem dX4_make_31 : decode cX4_make 31 = .ok (.aload_n 0, 1) := by decide +kernel
theorem dX4_make_32 : decode cX4_make 32 = .ok (.iconst 0, 1) := by decide +kernel
theorem dX4_make_33 : decode cX4_make 33 = .ok (.putfield 44, 3) := by decide +kernel
theorem dX4_make_36 : decode cX4_make 36 = .ok (.iconst 0, 1) := by decide +kernel
theorem dX4_make_37 : decode cX4_make 37 = .ok (.istore 6, 2) := by decide +kernel
theorem dX4_make_39 : decode cX4_make 39 = .ok (.iload 6, 2) := by decide +kernel
theorem dX4_make_41 : decode cX4_make 41 = .ok (.aload_n 0, 1) := by decide +kernel
theorem dX4_make_42 : decode cX4_make 42 = .ok (.getfield 25, 3) := by decide +kernel
theorem dX4_make_45 : decode cX4_make 45 = .ok (.getfield 47, 3) := by decide +kernel
theorem dX4_make_48 : decode cX4_make 48 = .ok (.if_icmp .ge 87, 3) := by decide +kernel
theorem dX4_make_51 : decode cX4_make 51 = .ok (.iload 6, 2) := by decide +kernel
theorem dX4_make_53 : decode cX4_make 53 = .ok (.bipush 8, 2) := by decide +kernel
theorem dX4_make_55 : decode cX4_make 55 = .ok (.if_icmp .ge 80, 3) := by decide +kernel
theorem dX4_make_58 : decode cX4_make 58 = .ok (.iload 6, 2) := by decide +kernel
theorem dX4_make_60 : decode cX4_make 60 = .ok (.iload 4, 2) := by decide +kernel
theorem dX4_make_62 : decode cX4_make 62 = .ok (.if_icmp .ne 19, 3) := by decide +kernel
theorem dX4_make_65 : decode cX4_make 65 = .ok (.aload_n 0, 1) := by decide +kernel
theorem dX4_make_66 : decode cX4_make 66 = .ok (.aload_n 0, 1) := by decide +kernel
theorem dX4_make_67 : decode cX4_make 67 = .ok (.getfield 25, 3) := by decide +kernel
theorem dX4_make_70 : decode cX4_make 70 = .ok (.iload 6, 2) := by decide +kernel
theorem dX4_make_72 : decode cX4_make 72 = .ok (.invokevirtual 52, 3) := by decide +kernel
theorem dX4_make_75 : decode cX4_make 75 = .ok (.putfield 56, 3) := by decide +kernel
theorem dX4_make_78 : decode cX4_make 78 = .ok (.goto 51, 3) := by decide +kernel
theorem dX4_make_81 : decode cX4_make 81 = .ok (.aload_n 0, 1) := by decide +kernel
theorem dX4_make_82 : decode cX4_make 82 = .ok (.getfield 44, 3) := by decide +kernel
theorem dX4_make_85 : decode cX4_make 85 = .ok (.bipush 7, 2) := by decide +kernel
theorem dX4_make_87 : decode cX4_make 87 = .ok (.if_icmp .ge 42, 3) := by decide +kernel
theorem dX4_make_90 : decode cX4_make 90 = .ok (.aload_n 0, 1) := by decide +kernel
theorem dX4_make_91 : decode cX4_make 91 = .ok (.getfield 11, 3) := by decide +kernel
theorem dX4_make_94 : decode cX4_make 94 = .ok (.aload_n 0, 1) := by decide +kernel
theorem dX4_make_95 : decode cX4_make 95 = .ok (.getfield 44, 3) := by decide +kernel
theorem dX4_make_98 : decode cX4_make 98 = .ok (.aload_n 0, 1) := by decide +kernel
theorem dX4_make_99 : decode cX4_make 99 = .ok (.getfield 25, 3) := by decide +kernel
theorem dX4_make_102 : decode cX4_make 102 = .ok (.iload 6, 2) := by decide +kernel
theorem dX4_make_104 : decode cX4_make 104 = .ok (.invokevirtual 52, 3) := by decide +kernel
theorem dX4_make_107 : decode cX4_make 107 = .ok (.lastore, 1) := by decide +kernel
theorem dX4_make_108 : decode cX4_make 108 = .ok (.aload_n 0, 1) := by decide +kernel
theorem dX4_make_109 : decode cX4_make 109 = .ok (.getfield 15, 3) := by decide +kernel
theorem dX4_make_112 : decode cX4_make 112 = .ok (.aload_n 0, 1) := by decide +kernel
theorem dX4_make_113 : decode cX4_make 113 = .ok (.getfield 44, 3) := by decide +kernel
theorem dX4_make_116 : decode cX4_make 116 = .ok (.iload 6, 2) := by decide +kernel
theorem dX4_make_118 : decode cX4_make 118 = .ok (.iastore, 1) := by decide +kernel
theorem dX4_make_119 : decode cX4_make 119 = .ok (.aload_n 0, 1) := by decide +kernel
theorem dX4_make_120 : decode cX4_make 120 = .ok (.dup, 1) := by decide +kernel
theorem dX4_make_121 : decode cX4_make 121 = .ok (.getfield 44, 3) := by decide +kernel
theorem dX4_make_124 : decode cX4_make 124 = .ok (.iconst 1, 1) := by decide +kernel
theorem dX4_make_125 : decode cX4_make 125 = .ok (.iadd, 1) := by decide +kernel
theorem dX4_make_126 : decode cX4_make 126 = .ok (.putfield 44, 3) := by decide +kernel
theorem dX4_make_129 : decode cX4_make 129 = .ok (.iinc 6 1, 3) := by decide +kernel
theorem dX4_make_132 : decode cX4_make 132 = .ok (.goto (-93), 3) := by decide +kernel
theorem dX4_make_135 : decode cX4_make 135 = .ok (.aload_n 0, 1) := by decide +kernel
theorem dX4_make_136 : decode cX4_make 136 = .ok (.aload_n 0, 1) := by decide +kernel
theorem dX4_make_137 : decode cX4_make 137 = .ok (.getfield 33, 3) := by decide +kernel
theorem dX4_make_140 : decode cX4_make 140 = .ok (.iconst 0, 1) := by decide +kernel
theorem dX4_make_141 : decode cX4_make 141 = .ok (.iconst 0, 1) := by decide +kernel
theorem dX4_make_142 : decode cX4_make 142 = .ok (.invokevirtual 59, 3) := by decide +kernel
theorem dX4_make_145 : decode cX4_make 145 = .ok (.ireturn, 1) := by decide +kernel
theorem dX4_opening_0 : decode cX4_opening 0 = .ok (.iconst 1, 1) := by decide +kernel
theorem dX4_opening_1 : decode cX4_opening 1 = .ok (.istore_n 2, 1) := by decide +kernel
theorem dX4_opening_2 : decode cX4_opening 2 = .ok (.iconst 0, 1) := by decide +kernel
theorem dX4_opening_3 : decode cX4_opening 3 = .ok (.istore_n 3, 1) := by decide +kernel
theorem dX4_opening_4 : decode cX4_opening 4 = .ok (.iload_n 3, 1) := by decide +kernel
theorem dX4_opening_5 : decode cX4_opening 5 = .ok (.aload_n 0, 1) := by decide +kernel
theorem dX4_opening_6 : decode cX4_opening 6 = .ok (.getfield 44, 3) := by decide +kernel
theorem dX4_opening_9 : decode cX4_opening 9 = .ok (.if_icmp .ge 48, 3) := by decide +kernel
theorem dX4_opening_12 : decode cX4_opening 12 = .ok (.iload_n 3, 1) := by decide +kernel
theorem dX4_opening_13 : decode cX4_opening 13 = .ok (.bipush 7, 2) := by decide +kernel
theorem dX4_opening_15 : decode cX4_opening 15 = .ok (.if_icmp .ge 42, 3) := by decide +kernel
theorem dX4_opening_18 : decode cX4_opening 18 = .ok (.iload_n 1, 1) := by decide +kernel
theorem dX4_opening_19 : decode cX4_opening 19 = .ok (.ifCond .le 38, 3) := by decide +kernel
theorem dX4_opening_22 : decode cX4_opening 22 = .ok (.aload_n 0, 1) := by decide +kernel
theorem dX4_opening_23 : decode cX4_opening 23 = .ok (.iload_n 3, 1) := by decide +kernel
theorem dX4_opening_24 : decode cX4_opening 24 = .ok (.aload_n 0, 1) := by decide +kernel
theorem dX4_opening_25 : decode cX4_opening 25 = .ok (.getfield 33, 3) := by decide +kernel
theorem dX4_opening_28 : decode cX4_opening 28 = .ok (.iload_n 2, 1) := by decide +kernel
theorem dX4_opening_29 : decode cX4_opening 29 = .ok (.iconst 0, 1) := by decide +kernel
theorem dX4_opening_30 : decode cX4_opening 30 = .ok (.iconst 0, 1) := by decide +kernel
theorem dX4_opening_31 : decode cX4_opening 31 = .ok (.invokevirtual 63, 3) := by decide +kernel
theorem dX4_opening_34 : decode cX4_opening 34 = .ok (.iload_n 1, 1) := by decide +kernel
theorem dX4_opening_35 : decode cX4_opening 35 = .ok (.iconst 1, 1) := by decide +kernel
theorem dX4_opening_36 : decode cX4_opening 36 = .ok (.isub, 1) := by decide +kernel
theorem dX4_opening_37 : decode cX4_opening 37 = .ok (.if_icmp .ne 10, 3) := by decide +kernel
theorem dX4_opening_40 : decode cX4_opening 40 = .ok (.aload_n 0, 1) := by decide +kernel
theorem dX4_opening_41 : decode cX4_opening 41 = .ok (.getfield 15, 3) := by decide +kernel
theorem dX4_opening_44 : decode cX4_opening 44 = .ok (.iload_n 3, 1) := by decide +kernel
theorem dX4_opening_45 : decode cX4_opening 45 = .ok (.iaload, 1) := by decide +kernel
theorem dX4_opening_46 : decode cX4_opening 46 = .ok (.ireturn, 1) := by decide +kernel
theorem dX4_opening_47 : decode cX4_opening 47 = .ok (.iload_n 2, 1) := by decide +kernel
theorem dX4_opening_48 : decode cX4_opening 48 = .ok (.iconst 3, 1) := by decide +kernel
theorem dX4_opening_49 : decode cX4_opening 49 = .ok (.imul, 1) := by decide +kernel
theorem dX4_opening_50 : decode cX4_opening 50 = .ok (.istore_n 2, 1) := by decide +kernel
theorem dX4_opening_51 : decode cX4_opening 51 = .ok (.iinc 3 1, 3) := by decide +kernel
theorem dX4_opening_54 : decode cX4_opening 54 = .ok (.goto (-50), 3) := by decide +kernel
theorem dX4_opening_57 : decode cX4_opening 57 = .ok (.bipush (-2), 2) := by decide +kernel
theorem dX4_opening_59 : decode cX4_opening 59 = .ok (.ireturn, 1) := by decide +kernel
theorem dX4_priceOf_0 : decode cX4_priceOf 0 = .ok (.lload_n 1, 1) := by decide +kernel
theorem dX4_priceOf_1 : decode cX4_priceOf 1 = .ok (.aload_n 0, 1) := by decide +kernel
theorem dX4_priceOf_2 : decode cX4_priceOf 2 = .ok (.getfield 56, 3) := by decide +kernel
theorem dX4_priceOf_5 : decode cX4_priceOf 5 = .ok (.invokestatic 67, 3) := by decide +kernel
theorem dX4_priceOf_8 : decode cX4_priceOf 8 = .ok (.bipush (-2), 2) := by decide +kernel
theorem dX4_priceOf_10 : decode cX4_priceOf 10 = .ok (.if_icmp .eq 5, 3) := by decide +kernel
theorem dX4_priceOf_13 : decode cX4_priceOf 13 = .ok (.iconst 0, 1) := by decide +kernel
theorem dX4_priceOf_14 : decode cX4_priceOf 14 = .ok (.ireturn, 1) := by decide +kernel
theorem dX4_priceOf_15 : decode cX4_priceOf 15 = .ok (.aload_n 0, 1) := by decide +kernel
theorem dX4_priceOf_16 : decode cX4_priceOf 16 = .ok (.getfield 41, 3) := by decide +kernel
theorem dX4_priceOf_19 : decode cX4_priceOf 19 = .ok (.ifCond .ne 21, 3) := by decide +kernel
theorem dX4_priceOf_22 : decode cX4_priceOf 22 = .ok (.iload 4, 2) := by decide +kernel
theorem dX4_priceOf_24 : decode cX4_priceOf 24 = .ok (.bipush 7, 2) := by decide +kernel
theorem dX4_priceOf_26 : decode cX4_priceOf 26 = .ok (.if_icmp .gt 14, 3) := by decide +kernel
theorem dX4_priceOf_29 : decode cX4_priceOf 29 = .ok (.iload_n 3, 1) := by decide +kernel
theorem dX4_priceOf_30 : decode cX4_priceOf 30 = .ok (.ifCond .lt 10, 3) := by decide +kernel
theorem dX4_priceOf_33 : decode cX4_priceOf 33 = .ok (.iload_n 3, 1) := by decide +kernel
theorem dX4_priceOf_34 : decode cX4_priceOf 34 = .ok (.sipush 2187, 3) := by decide +kernel
theorem dX4_priceOf_37 : decode cX4_priceOf 37 = .ok (.if_icmp .lt 6, 3) := by decide +kernel
theorem dX4_priceOf_40 : decode cX4_priceOf 40 = .ok (.ldc 71, 2) := by decide +kernel
theorem dX4_priceOf_42 : decode cX4_priceOf 42 = .ok (.ireturn, 1) := by decide +kernel
theorem dX4_priceOf_43 : decode cX4_priceOf 43 = .ok (.aload_n 0, 1) := by decide +kernel
theorem dX4_priceOf_44 : decode cX4_priceOf 44 = .ok (.getfield 22, 3) := by decide +kernel
theorem dX4_priceOf_47 : decode cX4_priceOf 47 = .ok (.iload_n 3, 1) := by decide +kernel
theorem dX4_priceOf_48 : decode cX4_priceOf 48 = .ok (.iaload, 1) := by decide +kernel
theorem dX4_priceOf_49 : decode cX4_priceOf 49 = .ok (.aload_n 0, 1) := by decide +kernel
theorem dX4_priceOf_50 : decode cX4_priceOf 50 = .ok (.getfield 37, 3) := by decide +kernel
theorem dX4_priceOf_53 : decode cX4_priceOf 53 = .ok (.if_icmp .ne 10, 3) := by decide +kernel
theorem dX4_priceOf_56 : decode cX4_priceOf 56 = .ok (.aload_n 0, 1) := by decide +kernel
theorem dX4_priceOf_57 : decode cX4_priceOf 57 = .ok (.getfield 19, 3) := by decide +kernel
theorem dX4_priceOf_60 : decode cX4_priceOf 60 = .ok (.iload_n 3, 1) := by decide +kernel
theorem dX4_priceOf_61 : decode cX4_priceOf 61 = .ok (.iaload, 1) := by decide +kernel
theorem dX4_priceOf_62 : decode cX4_priceOf 62 = .ok (.ireturn, 1) := by decide +kernel
theorem dX4_priceOf_63 : decode cX4_priceOf 63 = .ok (.ldc 71, 2) := by decide +kernel
theorem dX4_priceOf_65 : decode cX4_priceOf 65 = .ok (.istore 5, 2) := by decide +kernel
theorem dX4_priceOf_67 : decode cX4_priceOf 67 = .ok (.iconst 1, 1) := by decide +kernel
theorem dX4_priceOf_68 : decode cX4_priceOf 68 = .ok (.istore 6, 2) := by decide +kernel
theorem dX4_priceOf_70 : decode cX4_priceOf 70 = .ok (.iconst 0, 1) := by decide +kernel
theorem dX4_priceOf_71 : decode cX4_priceOf 71 = .ok (.istore 7, 2) := by decide +kernel
theorem dX4_priceOf_73 : decode cX4_priceOf 73 = .ok (.iload 7, 2) := by decide +kernel
theorem dX4_priceOf_75 : decode cX4_priceOf 75 = .ok (.aload_n 0, 1) := by decide +kernel
theorem dX4_priceOf_76 : decode cX4_priceOf 76 = .ok (.getfield 44, 3) := by decide +kernel
theorem dX4_priceOf_79 : decode cX4_priceOf 79 = .ok (.if_icmp .ge 39, 3) := by decide +kernel
theorem dX4_priceOf_82 : decode cX4_priceOf 82 = .ok (.iload 5, 2) := by decide +kernel
theorem dX4_priceOf_84 : decode cX4_priceOf 84 = .ok (.ifCond .le 34, 3) := by decide +kernel
theorem dX4_priceOf_87 : decode cX4_priceOf 87 = .ok (.iload 5, 2) := by decide +kernel
theorem dX4_priceOf_89 : decode cX4_priceOf 89 = .ok (.aload_n 0, 1) := by decide +kernel
theorem dX4_priceOf_90 : decode cX4_priceOf 90 = .ok (.iload 7, 2) := by decide +kernel
theorem dX4_priceOf_92 : decode cX4_priceOf 92 = .ok (.lload_n 1, 1) := by decide +kernel
theorem dX4_priceOf_93 : decode cX4_priceOf 93 = .ok (.iload 6, 2) := by decide +kernel
theorem dX4_priceOf_95 : decode cX4_priceOf 95 = .ok (.iload_n 3, 1) := by decide +kernel
theorem dX4_priceOf_96 : decode cX4_priceOf 96 = .ok (.iload 4, 2) := by decide +kernel
theorem dX4_priceOf_98 : decode cX4_priceOf 98 = .ok (.invokevirtual 63, 3) := by decide +kernel
theorem dX4_priceOf_101 : decode cX4_priceOf 101 = .ok (.invokestatic 72, 3) := by decide +kernel
theorem dX4_priceOf_104 : decode cX4_priceOf 104 = .ok (.istore 5, 2) := by decide +kernel
theorem dX4_priceOf_106 : decode cX4_priceOf 106 = .ok (.iload 6, 2) := by decide +kernel
theorem dX4_priceOf_108 : decode cX4_priceOf 108 = .ok (.iconst 3, 1) := by decide +kernel
theorem dX4_priceOf_109 : decode cX4_priceOf 109 = .ok (.imul, 1) := by decide +kernel
theorem dX4_priceOf_110 : decode cX4_priceOf 110 = .ok (.istore 6, 2) := by decide +kernel
theorem dX4_priceOf_112 : decode cX4_priceOf 112 = .ok (.iinc 7 1, 3) := by decide +kernel
theorem dX4_priceOf_115 : decode cX4_priceOf 115 = .ok (.goto (-42), 3) := by decide +kernel
theorem dX4_priceOf_118 : decode cX4_priceOf 118 = .ok (.iload 5, 2) := by decide +kernel
theorem dX4_priceOf_120 : decode cX4_priceOf 120 = .ok (.ldc 71, 2) := by decide +kernel
theorem dX4_priceOf_122 : decode cX4_priceOf 122 = .ok (.if_icmp .ne 11, 3) := by decide +kernel
theorem dX4_priceOf_125 : decode cX4_priceOf 125 = .ok (.aload_n 0, 1) := by decide +kernel
theorem dX4_priceOf_126 : decode cX4_priceOf 126 = .ok (.iconst 1, 1) := by decide +kernel
theorem dX4_priceOf_127 : decode cX4_priceOf 127 = .ok (.putfield 41, 3) := by decide +kernel
theorem dX4_priceOf_130 : decode cX4_priceOf 130 = .ok (.ldc 71, 2) := by decide +kernel
theorem dX4_priceOf_132 : decode cX4_priceOf 132 = .ok (.ireturn, 1) := by decide +kernel
theorem dX4_priceOf_133 : decode cX4_priceOf 133 = .ok (.iload 5, 2) := by decide +kernel
theorem dX4_priceOf_135 : decode cX4_priceOf 135 = .ok (.aload_n 0, 1) := by decide +kernel
theorem dX4_priceOf_136 : decode cX4_priceOf 136 = .ok (.getfield 29, 3) := by decide +kernel
theorem dX4_priceOf_139 : decode cX4_priceOf 139 = .ok (.ifCond .eq 14, 3) := by decide +kernel
theorem dX4_priceOf_142 : decode cX4_priceOf 142 = .ok (.aload_n 0, 1) := by decide +kernel
theorem dX4_priceOf_143 : decode cX4_priceOf 143 = .ok (.getfield 25, 3) := by decide +kernel
theorem dX4_priceOf_146 : decode cX4_priceOf 146 = .ok (.lload_n 1, 1) := by decide +kernel
theorem dX4_priceOf_147 : decode cX4_priceOf 147 = .ok (.invokevirtual 78, 3) := by decide +kernel
theorem dX4_priceOf_150 : decode cX4_priceOf 150 = .ok (.goto 4, 3) := by decide +kernel
theorem dX4_priceOf_153 : decode cX4_priceOf 153 = .ok (.iconst 1, 1) := by decide +kernel
theorem dX4_priceOf_154 : decode cX4_priceOf 154 = .ok (.iadd, 1) := by decide +kernel
theorem dX4_priceOf_155 : decode cX4_priceOf 155 = .ok (.istore 5, 2) := by decide +kernel
theorem dX4_priceOf_157 : decode cX4_priceOf 157 = .ok (.aload_n 0, 1) := by decide +kernel
theorem dX4_priceOf_158 : decode cX4_priceOf 158 = .ok (.getfield 22, 3) := by decide +kernel
theorem dX4_priceOf_161 : decode cX4_priceOf 161 = .ok (.iload_n 3, 1) := by decide +kernel
theorem dX4_priceOf_162 : decode cX4_priceOf 162 = .ok (.aload_n 0, 1) := by decide +kernel
theorem dX4_priceOf_163 : decode cX4_priceOf 163 = .ok (.getfield 37, 3) := by decide +kernel
theorem dX4_priceOf_166 : decode cX4_priceOf 166 = .ok (.iastore, 1) := by decide +kernel
theorem dX4_priceOf_167 : decode cX4_priceOf 167 = .ok (.aload_n 0, 1) := by decide +kernel
theorem dX4_priceOf_168 : decode cX4_priceOf 168 = .ok (.getfield 19, 3) := by decide +kernel
theorem dX4_priceOf_171 : decode cX4_priceOf 171 = .ok (.iload_n 3, 1) := by decide +kernel
theorem dX4_priceOf_172 : decode cX4_priceOf 172 = .ok (.iload 5, 2) := by decide +kernel
theorem dX4_priceOf_174 : decode cX4_priceOf 174 = .ok (.iastore, 1) := by decide +kernel
theorem dX4_priceOf_175 : decode cX4_priceOf 175 = .ok (.iload 5, 2) := by decide +kernel
theorem dX4_priceOf_177 : decode cX4_priceOf 177 = .ok (.ireturn, 1) := by decide +kernel
theorem dX4_priceBehind_0 : decode cX4_priceBehind 0 = .ok (.iload_n 1, 1) := by decide +kernel
theorem dX4_priceBehind_1 : decode cX4_priceBehind 1 = .ok (.ifCond .lt 9, 3) := by decide +kernel
theorem dX4_priceBehind_4 : decode cX4_priceBehind 4 = .ok (.iload_n 1, 1) := by decide +kernel
theorem dX4_priceBehind_5 : decode cX4_priceBehind 5 = .ok (.bipush 7, 2) := by decide +kernel
theorem dX4_priceBehind_7 : decode cX4_priceBehind 7 = .ok (.if_icmp .lt 6, 3) := by decide +kernel
theorem dX4_priceBehind_10 : decode cX4_priceBehind 10 = .ok (.ldc 71, 2) := by decide +kernel
theorem dX4_priceBehind_12 : decode cX4_priceBehind 12 = .ok (.ireturn, 1) := by decide +kernel
theorem dX4_priceBehind_13 : decode cX4_priceBehind 13 = .ok (.lload_n 2, 1) := by decide +kernel
theorem dX4_priceBehind_14 : decode cX4_priceBehind 14 = .ok (.aload_n 0, 1) := by decide +kernel
theorem dX4_priceBehind_15 : decode cX4_priceBehind 15 = .ok (.getfield 11, 3) := by decide +kernel
theorem dX4_priceBehind_18 : decode cX4_priceBehind 18 = .ok (.iload_n 1, 1) := by decide +kernel
theorem dX4_priceBehind_19 : decode cX4_priceBehind 19 = .ok (.laload, 1) := by decide +kernel
theorem dX4_priceBehind_20 : decode cX4_priceBehind 20 = .ok (.land, 1) := by decide +kernel
theorem dX4_priceBehind_21 : decode cX4_priceBehind 21 = .ok (.lstore 7, 2) := by decide +kernel
theorem dX4_priceBehind_23 : decode cX4_priceBehind 23 = .ok (.lload_n 2, 1) := by decide +kernel
theorem dX4_priceBehind_24 : decode cX4_priceBehind 24 = .ok (.aload_n 0, 1) := by decide +kernel
theorem dX4_priceBehind_25 : decode cX4_priceBehind 25 = .ok (.getfield 11, 3) := by decide +kernel
theorem dX4_priceBehind_28 : decode cX4_priceBehind 28 = .ok (.iload_n 1, 1) := by decide +kernel
theorem dX4_priceBehind_29 : decode cX4_priceBehind 29 = .ok (.laload, 1) := by decide +kernel
theorem dX4_priceBehind_30 : decode cX4_priceBehind 30 = .ok (.ldc2_w 82, 3) := by decide +kernel
theorem dX4_priceBehind_33 : decode cX4_priceBehind 33 = .ok (.lxor, 1) := by decide +kernel
theorem dX4_priceBehind_34 : decode cX4_priceBehind 34 = .ok (.land, 1) := by decide +kernel
theorem dX4_priceBehind_35 : decode cX4_priceBehind 35 = .ok (.lstore 9, 2) := by decide +kernel
theorem dX4_priceBehind_37 : decode cX4_priceBehind 37 = .ok (.lload 7, 2) := by decide +kernel
theorem dX4_priceBehind_39 : decode cX4_priceBehind 39 = .ok (.lconst 0, 1) := by decide +kernel
theorem dX4_priceBehind_40 : decode cX4_priceBehind 40 = .ok (.lcmp, 1) := by decide +kernel
theorem dX4_priceBehind_41 : decode cX4_priceBehind 41 = .ok (.ifCond .eq 10, 3) := by decide +kernel
theorem dX4_priceBehind_44 : decode cX4_priceBehind 44 = .ok (.lload 9, 2) := by decide +kernel
theorem dX4_priceBehind_46 : decode cX4_priceBehind 46 = .ok (.lconst 0, 1) := by decide +kernel
theorem dX4_priceBehind_47 : decode cX4_priceBehind 47 = .ok (.lcmp, 1) := by decide +kernel
theorem dX4_priceBehind_48 : decode cX4_priceBehind 48 = .ok (.ifCond .ne 6, 3) := by decide +kernel
theorem dX4_priceBehind_51 : decode cX4_priceBehind 51 = .ok (.ldc 71, 2) := by decide +kernel
theorem dX4_priceBehind_53 : decode cX4_priceBehind 53 = .ok (.ireturn, 1) := by decide +kernel
theorem dX4_priceBehind_54 : decode cX4_priceBehind 54 = .ok (.aload_n 0, 1) := by decide +kernel
theorem dX4_priceBehind_55 : decode cX4_priceBehind 55 = .ok (.lload 7, 2) := by decide +kernel
theorem dX4_priceBehind_57 : decode cX4_priceBehind 57 = .ok (.iload 5, 2) := by decide +kernel
theorem dX4_priceBehind_59 : decode cX4_priceBehind 59 = .ok (.iload 4, 2) := by decide +kernel
theorem dX4_priceBehind_61 : decode cX4_priceBehind 61 = .ok (.iadd, 1) := by decide +kernel
theorem dX4_priceBehind_62 : decode cX4_priceBehind 62 = .ok (.iload 6, 2) := by decide +kernel
theorem dX4_priceBehind_64 : decode cX4_priceBehind 64 = .ok (.iconst 1, 1) := by decide +kernel
theorem dX4_priceBehind_65 : decode cX4_priceBehind 65 = .ok (.iadd, 1) := by decide +kernel
theorem dX4_priceBehind_66 : decode cX4_priceBehind 66 = .ok (.invokevirtual 59, 3) := by decide +kernel
theorem dX4_priceBehind_69 : decode cX4_priceBehind 69 = .ok (.istore 11, 2) := by decide +kernel
theorem dX4_priceBehind_71 : decode cX4_priceBehind 71 = .ok (.aload_n 0, 1) := by decide +kernel
theorem dX4_priceBehind_72 : decode cX4_priceBehind 72 = .ok (.lload 9, 2) := by decide +kernel
theorem dX4_priceBehind_74 : decode cX4_priceBehind 74 = .ok (.iload 5, 2) := by decide +kernel
theorem dX4_priceBehind_76 : decode cX4_priceBehind 76 = .ok (.iconst 2, 1) := by decide +kernel
theorem dX4_priceBehind_77 : decode cX4_priceBehind 77 = .ok (.iload 4, 2) := by decide +kernel
theorem dX4_priceBehind_79 : decode cX4_priceBehind 79 = .ok (.imul, 1) := by decide +kernel
theorem dX4_priceBehind_80 : decode cX4_priceBehind 80 = .ok (.iadd, 1) := by decide +kernel
theorem dX4_priceBehind_81 : decode cX4_priceBehind 81 = .ok (.iload 6, 2) := by decide +kernel
theorem dX4_priceBehind_83 : decode cX4_priceBehind 83 = .ok (.iconst 1, 1) := by decide +kernel
theorem dX4_priceBehind_84 : decode cX4_priceBehind 84 = .ok (.iadd, 1) := by decide +kernel
theorem dX4_priceBehind_85 : decode cX4_priceBehind 85 = .ok (.invokevirtual 59, 3) := by decide +kernel
theorem dX4_priceBehind_88 : decode cX4_priceBehind 88 = .ok (.istore 12, 2) := by decide +kernel
theorem dX4_priceBehind_90 : decode cX4_priceBehind 90 = .ok (.aload_n 0, 1) := by decide +kernel
theorem dX4_priceBehind_91 : decode cX4_priceBehind 91 = .ok (.getfield 41, 3) := by decide +kernel
theorem dX4_priceBehind_94 : decode cX4_priceBehind 94 = .ok (.ifCond .eq 6, 3) := by decide +kernel
theorem dX4_priceBehind_97 : decode cX4_priceBehind 97 = .ok (.ldc 71, 2) := by decide +kernel
theorem dX4_priceBehind_99 : decode cX4_priceBehind 99 = .ok (.ireturn, 1) := by decide +kernel
theorem dX4_priceBehind_100 : decode cX4_priceBehind 100 = .ok (.aload_n 0, 1) := by decide +kernel
theorem dX4_priceBehind_101 : decode cX4_priceBehind 101 = .ok (.getfield 29, 3) := by decide +kernel
theorem dX4_priceBehind_104 : decode cX4_priceBehind 104 = .ok (.ifCond .eq 11, 3) := by decide +kernel
theorem dX4_priceBehind_107 : decode cX4_priceBehind 107 = .ok (.iload 11, 2) := by decide +kernel
theorem dX4_priceBehind_109 : decode cX4_priceBehind 109 = .ok (.iload 12, 2) := by decide +kernel
theorem dX4_priceBehind_111 : decode cX4_priceBehind 111 = .ok (.iadd, 1) := by decide +kernel
theorem dX4_priceBehind_112 : decode cX4_priceBehind 112 = .ok (.goto 10, 3) := by decide +kernel
theorem dX4_priceBehind_115 : decode cX4_priceBehind 115 = .ok (.iload 11, 2) := by decide +kernel
theorem dX4_priceBehind_117 : decode cX4_priceBehind 117 = .ok (.iload 12, 2) := by decide +kernel
theorem dX4_priceBehind_119 : decode cX4_priceBehind 119 = .ok (.invokestatic 84, 3) := by decide +kernel
theorem dX4_priceBehind_122 : decode cX4_priceBehind 122 = .ok (.ireturn, 1) := by decide +kernel
theorem dX5_init_0 : decode cX5_init 0 = .ok (.aload_n 0, 1) := by decide +kernel
theorem dX5_init_1 : decode cX5_init 1 = .ok (.invokespecial 5, 3) := by decide +kernel
theorem dX5_init_4 : decode cX5_init 4 = .ok (.aload_n 0, 1) := by decide +kernel
theorem dX5_init_5 : decode cX5_init 5 = .ok (.bipush 11, 2) := by decide +kernel
theorem dX5_init_7 : decode cX5_init 7 = .ok (.newarray .int, 2) := by decide +kernel
theorem dX5_init_9 : decode cX5_init 9 = .ok (.putfield 13, 3) := by decide +kernel
theorem dX5_init_12 : decode cX5_init 12 = .ok (.aload_n 0, 1) := by decide +kernel
theorem dX5_init_13 : decode cX5_init 13 = .ok (.bipush 20, 2) := by decide +kernel
theorem dX5_init_15 : decode cX5_init 15 = .ok (.newarray .long, 2) := by decide +kernel
theorem dX5_init_17 : decode cX5_init 17 = .ok (.putfield 17, 3) := by decide +kernel
theorem dX5_init_20 : decode cX5_init 20 = .ok (.aload_n 0, 1) := by decide +kernel
theorem dX5_init_21 : decode cX5_init 21 = .ok (.bipush 20, 2) := by decide +kernel
theorem dX5_init_23 : decode cX5_init 23 = .ok (.newarray .int, 2) := by decide +kernel
theorem dX5_init_25 : decode cX5_init 25 = .ok (.putfield 21, 3) := by decide +kernel
theorem dX5_init_28 : decode cX5_init 28 = .ok (.aload_n 0, 1) := by decide +kernel
theorem dX5_init_29 : decode cX5_init 29 = .ok (.bipush 20, 2) := by decide +kernel
theorem dX5_init_31 : decode cX5_init 31 = .ok (.newarray .int, 2) := by decide +kernel
theorem dX5_init_33 : decode cX5_init 33 = .ok (.putfield 24, 3) := by decide +kernel
theorem dX5_init_36 : decode cX5_init 36 = .ok (.aload_n 0, 1) := by decide +kernel
theorem dX5_init_37 : decode cX5_init 37 = .ok (.bipush 9, 2) := by decide +kernel
theorem dX5_init_39 : decode cX5_init 39 = .ok (.newarray .long, 2) := by decide +kernel
theorem dX5_init_41 : decode cX5_init 41 = .ok (.putfield 27, 3) := by decide +kernel
theorem dX5_init_44 : decode cX5_init 44 = .ok (.aload_n 0, 1) := by decide +kernel
theorem dX5_init_45 : decode cX5_init 45 = .ok (.bipush 9, 2) := by decide +kernel
theorem dX5_init_47 : decode cX5_init 47 = .ok (.newarray .long, 2) := by decide +kernel
theorem dX5_init_49 : decode cX5_init 49 = .ok (.putfield 30, 3) := by decide +kernel
theorem dX5_init_52 : decode cX5_init 52 = .ok (.aload_n 0, 1) := by decide +kernel
theorem dX5_init_53 : decode cX5_init 53 = .ok (.bipush 9, 2) := by decide +kernel
theorem dX5_init_55 : decode cX5_init 55 = .ok (.newarray .boolean, 2) := by decide +kernel
theorem dX5_init_57 : decode cX5_init 57 = .ok (.putfield 33, 3) := by decide +kernel
theorem dX5_init_60 : decode cX5_init 60 = .ok (.aload_n 0, 1) := by decide +kernel
theorem dX5_init_61 : decode cX5_init 61 = .ok (.aload_n 1, 1) := by decide +kernel
theorem dX5_init_62 : decode cX5_init 62 = .ok (.putfield 37, 3) := by decide +kernel
theorem dX5_init_65 : decode cX5_init 65 = .ok (.aload_n 0, 1) := by decide +kernel
theorem dX5_init_66 : decode cX5_init 66 = .ok (.aload_n 2, 1) := by decide +kernel
theorem dX5_init_67 : decode cX5_init 67 = .ok (.putfield 41, 3) := by decide +kernel
theorem dX5_init_70 : decode cX5_init 70 = .ok (.return_, 1) := by decide +kernel
theorem dX5_read_0 : decode cX5_read 0 = .ok (.aload_n 0, 1) := by decide +kernel
theorem dX5_read_1 : decode cX5_read 1 = .ok (.aload_n 1, 1) := by decide +kernel
theorem dX5_read_2 : decode cX5_read 2 = .ok (.putfield 41, 3) := by decide +kernel
theorem dX5_read_5 : decode cX5_read 5 = .ok (.aload_n 0, 1) := by decide +kernel
theorem dX5_read_6 : decode cX5_read 6 = .ok (.getfield 41, 3) := by decide +kernel
theorem dX5_read_9 : decode cX5_read 9 = .ok (.invokevirtual 45, 3) := by decide +kernel
theorem dX5_read_12 : decode cX5_read 12 = .ok (.aload_n 0, 1) := by decide +kernel
theorem dX5_read_13 : decode cX5_read 13 = .ok (.iconst 0, 1) := by decide +kernel
theorem dX5_read_14 : decode cX5_read 14 = .ok (.putfield 50, 3) := by decide +kernel
theorem dX5_read_17 : decode cX5_read 17 = .ok (.aload_n 0, 1) := by decide +kernel
theorem dX5_read_18 : decode cX5_read 18 = .ok (.iconst 0, 1) := by decide +kernel
theorem dX5_read_19 : decode cX5_read 19 = .ok (.putfield 54, 3) := by decide +kernel
theorem dX5_read_22 : decode cX5_read 22 = .ok (.aload_n 0, 1) := by decide +kernel
theorem dX5_read_23 : decode cX5_read 23 = .ok (.iconst 0, 1) := by decide +kernel
theorem dX5_read_24 : decode cX5_read 24 = .ok (.putfield 57, 3) := by decide +kernel
theorem dX5_read_27 : decode cX5_read 27 = .ok (.iconst 0, 1) := by decide +kernel
theorem dX5_read_28 : decode cX5_read 28 = .ok (.istore_n 3, 1) := by decide +kernel
theorem dX5_read_29 : decode cX5_read 29 = .ok (.iload_n 3, 1) := by decide +kernel
theorem dX5_read_30 : decode cX5_read 30 = .ok (.bipush 11, 2) := by decide +kernel
theorem dX5_read_32 : decode cX5_read 32 = .ok (.if_icmp .ge 16, 3) := by decide +kernel
theorem dX5_read_35 : decode cX5_read 35 = .ok (.aload_n 0, 1) := by decide +kernel
theorem dX5_read_36 : decode cX5_read 36 = .ok (.getfield 13, 3) := by decide +kernel
theorem dX5_read_39 : decode cX5_read 39 = .ok (.iload_n 3, 1) := by decide +kernel
theorem dX5_read_40 : decode cX5_read 40 = .ok (.iconst 0, 1) := by decide +kernel
theorem dX5_read_41 : decode cX5_read 41 = .ok (.iastore, 1) := by decide +kernel
theorem dX5_read_42 : decode cX5_read 42 = .ok (.iinc 3 1, 3) := by decide +kernel
theorem dX5_read_45 : decode cX5_read 45 = .ok (.goto (-16), 3) := by decide +kernel
theorem dX5_read_48 : decode cX5_read 48 = .ok (.aload_n 0, 1) := by decide +kernel
theorem dX5_read_49 : decode cX5_read 49 = .ok (.getfield 37, 3) := by decide +kernel
theorem dX5_read_52 : decode cX5_read 52 = .ok (.iload_n 2, 1) := by decide +kernel
theorem dX5_read_53 : decode cX5_read 53 = .ok (.invokevirtual 60, 3) := by decide +kernel
theorem dX5_read_56 : decode cX5_read 56 = .ok (.iconst 1, 1) := by decide +kernel
theorem dX5_read_57 : decode cX5_read 57 = .ok (.istore_n 3, 1) := by decide +kernel
theorem dX5_read_58 : decode cX5_read 58 = .ok (.iconst 0, 1) := by decide +kernel
theorem dX5_read_59 : decode cX5_read 59 = .ok (.istore 4, 2) := by decide +kernel
theorem dX5_read_61 : decode cX5_read 61 = .ok (.iload 4, 2) := by decide +kernel
theorem dX5_read_63 : decode cX5_read 63 = .ok (.sipush 900, 3) := by decide +kernel
theorem dX5_read_66 : decode cX5_read 66 = .ok (.if_icmp .gt 43, 3) := by decide +kernel
theorem dX5_read_69 : decode cX5_read 69 = .ok (.iload_n 3, 1) := by decide +kernel
theorem dX5_read_70 : decode cX5_read 70 = .ok (.ifCond .eq 39, 3) := by decide +kernel
theorem dX5_read_73 : decode cX5_read 73 = .ok (.aload_n 0, 1) := by decide +kernel
theorem dX5_read_74 : decode cX5_read 74 = .ok (.iload 4, 2) := by decide +kernel
theorem dX5_read_76 : decode cX5_read 76 = .ok (.ifCond .ne 7, 3) := by decide +kernel
theorem dX5_read_79 : decode cX5_read 79 = .ok (.iconst 1, 1) := by decide +kernel
theorem dX5_read_80 : decode cX5_read 80 = .ok (.goto 4, 3) := by decide +kernel
theorem dX5_read_83 : decode cX5_read 83 = .ok (.iconst 0, 1) := by decide +kernel
theorem dX5_read_84 : decode cX5_read 84 = .ok (.invokevirtual 64, 3) := by decide +kernel
theorem dX5_read_87 : decode cX5_read 87 = .ok (.ifCond .eq 14, 3) := by decide +kernel
theorem dX5_read_90 : decode cX5_read 90 = .ok (.aload_n 0, 1) := by decide +kernel
theorem dX5_read_91 : decode cX5_read 91 = .ok (.invokevirtual 68, 3) := by decide +kernel
theorem dX5_read_94 : decode cX5_read 94 = .ok (.ifCond .eq 7, 3) := by decide +kernel
theorem dX5_read_97 : decode cX5_read 97 = .ok (.iconst 1, 1) := by decide +kernel
theorem dX5_read_98 : decode cX5_read 98 = .ok (.goto 4, 3) := by decide +kernel
theorem dX5_read_101 : decode cX5_read 101 = .ok (.iconst 0, 1) := by decide +kernel
theorem dX5_read_102 : decode cX5_read 102 = .ok (.istore_n 3, 1) := by decide +kernel
theorem dX5_read_103 : decode cX5_read 103 = .ok (.iinc 4 1, 3) := by decide +kernel
theorem dX5_read_106 : decode cX5_read 106 = .ok (.goto (-45), 3) := by decide +kernel
theorem dX5_read_109 : decode cX5_read 109 = .ok (.aload_n 0, 1) := by decide +kernel
theorem dX5_read_110 : decode cX5_read 110 = .ok (.getfield 50, 3) := by decide +kernel
theorem dX5_read_113 : decode cX5_read 113 = .ok (.ifCond .ne 40, 3) := by decide +kernel
theorem dX5_read_116 : decode cX5_read 116 = .ok (.aload_n 0, 1) := by decide +kernel
theorem dX5_read_117 : decode cX5_read 117 = .ok (.getfield 41, 3) := by decide +kernel
theorem dX5_read_120 : decode cX5_read 120 = .ok (.getfield 72, 3) := by decide +kernel
theorem dX5_read_123 : decode cX5_read 123 = .ok (.getfield 76, 3) := by decide +kernel
theorem dX5_read_126 : decode cX5_read 126 = .ok (.ifCond .eq 13, 3) := by decide +kernel
theorem dX5_read_129 : decode cX5_read 129 = .ok (.aload_n 0, 1) := by decide +kernel
theorem dX5_read_130 : decode cX5_read 130 = .ok (.getfield 41, 3) := by decide +kernel
theorem dX5_read_133 : decode cX5_read 133 = .ok (.getfield 81, 3) := by decide +kernel
theorem dX5_read_136 : decode cX5_read 136 = .ok (.ifCond .ne 17, 3) := by decide +kernel
theorem dX5_read_139 : decode cX5_read 139 = .ok (.aload_n 0, 1) := by decide +kernel
theorem dX5_read_140 : decode cX5_read 140 = .ok (.bipush 6, 2) := by decide +kernel
theorem dX5_read_142 : decode cX5_read 142 = .ok (.aload_n 0, 1) := by decide +kernel
theorem dX5_read_143 : decode cX5_read 143 = .ok (.getfield 37, 3) := by decide +kernel
theorem dX5_read_146 : decode cX5_read 146 = .ok (.getfield 84, 3) := by decide +kernel
theorem dX5_read_149 : decode cX5_read 149 = .ok (.invokevirtual 87, 3) := by decide +kernel
theorem dX5_read_152 : decode cX5_read 152 = .ok (.pop, 1) := by decide +kernel
theorem dX5_read_153 : decode cX5_read 153 = .ok (.aload_n 0, 1) := by decide +kernel
theorem dX5_read_154 : decode cX5_read 154 = .ok (.getfield 50, 3) := by decide +kernel
theorem dX5_read_157 : decode cX5_read 157 = .ok (.ifCond .ne 10, 3) := by decide +kernel
theorem dX5_read_160 : decode cX5_read 160 = .ok (.aload_n 0, 1) := by decide +kernel
theorem dX5_read_161 : decode cX5_read 161 = .ok (.getfield 41, 3) := by decide +kernel
theorem dX5_read_164 : decode cX5_read 164 = .ok (.invokevirtual 91, 3) := by decide +kernel
theorem dX5_read_167 : decode cX5_read 167 = .ok (.return_, 1) := by decide +kernel
theorem dX5_fail_0 : decode cX5_fail 0 = .ok (.aload_n 0, 1) := by decide +kernel
theorem dX5_fail_1 : decode cX5_fail 1 = .ok (.getfield 50, 3) := by decide +kernel
theorem dX5_fail_4 : decode cX5_fail 4 = .ok (.ifCond .ne 13, 3) := by decide +kernel
theorem dX5_fail_7 : decode cX5_fail 7 = .ok (.aload_n 0, 1) := by decide +kernel
theorem dX5_fail_8 : decode cX5_fail 8 = .ok (.iload_n 1, 1) := by decide +kernel
theorem dX5_fail_9 : decode cX5_fail 9 = .ok (.putfield 50, 3) := by decide +kernel
theorem dX5_fail_12 : decode cX5_fail 12 = .ok (.aload_n 0, 1) := by decide +kernel
theorem dX5_fail_13 : decode cX5_fail 13 = .ok (.iload_n 2, 1) := by decide +kernel
theorem dX5_fail_14 : decode cX5_fail 14 = .ok (.putfield 54, 3) := by decide +kernel
theorem dX5_fail_17 : decode cX5_fail 17 = .ok (.iconst 0, 1) := by decide +kernel
theorem dX5_fail_18 : decode cX5_fail 18 = .ok (.ireturn, 1) := by decide +kernel
theorem dX5_goesOn_0 : decode cX5_goesOn 0 = .ok (.aload_n 0, 1) := by decide +kernel
theorem dX5_goesOn_1 : decode cX5_goesOn 1 = .ok (.getfield 37, 3) := by decide +kernel
theorem dX5_goesOn_4 : decode cX5_goesOn 4 = .ok (.getfield 94, 3) := by decide +kernel
theorem dX5_goesOn_7 : decode cX5_goesOn 7 = .ok (.ifCond .ne 5, 3) := by decide +kernel
theorem dX5_goesOn_10 : decode cX5_goesOn 10 = .ok (.iconst 0, 1) := by decide +kernel
theorem dX5_goesOn_11 : decode cX5_goesOn 11 = .ok (.ireturn, 1) := by decide +kernel
theorem dX5_goesOn_12 : decode cX5_goesOn 12 = .ok (.aload_n 0, 1) := by decide +kernel
theorem dX5_goesOn_13 : decode cX5_goesOn 13 = .ok (.getfield 37, 3) := by decide +kernel
theorem dX5_goesOn_16 : decode cX5_goesOn 16 = .ok (.getfield 94, 3) := by decide +kernel
theorem dX5_goesOn_19 : decode cX5_goesOn 19 = .ok (.bipush 59, 2) := by decide +kernel
theorem dX5_goesOn_21 : decode cX5_goesOn 21 = .ok (.if_icmp .eq 16, 3) := by decide +kernel
theorem dX5_goesOn_24 : decode cX5_goesOn 24 = .ok (.aload_n 0, 1) := by decide +kernel
theorem dX5_goesOn_25 : decode cX5_goesOn 25 = .ok (.iconst 1, 1) := by decide +kernel
theorem dX5_goesOn_26 : decode cX5_goesOn 26 = .ok (.aload_n 0, 1) := by decide +kernel
theorem dX5_goesOn_27 : decode cX5_goesOn 27 = .ok (.getfield 37, 3) := by decide +kernel
theorem dX5_goesOn_30 : decode cX5_goesOn 30 = .ok (.getfield 84, 3) := by decide +kernel
theorem dX5_goesOn_33 : decode cX5_goesOn 33 = .ok (.invokevirtual 87, 3) := by decide +kernel
theorem dX5_goesOn_36 : decode cX5_goesOn 36 = .ok (.ireturn, 1) := by decide +kernel
theorem dX5_goesOn_37 : decode cX5_goesOn 37 = .ok (.aload_n 0, 1) := by decide +kernel
theorem dX5_goesOn_38 : decode cX5_goesOn 38 = .ok (.getfield 37, 3) := by decide +kernel
theorem dX5_goesOn_41 : decode cX5_goesOn 41 = .ok (.invokevirtual 97, 3) := by decide +kernel
theorem dX5_goesOn_44 : decode cX5_goesOn 44 = .ok (.iconst 1, 1) := by decide +kernel
theorem dX5_goesOn_45 : decode cX5_goesOn 45 = .ok (.ireturn, 1) := by decide +kernel
theorem dX5_readLine_0 : decode cX5_readLine 0 = .ok (.aload_n 0, 1) := by decide +kernel
theorem dX5_readLine_1 : decode cX5_readLine 1 = .ok (.getfield 37, 3) := by decide +kernel
theorem dX5_readLine_4 : decode cX5_readLine 4 = .ok (.getfield 84, 3) := by decide +kernel
theorem dX5_readLine_7 : decode cX5_readLine 7 = .ok (.istore_n 2, 1) := by decide +kernel
theorem dX5_readLine_8 : decode cX5_readLine 8 = .ok (.aload_n 0, 1) := by decide +kernel
theorem dX5_readLine_9 : decode cX5_readLine 9 = .ok (.getfield 37, 3) := by decide +kernel
theorem dX5_readLine_12 : decode cX5_readLine 12 = .ok (.getfield 94, 3) := by decide +kernel
theorem dX5_readLine_15 : decode cX5_readLine 15 = .ok (.sipush 256, 3) := by decide +kernel
theorem dX5_readLine_18 : decode cX5_readLine 18 = .ok (.isub, 1) := by decide +kernel
theorem dX5_readLine_19 : decode cX5_readLine 19 = .ok (.istore_n 3, 1) := by decide +kernel
theorem dX5_readLine_20 : decode cX5_readLine 20 = .ok (.aload_n 0, 1) := by decide +kernel
theorem dX5_readLine_21 : decode cX5_readLine 21 = .ok (.iload_n 3, 1) := by decide +kernel
theorem dX5_readLine_22 : decode cX5_readLine 22 = .ok (.iload_n 1, 1) := by decide +kernel
theorem dX5_readLine_23 : decode cX5_readLine 23 = .ok (.invokevirtual 100, 3) := by decide +kernel
theorem dX5_readLine_26 : decode cX5_readLine 26 = .ok (.ifCond .ne 5, 3) := by decide +kernel
theorem dX5_readLine_29 : decode cX5_readLine 29 = .ok (.iconst 0, 1) := by decide +kernel
theorem dX5_readLine_30 : decode cX5_readLine 30 = .ok (.ireturn, 1) := by decide +kernel
theorem dX5_readLine_31 : decode cX5_readLine 31 = .ok (.aload_n 0, 1) := by decide +kernel
theorem dX5_readLine_32 : decode cX5_readLine 32 = .ok (.getfield 37, 3) := by decide +kernel
theorem dX5_readLine_35 : decode cX5_readLine 35 = .ok (.invokevirtual 97, 3) := by decide +kernel
theorem dX5_readLine_38 : decode cX5_readLine 38 = .ok (.iload_n 3, 1) := by decide +kernel
theorem dX5_readLine_39 : decode cX5_readLine 39 = .ok (.tableswitch 114 0 10 #[57, 62, 67, 73, 79, 84, 89, 94, 99, 104, 109], 57) := by decide +kernel
theorem dX5_readLine_96 : decode cX5_readLine 96 = .ok (.aload_n 0, 1) := by decide +kernel
theorem dX5_readLine_97 : decode cX5_readLine 97 = .ok (.invokevirtual 104, 3) := by decide +kernel
theorem dX5_readLine_100 : decode cX5_readLine 100 = .ok (.ireturn, 1) := by decide +kernel
theorem dX5_readLine_101 : decode cX5_readLine 101 = .ok (.aload_n 0, 1) := by decide +kernel
theorem dX5_readLine_102 : decode cX5_readLine 102 = .ok (.invokevirtual 107, 3) := by decide +kernel
theorem dX5_readLine_105 : decode cX5_readLine 105 = .ok (.ireturn, 1) := by decide +kernel
theorem dX5_readLine_106 : decode cX5_readLine 106 = .ok (.aload_n 0, 1) := by decide +kernel
theorem dX5_readLine_107 : decode cX5_readLine 107 = .ok (.iload_n 2, 1) := by decide +kernel
theorem dX5_readLine_108 : decode cX5_readLine 108 = .ok (.invokevirtual 110, 3) := by decide +kernel
theorem dX5_readLine_111 : decode cX5_readLine 111 = .ok (.ireturn, 1) := by decide +kernel
theorem dX5_readLine_112 : decode cX5_readLine 112 = .ok (.aload_n 0, 1) := by decide +kernel
theorem dX5_readLine_113 : decode cX5_readLine 113 = .ok (.iload_n 2, 1) := by decide +kernel
theorem dX5_readLine_114 : decode cX5_readLine 114 = .ok (.invokevirtual 114, 3) := by decide +kernel
theorem dX5_readLine_117 : decode cX5_readLine 117 = .ok (.ireturn, 1) := by decide +kernel
theorem dX5_readLine_118 : decode cX5_readLine 118 = .ok (.aload_n 0, 1) := by decide +kernel
theorem dX5_readLine_119 : decode cX5_readLine 119 = .ok (.invokevirtual 117, 3) := by decide +kernel
theorem dX5_readLine_122 : decode cX5_readLine 122 = .ok (.ireturn, 1) := by decide +kernel
theorem dX5_readLine_123 : decode cX5_readLine 123 = .ok (.aload_n 0, 1) := by decide +kernel
theorem dX5_readLine_124 : decode cX5_readLine 124 = .ok (.invokevirtual 120, 3) := by decide +kernel
theorem dX5_readLine_127 : decode cX5_readLine 127 = .ok (.ireturn, 1) := by decide +kernel
theorem dX5_readLine_128 : decode cX5_readLine 128 = .ok (.aload_n 0, 1) := by decide +kernel
theorem dX5_readLine_129 : decode cX5_readLine 129 = .ok (.invokevirtual 123, 3) := by decide +kernel
theorem dX5_readLine_132 : decode cX5_readLine 132 = .ok (.ireturn, 1) := by decide +kernel
theorem dX5_readLine_133 : decode cX5_readLine 133 = .ok (.aload_n 0, 1) := by decide +kernel
theorem dX5_readLine_134 : decode cX5_readLine 134 = .ok (.invokevirtual 126, 3) := by decide +kernel
theorem dX5_readLine_137 : decode cX5_readLine 137 = .ok (.ireturn, 1) := by decide +kernel
theorem dX5_readLine_138 : decode cX5_readLine 138 = .ok (.aload_n 0, 1) := by decide +kernel
theorem dX5_readLine_139 : decode cX5_readLine 139 = .ok (.invokevirtual 129, 3) := by decide +kernel
theorem dX5_readLine_142 : decode cX5_readLine 142 = .ok (.ireturn, 1) := by decide +kernel
theorem dX5_readLine_143 : decode cX5_readLine 143 = .ok (.aload_n 0, 1) := by decide +kernel
theorem dX5_readLine_144 : decode cX5_readLine 144 = .ok (.invokevirtual 132, 3) := by decide +kernel
theorem dX5_readLine_147 : decode cX5_readLine 147 = .ok (.ireturn, 1) := by decide +kernel
theorem dX5_readLine_148 : decode cX5_readLine 148 = .ok (.aload_n 0, 1) := by decide +kernel
theorem dX5_readLine_149 : decode cX5_readLine 149 = .ok (.invokevirtual 135, 3) := by decide +kernel
theorem dX5_readLine_152 : decode cX5_readLine 152 = .ok (.ireturn, 1) := by decide +kernel
theorem dX5_readLine_153 : decode cX5_readLine 153 = .ok (.iconst 0, 1) := by decide +kernel
theorem dX5_readLine_154 : decode cX5_readLine 154 = .ok (.ireturn, 1) := by decide +kernel
theorem dX5_mayBegin_0 : decode cX5_mayBegin 0 = .ok (.iload_n 1, 1) := by decide +kernel
theorem dX5_mayBegin_1 : decode cX5_mayBegin 1 = .ok (.ifCond .lt 9, 3) := by decide +kernel
theorem dX5_mayBegin_4 : decode cX5_mayBegin 4 = .ok (.iload_n 1, 1) := by decide +kernel
theorem dX5_mayBegin_5 : decode cX5_mayBegin 5 = .ok (.bipush 11, 2) := by decide +kernel
theorem dX5_mayBegin_7 : decode cX5_mayBegin 7 = .ok (.if_icmp .lt 16, 3) := by decide +kernel
theorem dX5_mayBegin_10 : decode cX5_mayBegin 10 = .ok (.aload_n 0, 1) := by decide +kernel
theorem dX5_mayBegin_11 : decode cX5_mayBegin 11 = .ok (.iconst 1, 1) := by decide +kernel
theorem dX5_mayBegin_12 : decode cX5_mayBegin 12 = .ok (.aload_n 0, 1) := by decide +kernel
theorem dX5_mayBegin_13 : decode cX5_mayBegin 13 = .ok (.getfield 37, 3) := by decide +kernel
theorem dX5_mayBegin_16 : decode cX5_mayBegin 16 = .ok (.getfield 84, 3) := by decide +kernel
theorem dX5_mayBegin_19 : decode cX5_mayBegin 19 = .ok (.invokevirtual 87, 3) := by decide +kernel
theorem dX5_mayBegin_22 : decode cX5_mayBegin 22 = .ok (.ireturn, 1) := by decide +kernel
theorem dX5_mayBegin_23 : decode cX5_mayBegin 23 = .ok (.iload_n 2, 1) := by decide +kernel
theorem dX5_mayBegin_24 : decode cX5_mayBegin 24 = .ok (.ifCond .eq 21, 3) := by decide +kernel
theorem dX5_mayBegin_27 : decode cX5_mayBegin 27 = .ok (.iload_n 1, 1) := by decide +kernel
theorem dX5_mayBegin_28 : decode cX5_mayBegin 28 = .ok (.ifCond .eq 17, 3) := by decide +kernel
theorem dX5_mayBegin_31 : decode cX5_mayBegin 31 = .ok (.aload_n 0, 1) := by decide +kernel
theorem dX5_mayBegin_32 : decode cX5_mayBegin 32 = .ok (.bipush 6, 2) := by decide +kernel
theorem dX5_mayBegin_34 : decode cX5_mayBegin 34 = .ok (.aload_n 0, 1) := by decide +kernel
theorem dX5_mayBegin_35 : decode cX5_mayBegin 35 = .ok (.getfield 37, 3) := by decide +kernel
theorem dX5_mayBegin_38 : decode cX5_mayBegin 38 = .ok (.getfield 84, 3) := by decide +kernel
theorem dX5_mayBegin_41 : decode cX5_mayBegin 41 = .ok (.invokevirtual 87, 3) := by decide +kernel
theorem dX5_mayBegin_44 : decode cX5_mayBegin 44 = .ok (.ireturn, 1) := by decide +kernel
theorem dX5_mayBegin_45 : decode cX5_mayBegin 45 = .ok (.aload_n 0, 1) := by decide +kernel
theorem dX5_mayBegin_46 : decode cX5_mayBegin 46 = .ok (.getfield 13, 3) := by decide +kernel
theorem dX5_mayBegin_49 : decode cX5_mayBegin 49 = .ok (.iload_n 1, 1) := by decide +kernel
theorem dX5_mayBegin_50 : decode cX5_mayBegin 50 = .ok (.dup2, 1) := by decide +kernel
theorem dX5_mayBegin_51 : decode cX5_mayBegin 51 = .ok (.iaload, 1) := by decide +kernel
theorem dX5_mayBegin_52 : decode cX5_mayBegin 52 = .ok (.iconst 1, 1) := by decide +kernel
theorem dX5_mayBegin_53 : decode cX5_mayBegin 53 = .ok (.iadd, 1) := by decide +kernel
theorem dX5_mayBegin_54 : decode cX5_mayBegin 54 = .ok (.iastore, 1) := by decide +kernel
theorem dX5_mayBegin_55 : decode cX5_mayBegin 55 = .ok (.aload_n 0, 1) := by decide +kernel
theorem dX5_mayBegin_56 : decode cX5_mayBegin 56 = .ok (.getfield 13, 3) := by decide +kernel
theorem dX5_mayBegin_59 : decode cX5_mayBegin 59 = .ok (.iload_n 1, 1) := by decide +kernel
theorem dX5_mayBegin_60 : decode cX5_mayBegin 60 = .ok (.iaload, 1) := by decide +kernel
theorem dX5_mayBegin_61 : decode cX5_mayBegin 61 = .ok (.getstatic 138, 3) := by decide +kernel
theorem dX5_mayBegin_64 : decode cX5_mayBegin 64 = .ok (.iload_n 1, 1) := by decide +kernel
theorem dX5_mayBegin_65 : decode cX5_mayBegin 65 = .ok (.iaload, 1) := by decide +kernel
theorem dX5_mayBegin_66 : decode cX5_mayBegin 66 = .ok (.if_icmp .le 29, 3) := by decide +kernel
theorem dX5_mayBegin_69 : decode cX5_mayBegin 69 = .ok (.aload_n 0, 1) := by decide +kernel
theorem dX5_mayBegin_70 : decode cX5_mayBegin 70 = .ok (.iload_n 1, 1) := by decide +kernel
theorem dX5_mayBegin_71 : decode cX5_mayBegin 71 = .ok (.ifCond .eq 8, 3) := by decide +kernel
theorem dX5_mayBegin_74 : decode cX5_mayBegin 74 = .ok (.iload_n 1, 1) := by decide +kernel
theorem dX5_mayBegin_75 : decode cX5_mayBegin 75 = .ok (.iconst 3, 1) := by decide +kernel
theorem dX5_mayBegin_76 : decode cX5_mayBegin 76 = .ok (.if_icmp .ne 7, 3) := by decide +kernel
theorem dX5_mayBegin_79 : decode cX5_mayBegin 79 = .ok (.iconst 3, 1) := by decide +kernel
theorem dX5_mayBegin_80 : decode cX5_mayBegin 80 = .ok (.goto 4, 3) := by decide +kernel
theorem dX5_mayBegin_83 : decode cX5_mayBegin 83 = .ok (.iconst 5, 1) := by decide +kernel
theorem dX5_mayBegin_84 : decode cX5_mayBegin 84 = .ok (.aload_n 0, 1) := by decide +kernel
theorem dX5_mayBegin_85 : decode cX5_mayBegin 85 = .ok (.getfield 37, 3) := by decide +kernel
theorem dX5_mayBegin_88 : decode cX5_mayBegin 88 = .ok (.getfield 84, 3) := by decide +kernel
theorem dX5_mayBegin_91 : decode cX5_mayBegin 91 = .ok (.invokevirtual 87, 3) := by decide +kernel
theorem dX5_mayBegin_94 : decode cX5_mayBegin 94 = .ok (.ireturn, 1) := by decide +kernel
theorem dX5_mayBegin_95 : decode cX5_mayBegin 95 = .ok (.iconst 1, 1) := by decide +kernel
theorem dX5_mayBegin_96 : decode cX5_mayBegin 96 = .ok (.ireturn, 1) := by decide +kernel
theorem dX5_readWell_0 : decode cX5_readWell 0 = .ok (.aload_n 0, 1) := by decide +kernel
theorem dX5_readWell_1 : decode cX5_readWell 1 = .ok (.ldc2_w 141, 3) := by decide +kernel
theorem dX5_readWell_4 : decode cX5_readWell 4 = .ok (.invokevirtual 143, 3) := by decide +kernel
theorem dX5_readWell_7 : decode cX5_readWell 7 = .ok (.ifCond .ne 5, 3) := by decide +kernel
theorem dX5_readWell_10 : decode cX5_readWell 10 = .ok (.iconst 0, 1) := by decide +kernel
theorem dX5_readWell_11 : decode cX5_readWell 11 = .ok (.ireturn, 1) := by decide +kernel
theorem dX5_readWell_12 : decode cX5_readWell 12 = .ok (.aload_n 0, 1) := by decide +kernel
theorem dX5_readWell_13 : decode cX5_readWell 13 = .ok (.getfield 41, 3) := by decide +kernel
theorem dX5_readWell_16 : decode cX5_readWell 16 = .ok (.getfield 147, 3) := by decide +kernel
theorem dX5_readWell_19 : decode cX5_readWell 19 = .ok (.aload_n 0, 1) := by decide +kernel
theorem dX5_readWell_20 : decode cX5_readWell 20 = .ok (.iconst 0, 1) := by decide +kernel
theorem dX5_readWell_21 : decode cX5_readWell 21 = .ok (.sipush 999, 3) := by decide +kernel
theorem dX5_readWell_24 : decode cX5_readWell 24 = .ok (.invokevirtual 151, 3) := by decide +kernel
theorem dX5_readWell_27 : decode cX5_readWell 27 = .ok (.putfield 155, 3) := by decide +kernel
theorem dX5_readWell_30 : decode cX5_readWell 30 = .ok (.aload_n 0, 1) := by decide +kernel
theorem dX5_readWell_31 : decode cX5_readWell 31 = .ok (.getfield 50, 3) := by decide +kernel
theorem dX5_readWell_34 : decode cX5_readWell 34 = .ok (.ifCond .ne 7, 3) := by decide +kernel
theorem dX5_readWell_37 : decode cX5_readWell 37 = .ok (.iconst 1, 1) := by decide +kernel
theorem dX5_readWell_38 : decode cX5_readWell 38 = .ok (.goto 4, 3) := by decide +kernel
theorem dX5_readWell_41 : decode cX5_readWell 41 = .ok (.iconst 0, 1) := by decide +kernel
theorem dX5_readWell_42 : decode cX5_readWell 42 = .ok (.ireturn, 1) := by decide +kernel
theorem dX5_readFact_0 : decode cX5_readFact 0 = .ok (.aload_n 0, 1) := by decide +kernel
theorem dX5_readFact_1 : decode cX5_readFact 1 = .ok (.getfield 41, 3) := by decide +kernel
theorem dX5_readFact_4 : decode cX5_readFact 4 = .ok (.getfield 72, 3) := by decide +kernel
theorem dX5_readFact_7 : decode cX5_readFact 7 = .ok (.getfield 76, 3) := by decide +kernel
theorem dX5_readFact_10 : decode cX5_readFact 10 = .ok (.istore_n 1, 1) := by decide +kernel
theorem dX5_readFact_11 : decode cX5_readFact 11 = .ok (.iload_n 1, 1) := by decide +kernel
theorem dX5_readFact_12 : decode cX5_readFact 12 = .ok (.bipush 6, 2) := by decide +kernel
theorem dX5_readFact_14 : decode cX5_readFact 14 = .ok (.if_icmp .ge 22, 3) := by decide +kernel
theorem dX5_readFact_17 : decode cX5_readFact 17 = .ok (.aload_n 0, 1) := by decide +kernel
theorem dX5_readFact_18 : decode cX5_readFact 18 = .ok (.iconst 1, 1) := by decide +kernel
theorem dX5_readFact_19 : decode cX5_readFact 19 = .ok (.iload_n 1, 1) := by decide +kernel
theorem dX5_readFact_20 : decode cX5_readFact 20 = .ok (.invokevirtual 160, 3) := by decide +kernel
theorem dX5_readFact_23 : decode cX5_readFact 23 = .ok (.ifCond .eq 13, 3) := by decide +kernel
theorem dX5_readFact_26 : decode cX5_readFact 26 = .ok (.aload_n 0, 1) := by decide +kernel
theorem dX5_readFact_27 : decode cX5_readFact 27 = .ok (.ldc2_w 163, 3) := by decide +kernel
theorem dX5_readFact_30 : decode cX5_readFact 30 = .ok (.invokevirtual 143, 3) := by decide +kernel
theorem dX5_readFact_33 : decode cX5_readFact 33 = .ok (.ifCond .ne 5, 3) := by decide +kernel
theorem dX5_readFact_36 : decode cX5_readFact 36 = .ok (.iconst 0, 1) := by decide +kernel
theorem dX5_readFact_37 : decode cX5_readFact 37 = .ok (.ireturn, 1) := by decide +kernel
theorem dX5_readFact_38 : decode cX5_readFact 38 = .ok (.aload_n 0, 1) := by decide +kernel
theorem dX5_readFact_39 : decode cX5_readFact 39 = .ok (.getfield 41, 3) := by decide +kernel
theorem dX5_readFact_42 : decode cX5_readFact 42 = .ok (.getfield 72, 3) := by decide +kernel
theorem dX5_readFact_45 : decode cX5_readFact 45 = .ok (.getfield 165, 3) := by decide +kernel
theorem dX5_readFact_48 : decode cX5_readFact 48 = .ok (.iload_n 1, 1) := by decide +kernel
theorem dX5_readFact_49 : decode cX5_readFact 49 = .ok (.aload_n 0, 1) := by decide +kernel
theorem dX5_readFact_50 : decode cX5_readFact 50 = .ok (.iconst 1, 1) := by decide +kernel
theorem dX5_readFact_51 : decode cX5_readFact 51 = .ok (.bipush 9, 2) := by decide +kernel
theorem dX5_readFact_53 : decode cX5_readFact 53 = .ok (.invokevirtual 151, 3) := by decide +kernel
theorem dX5_readFact_56 : decode cX5_readFact 56 = .ok (.iastore, 1) := by decide +kernel
theorem dX5_readFact_57 : decode cX5_readFact 57 = .ok (.aload_n 0, 1) := by decide +kernel
theorem dX5_readFact_58 : decode cX5_readFact 58 = .ok (.getfield 41, 3) := by decide +kernel
theorem dX5_readFact_61 : decode cX5_readFact 61 = .ok (.getfield 72, 3) := by decide +kernel
theorem dX5_readFact_64 : decode cX5_readFact 64 = .ok (.dup, 1) := by decide +kernel
theorem dX5_readFact_65 : decode cX5_readFact 65 = .ok (.getfield 76, 3) := by decide +kernel
theorem dX5_readFact_68 : decode cX5_readFact 68 = .ok (.iconst 1, 1) := by decide +kernel
theorem dX5_readFact_69 : decode cX5_readFact 69 = .ok (.iadd, 1) := by decide +kernel
theorem dX5_readFact_70 : decode cX5_readFact 70 = .ok (.putfield 76, 3) := by decide +kernel
theorem dX5_readFact_73 : decode cX5_readFact 73 = .ok (.aload_n 0, 1) := by decide +kernel
theorem dX5_readFact_74 : decode cX5_readFact 74 = .ok (.getfield 50, 3) := by decide +kernel
theorem dX5_readFact_77 : decode cX5_readFact 77 = .ok (.ifCond .ne 7, 3) := by decide +kernel
theorem dX5_readFact_80 : decode cX5_readFact 80 = .ok (.iconst 1, 1) := by decide +kernel
theorem dX5_readFact_81 : decode cX5_readFact 81 = .ok (.goto 4, 3) := by decide +kernel
theorem dX5_readFact_84 : decode cX5_readFact 84 = .ok (.iconst 0, 1) := by decide +kernel
theorem dX5_readFact_85 : decode cX5_readFact 85 = .ok (.ireturn, 1) := by decide +kernel
theorem dX5_readLaw_0 : decode cX5_readLaw 0 = .ok (.aload_n 0, 1) := by decide +kernel
theorem dX5_readLaw_1 : decode cX5_readLaw 1 = .ok (.invokevirtual 168, 3) := by decide +kernel
theorem dX5_readLaw_4 : decode cX5_readLaw 4 = .ok (.lstore_n 2, 1) := by decide +kernel
theorem dX5_readLaw_5 : decode cX5_readLaw 5 = .ok (.aload_n 0, 1) := by decide +kernel
theorem dX5_readLaw_6 : decode cX5_readLaw 6 = .ok (.getfield 50, 3) := by decide +kernel
theorem dX5_readLaw_9 : decode cX5_readLaw 9 = .ok (.ifCond .eq 5, 3) := by decide +kernel
theorem dX5_readLaw_12 : decode cX5_readLaw 12 = .ok (.iconst 0, 1) := by decide +kernel
theorem dX5_readLaw_13 : decode cX5_readLaw 13 = .ok (.ireturn, 1) := by decide +kernel
theorem dX5_readLaw_14 : decode cX5_readLaw 14 = .ok (.aload_n 0, 1) := by decide +kernel
theorem dX5_readLaw_15 : decode cX5_readLaw 15 = .ok (.getfield 41, 3) := by decide +kernel
theorem dX5_readLaw_18 : decode cX5_readLaw 18 = .ok (.getfield 72, 3) := by decide +kernel
theorem dX5_readLaw_21 : decode cX5_readLaw 21 = .ok (.dup, 1) := by decide +kernel
theorem dX5_readLaw_22 : decode cX5_readLaw 22 = .ok (.getfield 172, 3) := by decide +kernel
theorem dX5_readLaw_25 : decode cX5_readLaw 25 = .ok (.lload_n 2, 1) := by decide +kernel
theorem dX5_readLaw_26 : decode cX5_readLaw 26 = .ok (.land, 1) := by decide +kernel
theorem dX5_readLaw_27 : decode cX5_readLaw 27 = .ok (.putfield 172, 3) := by decide +kernel
theorem dX5_readLaw_30 : decode cX5_readLaw 30 = .ok (.aload_n 0, 1) := by decide +kernel
theorem dX5_readLaw_31 : decode cX5_readLaw 31 = .ok (.getfield 41, 3) := by decide +kernel
theorem dX5_readLaw_34 : decode cX5_readLaw 34 = .ok (.getfield 72, 3) := by decide +kernel
theorem dX5_readLaw_37 : decode cX5_readLaw 37 = .ok (.dup, 1) := by decide +kernel
theorem dX5_readLaw_38 : decode cX5_readLaw 38 = .ok (.getfield 176, 3) := by decide +kernel
theorem dX5_readLaw_41 : decode cX5_readLaw 41 = .ok (.iconst 1, 1) := by decide +kernel
theorem dX5_readLaw_42 : decode cX5_readLaw 42 = .ok (.iadd, 1) := by decide +kernel
theorem dX5_readLaw_43 : decode cX5_readLaw 43 = .ok (.putfield 176, 3) := by decide +kernel
theorem dX5_readLaw_46 : decode cX5_readLaw 46 = .ok (.aload_n 0, 1) := by decide +kernel
theorem dX5_readLaw_47 : decode cX5_readLaw 47 = .ok (.getfield 41, 3) := by decide +kernel
theorem dX5_readLaw_50 : decode cX5_readLaw 50 = .ok (.getfield 72, 3) := by decide +kernel
theorem dX5_readLaw_53 : decode cX5_readLaw 53 = .ok (.invokevirtual 179, 3) := by decide +kernel
theorem dX5_readLaw_56 : decode cX5_readLaw 56 = .ok (.ifCond .ne 13, 3) := by decide +kernel
theorem dX5_readLaw_59 : decode cX5_readLaw 59 = .ok (.aload_n 0, 1) := by decide +kernel
theorem dX5_readLaw_60 : decode cX5_readLaw 60 = .ok (.bipush 7, 2) := by decide +kernel
theorem dX5_readLaw_62 : decode cX5_readLaw 62 = .ok (.iload_n 1, 1) := by decide +kernel
theorem dX5_readLaw_63 : decode cX5_readLaw 63 = .ok (.invokevirtual 87, 3) := by decide +kernel
theorem dX5_readLaw_66 : decode cX5_readLaw 66 = .ok (.ifCond .eq 7, 3) := by decide +kernel
theorem dX5_readLaw_69 : decode cX5_readLaw 69 = .ok (.iconst 1, 1) := by decide +kernel
theorem dX5_readLaw_70 : decode cX5_readLaw 70 = .ok (.goto 4, 3) := by decide +kernel
theorem dX5_readLaw_73 : decode cX5_readLaw 73 = .ok (.iconst 0, 1) := by decide +kernel
theorem dX5_readLaw_74 : decode cX5_readLaw 74 = .ok (.ireturn, 1) := by decide +kernel
theorem dX5_readTruth_0 : decode cX5_readTruth 0 = .ok (.aload_n 0, 1) := by decide +kernel
theorem dX5_readTruth_1 : decode cX5_readTruth 1 = .ok (.getfield 37, 3) := by decide +kernel
theorem dX5_readTruth_4 : decode cX5_readTruth 4 = .ok (.getfield 94, 3) := by decide +kernel
theorem dX5_readTruth_7 : decode cX5_readTruth 7 = .ok (.sipush 267, 3) := by decide +kernel
theorem dX5_readTruth_10 : decode cX5_readTruth 10 = .ok (.if_icmp .ne 13, 3) := by decide +kernel
theorem dX5_readTruth_13 : decode cX5_readTruth 13 = .ok (.aload_n 0, 1) := by decide +kernel
theorem dX5_readTruth_14 : decode cX5_readTruth 14 = .ok (.getfield 37, 3) := by decide +kernel
theorem dX5_readTruth_17 : decode cX5_readTruth 17 = .ok (.invokevirtual 97, 3) := by decide +kernel
theorem dX5_readTruth_20 : decode cX5_readTruth 20 = .ok (.goto 12, 3) := by decide +kernel
theorem dX5_readTruth_23 : decode cX5_readTruth 23 = .ok (.aload_n 0, 1) := by decide +kernel
theorem dX5_readTruth_24 : decode cX5_readTruth 24 = .ok (.invokevirtual 182, 3) := by decide +kernel
theorem dX5_readTruth_27 : decode cX5_readTruth 27 = .ok (.ifCond .ne 5, 3) := by decide +kernel
theorem dX5_readTruth_30 : decode cX5_readTruth 30 = .ok (.iconst 0, 1) := by decide +kernel
theorem dX5_readTruth_31 : decode cX5_readTruth 31 = .ok (.ireturn, 1) := by decide +kernel
theorem dX5_readTruth_32 : decode cX5_readTruth 32 = .ok (.aload_n 0, 1) := by decide +kernel
theorem dX5_readTruth_33 : decode cX5_readTruth 33 = .ok (.getfield 41, 3) := by decide +kernel
theorem dX5_readTruth_36 : decode cX5_readTruth 36 = .ok (.getfield 72, 3) := by decide +kernel
theorem dX5_readTruth_39 : decode cX5_readTruth 39 = .ok (.iconst 1, 1) := by decide +kernel
theorem dX5_readTruth_40 : decode cX5_readTruth 40 = .ok (.putfield 185, 3) := by decide +kernel
theorem dX5_readTruth_43 : decode cX5_readTruth 43 = .ok (.aload_n 0, 1) := by decide +kernel
theorem dX5_readTruth_44 : decode cX5_readTruth 44 = .ok (.getfield 41, 3) := by decide +kernel
theorem dX5_readTruth_47 : decode cX5_readTruth 47 = .ok (.getfield 72, 3) := by decide +kernel
theorem dX5_readTruth_50 : decode cX5_readTruth 50 = .ok (.invokevirtual 179, 3) := by decide +kernel
theorem dX5_readTruth_53 : decode cX5_readTruth 53 = .ok (.ifCond .ne 13, 3) := by decide +kernel
theorem dX5_readTruth_56 : decode cX5_readTruth 56 = .ok (.aload_n 0, 1) := by decide +kernel
theorem dX5_readTruth_57 : decode cX5_readTruth 57 = .ok (.bipush 7, 2) := by decide +kernel
theorem dX5_readTruth_59 : decode cX5_readTruth 59 = .ok (.iload_n 1, 1) := by decide +kernel
theorem dX5_readTruth_60 : decode cX5_readTruth 60 = .ok (.invokevirtual 87, 3) := by decide +kernel
theorem dX5_readTruth_63 : decode cX5_readTruth 63 = .ok (.ifCond .eq 7, 3) := by decide +kernel
theorem dX5_readTruth_66 : decode cX5_readTruth 66 = .ok (.iconst 1, 1) := by decide +kernel
theorem dX5_readTruth_67 : decode cX5_readTruth 67 = .ok (.goto 4, 3) := by decide +kernel
theorem dX5_readTruth_70 : decode cX5_readTruth 70 = .ok (.iconst 0, 1) := by decide +kernel
theorem dX5_readTruth_71 : decode cX5_readTruth 71 = .ok (.ireturn, 1) := by decide +kernel
theorem dX5_readTruthNames_0 : decode cX5_readTruthNames 0 = .ok (.iconst 0, 1) := by decide +kernel
theorem dX5_readTruthNames_1 : decode cX5_readTruthNames 1 = .ok (.istore_n 1, 1) := by decide +kernel
theorem dX5_readTruthNames_2 : decode cX5_readTruthNames 2 = .ok (.iload_n 1, 1) := by decide +kernel
theorem dX5_readTruthNames_3 : decode cX5_readTruthNames 3 = .ok (.bipush 6, 2) := by decide +kernel
theorem dX5_readTruthNames_5 : decode cX5_readTruthNames 5 = .ok (.if_icmp .gt 94, 3) := by decide +kernel
theorem dX5_readTruthNames_8 : decode cX5_readTruthNames 8 = .ok (.aload_n 0, 1) := by decide +kernel
theorem dX5_readTruthNames_9 : decode cX5_readTruthNames 9 = .ok (.getfield 37, 3) := by decide +kernel
theorem dX5_readTruthNames_12 : decode cX5_readTruthNames 12 = .ok (.getfield 84, 3) := by decide +kernel
theorem dX5_readTruthNames_15 : decode cX5_readTruthNames 15 = .ok (.istore_n 2, 1) := by decide +kernel
theorem dX5_readTruthNames_16 : decode cX5_readTruthNames 16 = .ok (.aload_n 0, 1) := by decide +kernel
theorem dX5_readTruthNames_17 : decode cX5_readTruthNames 17 = .ok (.iconst 1, 1) := by decide +kernel
theorem dX5_readTruthNames_18 : decode cX5_readTruthNames 18 = .ok (.invokevirtual 189, 3) := by decide +kernel
theorem dX5_readTruthNames_21 : decode cX5_readTruthNames 21 = .ok (.istore_n 3, 1) := by decide +kernel
theorem dX5_readTruthNames_22 : decode cX5_readTruthNames 22 = .ok (.iload_n 3, 1) := by decide +kernel
theorem dX5_readTruthNames_23 : decode cX5_readTruthNames 23 = .ok (.ifCond .ge 5, 3) := by decide +kernel
theorem dX5_readTruthNames_26 : decode cX5_readTruthNames 26 = .ok (.iconst 0, 1) := by decide +kernel
theorem dX5_readTruthNames_27 : decode cX5_readTruthNames 27 = .ok (.ireturn, 1) := by decide +kernel
theorem dX5_readTruthNames_28 : decode cX5_readTruthNames 28 = .ok (.aload_n 0, 1) := by decide +kernel
theorem dX5_readTruthNames_29 : decode cX5_readTruthNames 29 = .ok (.getfield 41, 3) := by decide +kernel
theorem dX5_readTruthNames_32 : decode cX5_readTruthNames 32 = .ok (.getfield 72, 3) := by decide +kernel
theorem dX5_readTruthNames_35 : decode cX5_readTruthNames 35 = .ok (.getfield 193, 3) := by decide +kernel
theorem dX5_readTruthNames_38 : decode cX5_readTruthNames 38 = .ok (.i2l, 1) := by decide +kernel
theorem dX5_readTruthNames_39 : decode cX5_readTruthNames 39 = .ok (.iload_n 3, 1) := by decide +kernel
theorem dX5_readTruthNames_40 : decode cX5_readTruthNames 40 = .ok (.invokestatic 196, 3) := by decide +kernel
theorem dX5_readTruthNames_43 : decode cX5_readTruthNames 43 = .ok (.iconst 1, 1) := by decide +kernel
theorem dX5_readTruthNames_44 : decode cX5_readTruthNames 44 = .ok (.if_icmp .ne 10, 3) := by decide +kernel
theorem dX5_readTruthNames_47 : decode cX5_readTruthNames 47 = .ok (.aload_n 0, 1) := by decide +kernel
theorem dX5_readTruthNames_48 : decode cX5_readTruthNames 48 = .ok (.iconst 3, 1) := by decide +kernel
theorem dX5_readTruthNames_49 : decode cX5_readTruthNames 49 = .ok (.iload_n 2, 1) := by decide +kernel
theorem dX5_readTruthNames_50 : decode cX5_readTruthNames 50 = .ok (.invokevirtual 87, 3) := by decide +kernel
theorem dX5_readTruthNames_53 : decode cX5_readTruthNames 53 = .ok (.ireturn, 1) := by decide +kernel
theorem dX5_readTruthNames_54 : decode cX5_readTruthNames 54 = .ok (.aload_n 0, 1) := by decide +kernel
theorem dX5_readTruthNames_55 : decode cX5_readTruthNames 55 = .ok (.getfield 41, 3) := by decide +kernel
theorem dX5_readTruthNames_58 : decode cX5_readTruthNames 58 = .ok (.getfield 72, 3) := by decide +kernel
theorem dX5_readTruthNames_61 : decode cX5_readTruthNames 61 = .ok (.dup, 1) := by decide +kernel
theorem dX5_readTruthNames_62 : decode cX5_readTruthNames 62 = .ok (.getfield 193, 3) := by decide +kernel
theorem dX5_readTruthNames_65 : decode cX5_readTruthNames 65 = .ok (.iconst 1, 1) := by decide +kernel
theorem dX5_readTruthNames_66 : decode cX5_readTruthNames 66 = .ok (.iload_n 3, 1) := by decide +kernel
theorem dX5_readTruthNames_67 : decode cX5_readTruthNames 67 = .ok (.ishl, 1) := by decide +kernel
theorem dX5_readTruthNames_68 : decode cX5_readTruthNames 68 = .ok (.ior, 1) := by decide +kernel
theorem dX5_readTruthNames_69 : decode cX5_readTruthNames 69 = .ok (.putfield 193, 3) := by decide +kernel
theorem dX5_readTruthNames_72 : decode cX5_readTruthNames 72 = .ok (.aload_n 0, 1) := by decide +kernel
theorem dX5_readTruthNames_73 : decode cX5_readTruthNames 73 = .ok (.getfield 37, 3) := by decide +kernel
theorem dX5_readTruthNames_76 : decode cX5_readTruthNames 76 = .ok (.getfield 94, 3) := by decide +kernel
theorem dX5_readTruthNames_79 : decode cX5_readTruthNames 79 = .ok (.bipush 44, 2) := by decide +kernel
theorem dX5_readTruthNames_81 : decode cX5_readTruthNames 81 = .ok (.if_icmp .eq 5, 3) := by decide +kernel
theorem dX5_readTruthNames_84 : decode cX5_readTruthNames 84 = .ok (.iconst 1, 1) := by decide +kernel
theorem dX5_readTruthNames_85 : decode cX5_readTruthNames 85 = .ok (.ireturn, 1) := by decide +kernel
theorem dX5_readTruthNames_86 : decode cX5_readTruthNames 86 = .ok (.aload_n 0, 1) := by decide +kernel
theorem dX5_readTruthNames_87 : decode cX5_readTruthNames 87 = .ok (.getfield 37, 3) := by decide +kernel
theorem dX5_readTruthNames_90 : decode cX5_readTruthNames 90 = .ok (.invokevirtual 97, 3) := by decide +kernel
theorem dX5_readTruthNames_93 : decode cX5_readTruthNames 93 = .ok (.iinc 1 1, 3) := by decide +kernel
theorem dX5_readTruthNames_96 : decode cX5_readTruthNames 96 = .ok (.goto (-94), 3) := by decide +kernel
theorem dX5_readTruthNames_99 : decode cX5_readTruthNames 99 = .ok (.iconst 0, 1) := by decide +kernel
theorem dX5_readTruthNames_100 : decode cX5_readTruthNames 100 = .ok (.ireturn, 1) := by decide +kernel
theorem dX5_readHouse_0 : decode cX5_readHouse 0 = .ok (.aload_n 0, 1) := by decide +kernel
theorem dX5_readHouse_1 : decode cX5_readHouse 1 = .ok (.getfield 41, 3) := by decide +kernel
theorem dX5_readHouse_4 : decode cX5_readHouse 4 = .ok (.getfield 81, 3) := by decide +kernel
theorem dX5_readHouse_7 : decode cX5_readHouse 7 = .ok (.istore_n 1, 1) := by decide +kernel
theorem dX5_readHouse_8 : decode cX5_readHouse 8 = .ok (.iload_n 1, 1) := by decide +kernel
theorem dX5_readHouse_9 : decode cX5_readHouse 9 = .ok (.bipush 6, 2) := by decide +kernel
theorem dX5_readHouse_11 : decode cX5_readHouse 11 = .ok (.if_icmp .ge 22, 3) := by decide +kernel
theorem dX5_readHouse_14 : decode cX5_readHouse 14 = .ok (.aload_n 0, 1) := by decide +kernel
theorem dX5_readHouse_15 : decode cX5_readHouse 15 = .ok (.iconst 4, 1) := by decide +kernel
theorem dX5_readHouse_16 : decode cX5_readHouse 16 = .ok (.iload_n 1, 1) := by decide +kernel
theorem dX5_readHouse_17 : decode cX5_readHouse 17 = .ok (.invokevirtual 160, 3) := by decide +kernel
theorem dX5_readHouse_20 : decode cX5_readHouse 20 = .ok (.ifCond .eq 13, 3) := by decide +kernel
theorem dX5_readHouse_23 : decode cX5_readHouse 23 = .ok (.aload_n 0, 1) := by decide +kernel
theorem dX5_readHouse_24 : decode cX5_readHouse 24 = .ok (.ldc2_w 200, 3) := by decide +kernel
theorem dX5_readHouse_27 : decode cX5_readHouse 27 = .ok (.invokevirtual 143, 3) := by decide +kernel
theorem dX5_readHouse_30 : decode cX5_readHouse 30 = .ok (.ifCond .ne 5, 3) := by decide +kernel
theorem dX5_readHouse_33 : decode cX5_readHouse 33 = .ok (.iconst 0, 1) := by decide +kernel
theorem dX5_readHouse_34 : decode cX5_readHouse 34 = .ok (.ireturn, 1) := by decide +kernel
theorem dX5_readHouse_35 : decode cX5_readHouse 35 = .ok (.aload_n 0, 1) := by decide +kernel
theorem dX5_readHouse_36 : decode cX5_readHouse 36 = .ok (.getfield 41, 3) := by decide +kernel
theorem dX5_readHouse_39 : decode cX5_readHouse 39 = .ok (.getfield 202, 3) := by decide +kernel
theorem dX5_readHouse_42 : decode cX5_readHouse 42 = .ok (.iload_n 1, 1) := by decide +kernel
theorem dX5_readHouse_43 : decode cX5_readHouse 43 = .ok (.aaload, 1) := by decide +kernel
theorem dX5_readHouse_44 : decode cX5_readHouse 44 = .ok (.aload_n 0, 1) := by decide +kernel
theorem dX5_readHouse_45 : decode cX5_readHouse 45 = .ok (.iconst 0, 1) := by decide +kernel
theorem dX5_readHouse_46 : decode cX5_readHouse 46 = .ok (.sipush 999, 3) := by decide +kernel
theorem dX5_readHouse_49 : decode cX5_readHouse 49 = .ok (.invokevirtual 151, 3) := by decide +kernel
theorem dX5_readHouse_52 : decode cX5_readHouse 52 = .ok (.putfield 206, 3) := by decide +kernel
theorem dX5_readHouse_55 : decode cX5_readHouse 55 = .ok (.aload_n 0, 1) := by decide +kernel
theorem dX5_readHouse_56 : decode cX5_readHouse 56 = .ok (.getfield 50, 3) := by decide +kernel
theorem dX5_readHouse_59 : decode cX5_readHouse 59 = .ok (.ifCond .ne 13, 3) := by decide +kernel
theorem dX5_readHouse_62 : decode cX5_readHouse 62 = .ok (.aload_n 0, 1) := by decide +kernel
theorem dX5_readHouse_63 : decode cX5_readHouse 63 = .ok (.ldc2_w 211, 3) := by decide +kernel
theorem dX5_readHouse_66 : decode cX5_readHouse 66 = .ok (.invokevirtual 143, 3) := by decide +kernel
theorem dX5_readHouse_69 : decode cX5_readHouse 69 = .ok (.ifCond .ne 5, 3) := by decide +kernel
theorem dX5_readHouse_72 : decode cX5_readHouse 72 = .ok (.iconst 0, 1) := by decide +kernel
theorem dX5_readHouse_73 : decode cX5_readHouse 73 = .ok (.ireturn, 1) := by decide +kernel
theorem dX5_readHouse_74 : decode cX5_readHouse 74 = .ok (.aload_n 0, 1) := by decide +kernel
theorem dX5_readHouse_75 : decode cX5_readHouse 75 = .ok (.getfield 41, 3) := by decide +kernel
theorem dX5_readHouse_78 : decode cX5_readHouse 78 = .ok (.getfield 202, 3) := by decide +kernel
theorem dX5_readHouse_81 : decode cX5_readHouse 81 = .ok (.iload_n 1, 1) := by decide +kernel
theorem dX5_readHouse_82 : decode cX5_readHouse 82 = .ok (.aaload, 1) := by decide +kernel
theorem dX5_readHouse_83 : decode cX5_readHouse 83 = .ok (.aload_n 0, 1) := by decide +kernel
theorem dX5_readHouse_84 : decode cX5_readHouse 84 = .ok (.iconst 1, 1) := by decide +kernel
theorem dX5_readHouse_85 : decode cX5_readHouse 85 = .ok (.bipush 99, 2) := by decide +kernel
theorem dX5_readHouse_87 : decode cX5_readHouse 87 = .ok (.invokevirtual 151, 3) := by decide +kernel
theorem dX5_readHouse_90 : decode cX5_readHouse 90 = .ok (.putfield 213, 3) := by decide +kernel
theorem dX5_readHouse_93 : decode cX5_readHouse 93 = .ok (.aload_n 0, 1) := by decide +kernel
theorem dX5_readHouse_94 : decode cX5_readHouse 94 = .ok (.getfield 50, 3) := by decide +kernel
theorem dX5_readHouse_97 : decode cX5_readHouse 97 = .ok (.ifCond .ne 13, 3) := by decide +kernel
theorem dX5_readHouse_100 : decode cX5_readHouse 100 = .ok (.aload_n 0, 1) := by decide +kernel
theorem dX5_readHouse_101 : decode cX5_readHouse 101 = .ok (.ldc2_w 216, 3) := by decide +kernel
theorem dX5_readHouse_104 : decode cX5_readHouse 104 = .ok (.invokevirtual 143, 3) := by decide +kernel
theorem dX5_readHouse_107 : decode cX5_readHouse 107 = .ok (.ifCond .ne 5, 3) := by decide +kernel
theorem dX5_readHouse_110 : decode cX5_readHouse 110 = .ok (.iconst 0, 1) := by decide +kernel
theorem dX5_readHouse_111 : decode cX5_readHouse 111 = .ok (.ireturn, 1) := by decide +kernel
theorem dX5_readHouse_112 : decode cX5_readHouse 112 = .ok (.aload_n 0, 1) := by decide +kernel
theorem dX5_readHouse_113 : decode cX5_readHouse 113 = .ok (.getfield 41, 3) := by decide +kernel
theorem dX5_readHouse_116 : decode cX5_readHouse 116 = .ok (.getfield 202, 3) := by decide +kernel
theorem dX5_readHouse_119 : decode cX5_readHouse 119 = .ok (.iload_n 1, 1) := by decide +kernel
theorem dX5_readHouse_120 : decode cX5_readHouse 120 = .ok (.aaload, 1) := by decide +kernel
theorem dX5_readHouse_121 : decode cX5_readHouse 121 = .ok (.aload_n 0, 1) := by decide +kernel
theorem dX5_readHouse_122 : decode cX5_readHouse 122 = .ok (.iconst 0, 1) := by decide +kernel
theorem dX5_readHouse_123 : decode cX5_readHouse 123 = .ok (.bipush 99, 2) := by decide +kernel
theorem dX5_readHouse_125 : decode cX5_readHouse 125 = .ok (.invokevirtual 151, 3) := by decide +kernel
theorem dX5_readHouse_128 : decode cX5_readHouse 128 = .ok (.putfield 218, 3) := by decide +kernel
theorem dX5_readHouse_131 : decode cX5_readHouse 131 = .ok (.aload_n 0, 1) := by decide +kernel
theorem dX5_readHouse_132 : decode cX5_readHouse 132 = .ok (.getfield 41, 3) := by decide +kernel
theorem dX5_readHouse_135 : decode cX5_readHouse 135 = .ok (.dup, 1) := by decide +kernel
theorem dX5_readHouse_136 : decode cX5_readHouse 136 = .ok (.getfield 81, 3) := by decide +kernel
theorem dX5_readHouse_139 : decode cX5_readHouse 139 = .ok (.iconst 1, 1) := by decide +kernel
theorem dX5_readHouse_140 : decode cX5_readHouse 140 = .ok (.iadd, 1) := by decide +kernel
theorem dX5_readHouse_141 : decode cX5_readHouse 141 = .ok (.putfield 81, 3) := by decide +kernel
theorem dX5_readHouse_144 : decode cX5_readHouse 144 = .ok (.aload_n 0, 1) := by decide +kernel
theorem dX5_readHouse_145 : decode cX5_readHouse 145 = .ok (.getfield 50, 3) := by decide +kernel
theorem dX5_readHouse_148 : decode cX5_readHouse 148 = .ok (.ifCond .ne 7, 3) := by decide +kernel
theorem dX5_readHouse_151 : decode cX5_readHouse 151 = .ok (.iconst 1, 1) := by decide +kernel
theorem dX5_readHouse_152 : decode cX5_readHouse 152 = .ok (.goto 4, 3) := by decide +kernel
theorem dX5_readHouse_155 : decode cX5_readHouse 155 = .ok (.iconst 0, 1) := by decide +kernel
theorem dX5_readHouse_156 : decode cX5_readHouse 156 = .ok (.ireturn, 1) := by decide +kernel
theorem dX5_readTwin_0 : decode cX5_readTwin 0 = .ok (.aload_n 0, 1) := by decide +kernel
theorem dX5_readTwin_1 : decode cX5_readTwin 1 = .ok (.iconst 4, 1) := by decide +kernel
theorem dX5_readTwin_2 : decode cX5_readTwin 2 = .ok (.invokevirtual 189, 3) := by decide +kernel
theorem dX5_readTwin_5 : decode cX5_readTwin 5 = .ok (.istore_n 1, 1) := by decide +kernel
theorem dX5_readTwin_6 : decode cX5_readTwin 6 = .ok (.iload_n 1, 1) := by decide +kernel
theorem dX5_readTwin_7 : decode cX5_readTwin 7 = .ok (.ifCond .lt 9, 3) := by decide +kernel
theorem dX5_readTwin_10 : decode cX5_readTwin 10 = .ok (.iload_n 1, 1) := by decide +kernel
theorem dX5_readTwin_11 : decode cX5_readTwin 11 = .ok (.bipush 6, 2) := by decide +kernel
theorem dX5_readTwin_13 : decode cX5_readTwin 13 = .ok (.if_icmp .lt 5, 3) := by decide +kernel
theorem dX5_readTwin_16 : decode cX5_readTwin 16 = .ok (.iconst 0, 1) := by decide +kernel
theorem dX5_readTwin_17 : decode cX5_readTwin 17 = .ok (.ireturn, 1) := by decide +kernel
theorem dX5_readTwin_18 : decode cX5_readTwin 18 = .ok (.aload_n 0, 1) := by decide +kernel
theorem dX5_readTwin_19 : decode cX5_readTwin 19 = .ok (.getfield 37, 3) := by decide +kernel
theorem dX5_readTwin_22 : decode cX5_readTwin 22 = .ok (.getfield 84, 3) := by decide +kernel
theorem dX5_readTwin_25 : decode cX5_readTwin 25 = .ok (.istore_n 2, 1) := by decide +kernel
theorem dX5_readTwin_26 : decode cX5_readTwin 26 = .ok (.aload_n 0, 1) := by decide +kernel
theorem dX5_readTwin_27 : decode cX5_readTwin 27 = .ok (.iconst 0, 1) := by decide +kernel
theorem dX5_readTwin_28 : decode cX5_readTwin 28 = .ok (.bipush 30, 2) := by decide +kernel
theorem dX5_readTwin_30 : decode cX5_readTwin 30 = .ok (.invokevirtual 151, 3) := by decide +kernel
theorem dX5_readTwin_33 : decode cX5_readTwin 33 = .ok (.istore_n 3, 1) := by decide +kernel
theorem dX5_readTwin_34 : decode cX5_readTwin 34 = .ok (.aload_n 0, 1) := by decide +kernel
theorem dX5_readTwin_35 : decode cX5_readTwin 35 = .ok (.getfield 50, 3) := by decide +kernel
theorem dX5_readTwin_38 : decode cX5_readTwin 38 = .ok (.ifCond .eq 5, 3) := by decide +kernel
theorem dX5_readTwin_41 : decode cX5_readTwin 41 = .ok (.iconst 0, 1) := by decide +kernel
theorem dX5_readTwin_42 : decode cX5_readTwin 42 = .ok (.ireturn, 1) := by decide +kernel
theorem dX5_readTwin_43 : decode cX5_readTwin 43 = .ok (.aload_n 0, 1) := by decide +kernel
theorem dX5_readTwin_44 : decode cX5_readTwin 44 = .ok (.getfield 41, 3) := by decide +kernel
theorem dX5_readTwin_47 : decode cX5_readTwin 47 = .ok (.getfield 202, 3) := by decide +kernel
theorem dX5_readTwin_50 : decode cX5_readTwin 50 = .ok (.iload_n 1, 1) := by decide +kernel
theorem dX5_readTwin_51 : decode cX5_readTwin 51 = .ok (.aaload, 1) := by decide +kernel
theorem dX5_readTwin_52 : decode cX5_readTwin 52 = .ok (.getfield 221, 3) := by decide +kernel
theorem dX5_readTwin_55 : decode cX5_readTwin 55 = .ok (.i2l, 1) := by decide +kernel
theorem dX5_readTwin_56 : decode cX5_readTwin 56 = .ok (.iload_n 3, 1) := by decide +kernel
theorem dX5_readTwin_57 : decode cX5_readTwin 57 = .ok (.invokestatic 196, 3) := by decide +kernel
theorem dX5_readTwin_60 : decode cX5_readTwin 60 = .ok (.iconst 1, 1) := by decide +kernel
theorem dX5_readTwin_61 : decode cX5_readTwin 61 = .ok (.if_icmp .ne 10, 3) := by decide +kernel
theorem dX5_readTwin_64 : decode cX5_readTwin 64 = .ok (.aload_n 0, 1) := by decide +kernel
theorem dX5_readTwin_65 : decode cX5_readTwin 65 = .ok (.iconst 3, 1) := by decide +kernel
theorem dX5_readTwin_66 : decode cX5_readTwin 66 = .ok (.iload_n 2, 1) := by decide +kernel
theorem dX5_readTwin_67 : decode cX5_readTwin 67 = .ok (.invokevirtual 87, 3) := by decide +kernel
theorem dX5_readTwin_70 : decode cX5_readTwin 70 = .ok (.ireturn, 1) := by decide +kernel
theorem dX5_readTwin_71 : decode cX5_readTwin 71 = .ok (.aload_n 0, 1) := by decide +kernel
theorem dX5_readTwin_72 : decode cX5_readTwin 72 = .ok (.getfield 41, 3) := by decide +kernel
theorem dX5_readTwin_75 : decode cX5_readTwin 75 = .ok (.getfield 202, 3) := by decide +kernel
theorem dX5_readTwin_78 : decode cX5_readTwin 78 = .ok (.iload_n 1, 1) := by decide +kernel
theorem dX5_readTwin_79 : decode cX5_readTwin 79 = .ok (.aaload, 1) := by decide +kernel
theorem dX5_readTwin_80 : decode cX5_readTwin 80 = .ok (.dup, 1) := by decide +kernel
theorem dX5_readTwin_81 : decode cX5_readTwin 81 = .ok (.getfield 221, 3) := by decide +kernel
theorem dX5_readTwin_84 : decode cX5_readTwin 84 = .ok (.iconst 1, 1) := by decide +kernel
theorem dX5_readTwin_85 : decode cX5_readTwin 85 = .ok (.iload_n 3, 1) := by decide +kernel
theorem dX5_readTwin_86 : decode cX5_readTwin 86 = .ok (.ishl, 1) := by decide +kernel
theorem dX5_readTwin_87 : decode cX5_readTwin 87 = .ok (.ior, 1) := by decide +kernel
theorem dX5_readTwin_88 : decode cX5_readTwin 88 = .ok (.putfield 221, 3) := by decide +kernel
theorem dX5_readTwin_91 : decode cX5_readTwin 91 = .ok (.aload_n 0, 1) := by decide +kernel
theorem dX5_readTwin_92 : decode cX5_readTwin 92 = .ok (.getfield 41, 3) := by decide +kernel
theorem dX5_readTwin_95 : decode cX5_readTwin 95 = .ok (.dup, 1) := by decide +kernel
theorem dX5_readTwin_96 : decode cX5_readTwin 96 = .ok (.getfield 224, 3) := by decide +kernel
theorem dX5_readTwin_99 : decode cX5_readTwin 99 = .ok (.iconst 1, 1) := by decide +kernel
theorem dX5_readTwin_100 : decode cX5_readTwin 100 = .ok (.iadd, 1) := by decide +kernel
theorem dX5_readTwin_101 : decode cX5_readTwin 101 = .ok (.putfield 224, 3) := by decide +kernel
theorem dX5_readTwin_104 : decode cX5_readTwin 104 = .ok (.iconst 1, 1) := by decide +kernel
theorem dX5_readTwin_105 : decode cX5_readTwin 105 = .ok (.ireturn, 1) := by decide +kernel
theorem dX5_readEnds_0 : decode cX5_readEnds 0 = .ok (.aload_n 0, 1) := by decide +kernel
theorem dX5_readEnds_1 : decode cX5_readEnds 1 = .ok (.getfield 37, 3) := by decide +kernel
theorem dX5_readEnds_4 : decode cX5_readEnds 4 = .ok (.getfield 84, 3) := by decide +kernel
theorem dX5_readEnds_7 : decode cX5_readEnds 7 = .ok (.istore_n 1, 1) := by decide +kernel
theorem dX5_readEnds_8 : decode cX5_readEnds 8 = .ok (.aload_n 0, 1) := by decide +kernel
theorem dX5_readEnds_9 : decode cX5_readEnds 9 = .ok (.iconst 4, 1) := by decide +kernel
theorem dX5_readEnds_10 : decode cX5_readEnds 10 = .ok (.invokevirtual 189, 3) := by decide +kernel
theorem dX5_readEnds_13 : decode cX5_readEnds 13 = .ok (.istore_n 2, 1) := by decide +kernel
theorem dX5_readEnds_14 : decode cX5_readEnds 14 = .ok (.iload_n 2, 1) := by decide +kernel
theorem dX5_readEnds_15 : decode cX5_readEnds 15 = .ok (.ifCond .lt 9, 3) := by decide +kernel
theorem dX5_readEnds_18 : decode cX5_readEnds 18 = .ok (.iload_n 2, 1) := by decide +kernel
theorem dX5_readEnds_19 : decode cX5_readEnds 19 = .ok (.bipush 6, 2) := by decide +kernel
theorem dX5_readEnds_21 : decode cX5_readEnds 21 = .ok (.if_icmp .lt 5, 3) := by decide +kernel
theorem dX5_readEnds_24 : decode cX5_readEnds 24 = .ok (.iconst 0, 1) := by decide +kernel
theorem dX5_readEnds_25 : decode cX5_readEnds 25 = .ok (.ireturn, 1) := by decide +kernel
theorem dX5_readEnds_26 : decode cX5_readEnds 26 = .ok (.aload_n 0, 1) := by decide +kernel
theorem dX5_readEnds_27 : decode cX5_readEnds 27 = .ok (.getfield 41, 3) := by decide +kernel
theorem dX5_readEnds_30 : decode cX5_readEnds 30 = .ok (.getfield 202, 3) := by decide +kernel
theorem dX5_readEnds_33 : decode cX5_readEnds 33 = .ok (.iload_n 2, 1) := by decide +kernel
theorem dX5_readEnds_34 : decode cX5_readEnds 34 = .ok (.aaload, 1) := by decide +kernel
theorem dX5_readEnds_35 : decode cX5_readEnds 35 = .ok (.getfield 227, 3) := by decide +kernel
theorem dX5_readEnds_38 : decode cX5_readEnds 38 = .ok (.iconst (-1), 1) := by decide +kernel
theorem dX5_readEnds_39 : decode cX5_readEnds 39 = .ok (.if_icmp .eq 10, 3) := by decide +kernel
theorem dX5_readEnds_42 : decode cX5_readEnds 42 = .ok (.aload_n 0, 1) := by decide +kernel
theorem dX5_readEnds_43 : decode cX5_readEnds 43 = .ok (.iconst 3, 1) := by decide +kernel
theorem dX5_readEnds_44 : decode cX5_readEnds 44 = .ok (.iload_n 1, 1) := by decide +kernel
theorem dX5_readEnds_45 : decode cX5_readEnds 45 = .ok (.invokevirtual 87, 3) := by decide +kernel
theorem dX5_readEnds_48 : decode cX5_readEnds 48 = .ok (.ireturn, 1) := by decide +kernel
theorem dX5_readEnds_49 : decode cX5_readEnds 49 = .ok (.aload_n 0, 1) := by decide +kernel
theorem dX5_readEnds_50 : decode cX5_readEnds 50 = .ok (.getfield 41, 3) := by decide +kernel
theorem dX5_readEnds_53 : decode cX5_readEnds 53 = .ok (.getfield 202, 3) := by decide +kernel
theorem dX5_readEnds_56 : decode cX5_readEnds 56 = .ok (.iload_n 2, 1) := by decide +kernel
theorem dX5_readEnds_57 : decode cX5_readEnds 57 = .ok (.aaload, 1) := by decide +kernel
theorem dX5_readEnds_58 : decode cX5_readEnds 58 = .ok (.aload_n 0, 1) := by decide +kernel
theorem dX5_readEnds_59 : decode cX5_readEnds 59 = .ok (.iconst 0, 1) := by decide +kernel
theorem dX5_readEnds_60 : decode cX5_readEnds 60 = .ok (.sipush 999, 3) := by decide +kernel
theorem dX5_readEnds_63 : decode cX5_readEnds 63 = .ok (.invokevirtual 151, 3) := by decide +kernel
theorem dX5_readEnds_66 : decode cX5_readEnds 66 = .ok (.putfield 227, 3) := by decide +kernel
theorem dX5_readEnds_69 : decode cX5_readEnds 69 = .ok (.aload_n 0, 1) := by decide +kernel
theorem dX5_readEnds_70 : decode cX5_readEnds 70 = .ok (.getfield 50, 3) := by decide +kernel
theorem dX5_readEnds_73 : decode cX5_readEnds 73 = .ok (.ifCond .ne 7, 3) := by decide +kernel
theorem dX5_readEnds_76 : decode cX5_readEnds 76 = .ok (.iconst 1, 1) := by decide +kernel
theorem dX5_readEnds_77 : decode cX5_readEnds 77 = .ok (.goto 4, 3) := by decide +kernel
theorem dX5_readEnds_80 : decode cX5_readEnds 80 = .ok (.iconst 0, 1) := by decide +kernel
theorem dX5_readEnds_81 : decode cX5_readEnds 81 = .ok (.ireturn, 1) := by decide +kernel
theorem dX5_readQuestion_0 : decode cX5_readQuestion 0 = .ok (.aload_n 0, 1) := by decide +kernel
theorem dX5_readQuestion_1 : decode cX5_readQuestion 1 = .ok (.getfield 41, 3) := by decide +kernel
theorem dX5_readQuestion_4 : decode cX5_readQuestion 4 = .ok (.getfield 72, 3) := by decide +kernel
theorem dX5_readQuestion_7 : decode cX5_readQuestion 7 = .ok (.getfield 230, 3) := by decide +kernel
theorem dX5_readQuestion_10 : decode cX5_readQuestion 10 = .ok (.istore_n 1, 1) := by decide +kernel
theorem dX5_readQuestion_11 : decode cX5_readQuestion 11 = .ok (.iload_n 1, 1) := by decide +kernel
theorem dX5_readQuestion_12 : decode cX5_readQuestion 12 = .ok (.bipush 8, 2) := by decide +kernel
theorem dX5_readQuestion_14 : decode cX5_readQuestion 14 = .ok (.if_icmp .ge 13, 3) := by decide +kernel
theorem dX5_readQuestion_17 : decode cX5_readQuestion 17 = .ok (.aload_n 0, 1) := by decide +kernel
theorem dX5_readQuestion_18 : decode cX5_readQuestion 18 = .ok (.bipush 7, 2) := by decide +kernel
theorem dX5_readQuestion_20 : decode cX5_readQuestion 20 = .ok (.iload_n 1, 1) := by decide +kernel
theorem dX5_readQuestion_21 : decode cX5_readQuestion 21 = .ok (.invokevirtual 160, 3) := by decide +kernel
theorem dX5_readQuestion_24 : decode cX5_readQuestion 24 = .ok (.ifCond .ne 5, 3) := by decide +kernel
theorem dX5_readQuestion_27 : decode cX5_readQuestion 27 = .ok (.iconst 0, 1) := by decide +kernel
theorem dX5_readQuestion_28 : decode cX5_readQuestion 28 = .ok (.ireturn, 1) := by decide +kernel
theorem dX5_readQuestion_29 : decode cX5_readQuestion 29 = .ok (.aload_n 0, 1) := by decide +kernel
theorem dX5_readQuestion_30 : decode cX5_readQuestion 30 = .ok (.getfield 41, 3) := by decide +kernel
theorem dX5_readQuestion_33 : decode cX5_readQuestion 33 = .ok (.getfield 72, 3) := by decide +kernel
theorem dX5_readQuestion_36 : decode cX5_readQuestion 36 = .ok (.aload_n 0, 1) := by decide +kernel
theorem dX5_readQuestion_37 : decode cX5_readQuestion 37 = .ok (.invokevirtual 168, 3) := by decide +kernel
theorem dX5_readQuestion_40 : decode cX5_readQuestion 40 = .ok (.invokevirtual 233, 3) := by decide +kernel
theorem dX5_readQuestion_43 : decode cX5_readQuestion 43 = .ok (.aload_n 0, 1) := by decide +kernel
theorem dX5_readQuestion_44 : decode cX5_readQuestion 44 = .ok (.getfield 50, 3) := by decide +kernel
theorem dX5_readQuestion_47 : decode cX5_readQuestion 47 = .ok (.ifCond .ne 7, 3) := by decide +kernel
theorem dX5_readQuestion_50 : decode cX5_readQuestion 50 = .ok (.iconst 1, 1) := by decide +kernel
theorem dX5_readQuestion_51 : decode cX5_readQuestion 51 = .ok (.goto 4, 3) := by decide +kernel
theorem dX5_readQuestion_54 : decode cX5_readQuestion 54 = .ok (.iconst 0, 1) := by decide +kernel
theorem dX5_readQuestion_55 : decode cX5_readQuestion 55 = .ok (.ireturn, 1) := by decide +kernel
theorem dX5_readTold_0 : decode cX5_readTold 0 = .ok (.aload_n 0, 1) := by decide +kernel
theorem dX5_readTold_1 : decode cX5_readTold 1 = .ok (.iconst 4, 1) := by decide +kernel
theorem dX5_readTold_2 : decode cX5_readTold 2 = .ok (.invokevirtual 189, 3) := by decide +kernel
theorem dX5_readTold_5 : decode cX5_readTold 5 = .ok (.istore_n 1, 1) := by decide +kernel
theorem dX5_readTold_6 : decode cX5_readTold 6 = .ok (.iload_n 1, 1) := by decide +kernel
theorem dX5_readTold_7 : decode cX5_readTold 7 = .ok (.ifCond .ge 5, 3) := by decide +kernel
theorem dX5_readTold_10 : decode cX5_readTold 10 = .ok (.iconst 0, 1) := by decide +kernel
theorem dX5_readTold_11 : decode cX5_readTold 11 = .ok (.ireturn, 1) := by decide +kernel
theorem dX5_readTold_12 : decode cX5_readTold 12 = .ok (.aload_n 0, 1) := by decide +kernel
theorem dX5_readTold_13 : decode cX5_readTold 13 = .ok (.bipush 7, 2) := by decide +kernel
theorem dX5_readTold_15 : decode cX5_readTold 15 = .ok (.invokevirtual 189, 3) := by decide +kernel
theorem dX5_readTold_18 : decode cX5_readTold 18 = .ok (.istore_n 2, 1) := by decide +kernel
theorem dX5_readTold_19 : decode cX5_readTold 19 = .ok (.iload_n 2, 1) := by decide +kernel
theorem dX5_readTold_20 : decode cX5_readTold 20 = .ok (.ifCond .ge 5, 3) := by decide +kernel
theorem dX5_readTold_23 : decode cX5_readTold 23 = .ok (.iconst 0, 1) := by decide +kernel
theorem dX5_readTold_24 : decode cX5_readTold 24 = .ok (.ireturn, 1) := by decide +kernel
theorem dX5_readTold_25 : decode cX5_readTold 25 = .ok (.aload_n 0, 1) := by decide +kernel
theorem dX5_readTold_26 : decode cX5_readTold 26 = .ok (.invokevirtual 237, 3) := by decide +kernel
theorem dX5_readTold_29 : decode cX5_readTold 29 = .ok (.istore_n 3, 1) := by decide +kernel
theorem dX5_readTold_30 : decode cX5_readTold 30 = .ok (.aload_n 0, 1) := by decide +kernel
theorem dX5_readTold_31 : decode cX5_readTold 31 = .ok (.getfield 50, 3) := by decide +kernel
theorem dX5_readTold_34 : decode cX5_readTold 34 = .ok (.ifCond .eq 5, 3) := by decide +kernel
theorem dX5_readTold_37 : decode cX5_readTold 37 = .ok (.iconst 0, 1) := by decide +kernel
theorem dX5_readTold_38 : decode cX5_readTold 38 = .ok (.ireturn, 1) := by decide +kernel
theorem dX5_readTold_39 : decode cX5_readTold 39 = .ok (.aload_n 0, 1) := by decide +kernel
theorem dX5_readTold_40 : decode cX5_readTold 40 = .ok (.getfield 41, 3) := by decide +kernel
theorem dX5_readTold_43 : decode cX5_readTold 43 = .ok (.getfield 147, 3) := by decide +kernel
theorem dX5_readTold_46 : decode cX5_readTold 46 = .ok (.iload_n 1, 1) := by decide +kernel
theorem dX5_readTold_47 : decode cX5_readTold 47 = .ok (.iload_n 2, 1) := by decide +kernel
theorem dX5_readTold_48 : decode cX5_readTold 48 = .ok (.iload_n 3, 1) := by decide +kernel
theorem dX5_readTold_49 : decode cX5_readTold 49 = .ok (.invokevirtual 240, 3) := by decide +kernel
theorem dX5_readTold_52 : decode cX5_readTold 52 = .ok (.iconst 1, 1) := by decide +kernel
theorem dX5_readTold_53 : decode cX5_readTold 53 = .ok (.ireturn, 1) := by decide +kernel
theorem dX5_readStone_0 : decode cX5_readStone 0 = .ok (.aload_n 0, 1) := by decide +kernel
theorem dX5_readStone_1 : decode cX5_readStone 1 = .ok (.invokevirtual 237, 3) := by decide +kernel
theorem dX5_readStone_4 : decode cX5_readStone 4 = .ok (.ifCond .eq 30, 3) := by decide +kernel
theorem dX5_readStone_7 : decode cX5_readStone 7 = .ok (.aload_n 0, 1) := by decide +kernel
theorem dX5_readStone_8 : decode cX5_readStone 8 = .ok (.getfield 41, 3) := by decide +kernel
theorem dX5_readStone_11 : decode cX5_readStone 11 = .ok (.getfield 72, 3) := by decide +kernel
theorem dX5_readStone_14 : decode cX5_readStone 14 = .ok (.dup, 1) := by decide +kernel
theorem dX5_readStone_15 : decode cX5_readStone 15 = .ok (.getfield 244, 3) := by decide +kernel
theorem dX5_readStone_18 : decode cX5_readStone 18 = .ok (.iconst 1, 1) := by decide +kernel
theorem dX5_readStone_19 : decode cX5_readStone 19 = .ok (.aload_n 0, 1) := by decide +kernel
theorem dX5_readStone_20 : decode cX5_readStone 20 = .ok (.getfield 41, 3) := by decide +kernel
theorem dX5_readStone_23 : decode cX5_readStone 23 = .ok (.getfield 72, 3) := by decide +kernel
theorem dX5_readStone_26 : decode cX5_readStone 26 = .ok (.getfield 247, 3) := by decide +kernel
theorem dX5_readStone_29 : decode cX5_readStone 29 = .ok (.ishl, 1) := by decide +kernel
theorem dX5_readStone_30 : decode cX5_readStone 30 = .ok (.ior, 1) := by decide +kernel
theorem dX5_readStone_31 : decode cX5_readStone 31 = .ok (.putfield 244, 3) := by decide +kernel
theorem dX5_readStone_34 : decode cX5_readStone 34 = .ok (.aload_n 0, 1) := by decide +kernel
theorem dX5_readStone_35 : decode cX5_readStone 35 = .ok (.getfield 41, 3) := by decide +kernel
theorem dX5_readStone_38 : decode cX5_readStone 38 = .ok (.getfield 72, 3) := by decide +kernel
theorem dX5_readStone_41 : decode cX5_readStone 41 = .ok (.dup, 1) := by decide +kernel
theorem dX5_readStone_42 : decode cX5_readStone 42 = .ok (.getfield 247, 3) := by decide +kernel
theorem dX5_readStone_45 : decode cX5_readStone 45 = .ok (.iconst 1, 1) := by decide +kernel
theorem dX5_readStone_46 : decode cX5_readStone 46 = .ok (.iadd, 1) := by decide +kernel
theorem dX5_readStone_47 : decode cX5_readStone 47 = .ok (.putfield 247, 3) := by decide +kernel
theorem dX5_readStone_50 : decode cX5_readStone 50 = .ok (.aload_n 0, 1) := by decide +kernel
theorem dX5_readStone_51 : decode cX5_readStone 51 = .ok (.getfield 50, 3) := by decide +kernel
theorem dX5_readStone_54 : decode cX5_readStone 54 = .ok (.ifCond .ne 7, 3) := by decide +kernel
theorem dX5_readStone_57 : decode cX5_readStone 57 = .ok (.iconst 1, 1) := by decide +kernel
theorem dX5_readStone_58 : decode cX5_readStone 58 = .ok (.goto 4, 3) := by decide +kernel
theorem dX5_readStone_61 : decode cX5_readStone 61 = .ok (.iconst 0, 1) := by decide +kernel
theorem dX5_readStone_62 : decode cX5_readStone 62 = .ok (.ireturn, 1) := by decide +kernel
theorem dX5_readWeds_0 : decode cX5_readWeds 0 = .ok (.aload_n 0, 1) := by decide +kernel
theorem dX5_readWeds_1 : decode cX5_readWeds 1 = .ok (.iconst 4, 1) := by decide +kernel
theorem dX5_readWeds_2 : decode cX5_readWeds 2 = .ok (.invokevirtual 189, 3) := by decide +kernel
theorem dX5_readWeds_5 : decode cX5_readWeds 5 = .ok (.istore_n 1, 1) := by decide +kernel
theorem dX5_readWeds_6 : decode cX5_readWeds 6 = .ok (.iload_n 1, 1) := by decide +kernel
theorem dX5_readWeds_7 : decode cX5_readWeds 7 = .ok (.ifCond .ge 5, 3) := by decide +kernel
theorem dX5_readWeds_10 : decode cX5_readWeds 10 = .ok (.iconst 0, 1) := by decide +kernel
theorem dX5_readWeds_11 : decode cX5_readWeds 11 = .ok (.ireturn, 1) := by decide +kernel
theorem dX5_readWeds_12 : decode cX5_readWeds 12 = .ok (.aload_n 0, 1) := by decide +kernel
theorem dX5_readWeds_13 : decode cX5_readWeds 13 = .ok (.getfield 37, 3) := by decide +kernel
theorem dX5_readWeds_16 : decode cX5_readWeds 16 = .ok (.getfield 84, 3) := by decide +kernel
theorem dX5_readWeds_19 : decode cX5_readWeds 19 = .ok (.istore_n 2, 1) := by decide +kernel
theorem dX5_readWeds_20 : decode cX5_readWeds 20 = .ok (.aload_n 0, 1) := by decide +kernel
theorem dX5_readWeds_21 : decode cX5_readWeds 21 = .ok (.iconst 4, 1) := by decide +kernel
theorem dX5_readWeds_22 : decode cX5_readWeds 22 = .ok (.invokevirtual 189, 3) := by decide +kernel
theorem dX5_readWeds_25 : decode cX5_readWeds 25 = .ok (.istore_n 3, 1) := by decide +kernel
theorem dX5_readWeds_26 : decode cX5_readWeds 26 = .ok (.iload_n 3, 1) := by decide +kernel
theorem dX5_readWeds_27 : decode cX5_readWeds 27 = .ok (.ifCond .ge 5, 3) := by decide +kernel
theorem dX5_readWeds_30 : decode cX5_readWeds 30 = .ok (.iconst 0, 1) := by decide +kernel
theorem dX5_readWeds_31 : decode cX5_readWeds 31 = .ok (.ireturn, 1) := by decide +kernel
theorem dX5_readWeds_32 : decode cX5_readWeds 32 = .ok (.iload_n 3, 1) := by decide +kernel
theorem dX5_readWeds_33 : decode cX5_readWeds 33 = .ok (.iload_n 1, 1) := by decide +kernel
theorem dX5_readWeds_34 : decode cX5_readWeds 34 = .ok (.if_icmp .eq 18, 3) := by decide +kernel
theorem dX5_readWeds_37 : decode cX5_readWeds 37 = .ok (.aload_n 0, 1) := by decide +kernel
theorem dX5_readWeds_38 : decode cX5_readWeds 38 = .ok (.getfield 41, 3) := by decide +kernel
theorem dX5_readWeds_41 : decode cX5_readWeds 41 = .ok (.getfield 147, 3) := by decide +kernel
theorem dX5_readWeds_44 : decode cX5_readWeds 44 = .ok (.iload_n 1, 1) := by decide +kernel
theorem dX5_readWeds_45 : decode cX5_readWeds 45 = .ok (.iload_n 3, 1) := by decide +kernel
theorem dX5_readWeds_46 : decode cX5_readWeds 46 = .ok (.invokevirtual 250, 3) := by decide +kernel
theorem dX5_readWeds_49 : decode cX5_readWeds 49 = .ok (.ifCond .eq 10, 3) := by decide +kernel
theorem dX5_readWeds_52 : decode cX5_readWeds 52 = .ok (.aload_n 0, 1) := by decide +kernel
theorem dX5_readWeds_53 : decode cX5_readWeds 53 = .ok (.iconst 3, 1) := by decide +kernel
theorem dX5_readWeds_54 : decode cX5_readWeds 54 = .ok (.iload_n 2, 1) := by decide +kernel
theorem dX5_readWeds_55 : decode cX5_readWeds 55 = .ok (.invokevirtual 87, 3) := by decide +kernel
theorem dX5_readWeds_58 : decode cX5_readWeds 58 = .ok (.ireturn, 1) := by decide +kernel
theorem dX5_readWeds_59 : decode cX5_readWeds 59 = .ok (.aload_n 0, 1) := by decide +kernel
theorem dX5_readWeds_60 : decode cX5_readWeds 60 = .ok (.getfield 41, 3) := by decide +kernel
theorem dX5_readWeds_63 : decode cX5_readWeds 63 = .ok (.getfield 147, 3) := by decide +kernel
theorem dX5_readWeds_66 : decode cX5_readWeds 66 = .ok (.iload_n 1, 1) := by decide +kernel
theorem dX5_readWeds_67 : decode cX5_readWeds 67 = .ok (.iload_n 3, 1) := by decide +kernel
theorem dX5_readWeds_68 : decode cX5_readWeds 68 = .ok (.invokevirtual 253, 3) := by decide +kernel
theorem dX5_readWeds_71 : decode cX5_readWeds 71 = .ok (.iconst 1, 1) := by decide +kernel
theorem dX5_readWeds_72 : decode cX5_readWeds 72 = .ok (.ireturn, 1) := by decide +kernel
theorem dX5_formula_0 : decode cX5_formula 0 = .ok (.aload_n 0, 1) := by decide +kernel
theorem dX5_formula_1 : decode cX5_formula 1 = .ok (.iconst 0, 1) := by decide +kernel
theorem dX5_formula_2 : decode cX5_formula 2 = .ok (.putfield 257, 3) := by decide +kernel
theorem dX5_formula_5 : decode cX5_formula 5 = .ok (.aload_n 0, 1) := by decide +kernel
theorem dX5_formula_6 : decode cX5_formula 6 = .ok (.iconst 0, 1) := by decide +kernel
theorem dX5_formula_7 : decode cX5_formula 7 = .ok (.putfield 260, 3) := by decide +kernel
theorem dX5_formula_10 : decode cX5_formula 10 = .ok (.aload_n 0, 1) := by decide +kernel
theorem dX5_formula_11 : decode cX5_formula 11 = .ok (.invokevirtual 263, 3) := by decide +kernel
theorem dX5_formula_14 : decode cX5_formula 14 = .ok (.iconst 1, 1) := by decide +kernel
theorem dX5_formula_15 : decode cX5_formula 15 = .ok (.istore_n 1, 1) := by decide +kernel
theorem dX5_formula_16 : decode cX5_formula 16 = .ok (.iconst 0, 1) := by decide +kernel
theorem dX5_formula_17 : decode cX5_formula 17 = .ok (.istore_n 2, 1) := by decide +kernel
theorem dX5_formula_18 : decode cX5_formula 18 = .ok (.iload_n 2, 1) := by decide +kernel
theorem dX5_formula_19 : decode cX5_formula 19 = .ok (.sipush 900, 3) := by decide +kernel
theorem dX5_formula_22 : decode cX5_formula 22 = .ok (.if_icmp .gt 40, 3) := by decide +kernel
theorem dX5_formula_25 : decode cX5_formula 25 = .ok (.iload_n 1, 1) := by decide +kernel
theorem dX5_formula_26 : decode cX5_formula 26 = .ok (.ifCond .eq 36, 3) := by decide +kernel
theorem dX5_formula_29 : decode cX5_formula 29 = .ok (.aload_n 0, 1) := by decide +kernel
theorem dX5_formula_30 : decode cX5_formula 30 = .ok (.invokevirtual 266, 3) := by decide +kernel
theorem dX5_formula_33 : decode cX5_formula 33 = .ok (.ifCond .eq 21, 3) := by decide +kernel
theorem dX5_formula_36 : decode cX5_formula 36 = .ok (.aload_n 0, 1) := by decide +kernel
theorem dX5_formula_37 : decode cX5_formula 37 = .ok (.invokevirtual 269, 3) := by decide +kernel
theorem dX5_formula_40 : decode cX5_formula 40 = .ok (.ifCond .eq 14, 3) := by decide +kernel
theorem dX5_formula_43 : decode cX5_formula 43 = .ok (.aload_n 0, 1) := by decide +kernel
theorem dX5_formula_44 : decode cX5_formula 44 = .ok (.invokevirtual 272, 3) := by decide +kernel
theorem dX5_formula_47 : decode cX5_formula 47 = .ok (.ifCond .eq 7, 3) := by decide +kernel
theorem dX5_formula_50 : decode cX5_formula 50 = .ok (.iconst 1, 1) := by decide +kernel
theorem dX5_formula_51 : decode cX5_formula 51 = .ok (.goto 4, 3) := by decide +kernel
theorem dX5_formula_54 : decode cX5_formula 54 = .ok (.iconst 0, 1) := by decide +kernel
theorem dX5_formula_55 : decode cX5_formula 55 = .ok (.istore_n 1, 1) := by decide +kernel
theorem dX5_formula_56 : decode cX5_formula 56 = .ok (.iinc 2 1, 3) := by decide +kernel
theorem dX5_formula_59 : decode cX5_formula 59 = .ok (.goto (-41), 3) := by decide +kernel
theorem dX5_formula_62 : decode cX5_formula 62 = .ok (.aload_n 0, 1) := by decide +kernel
theorem dX5_formula_63 : decode cX5_formula 63 = .ok (.invokevirtual 275, 3) := by decide +kernel
theorem dX5_formula_66 : decode cX5_formula 66 = .ok (.lreturn, 1) := by decide +kernel
theorem dX5_isLevel_0 : decode cX5_isLevel 0 = .ok (.aload_n 0, 1) := by decide +kernel
theorem dX5_isLevel_1 : decode cX5_isLevel 1 = .ok (.getfield 257, 3) := by decide +kernel
theorem dX5_isLevel_4 : decode cX5_isLevel 4 = .ok (.ifCond .lt 16, 3) := by decide +kernel
theorem dX5_isLevel_7 : decode cX5_isLevel 7 = .ok (.aload_n 0, 1) := by decide +kernel
theorem dX5_isLevel_8 : decode cX5_isLevel 8 = .ok (.getfield 257, 3) := by decide +kernel
theorem dX5_isLevel_11 : decode cX5_isLevel 11 = .ok (.bipush 8, 2) := by decide +kernel
theorem dX5_isLevel_13 : decode cX5_isLevel 13 = .ok (.if_icmp .gt 7, 3) := by decide +kernel
theorem dX5_isLevel_16 : decode cX5_isLevel 16 = .ok (.iconst 1, 1) := by decide +kernel
theorem dX5_isLevel_17 : decode cX5_isLevel 17 = .ok (.goto 4, 3) := by decide +kernel
theorem dX5_isLevel_20 : decode cX5_isLevel 20 = .ok (.iconst 0, 1) := by decide +kernel
theorem dX5_isLevel_21 : decode cX5_isLevel 21 = .ok (.ireturn, 1) := by decide +kernel
theorem dX5_beginLevel_0 : decode cX5_beginLevel 0 = .ok (.aload_n 0, 1) := by decide +kernel
theorem dX5_beginLevel_1 : decode cX5_beginLevel 1 = .ok (.invokevirtual 278, 3) := by decide +kernel
theorem dX5_beginLevel_4 : decode cX5_beginLevel 4 = .ok (.ifCond .eq 35, 3) := by decide +kernel
theorem dX5_beginLevel_7 : decode cX5_beginLevel 7 = .ok (.aload_n 0, 1) := by decide +kernel
theorem dX5_beginLevel_8 : decode cX5_beginLevel 8 = .ok (.getfield 27, 3) := by decide +kernel
theorem dX5_beginLevel_11 : decode cX5_beginLevel 11 = .ok (.aload_n 0, 1) := by decide +kernel
theorem dX5_beginLevel_12 : decode cX5_beginLevel 12 = .ok (.getfield 257, 3) := by decide +kernel
theorem dX5_beginLevel_15 : decode cX5_beginLevel 15 = .ok (.lconst 0, 1) := by decide +kernel
theorem dX5_beginLevel_16 : decode cX5_beginLevel 16 = .ok (.lastore, 1) := by decide +kernel
theorem dX5_beginLevel_17 : decode cX5_beginLevel 17 = .ok (.aload_n 0, 1) := by decide +kernel
theorem dX5_beginLevel_18 : decode cX5_beginLevel 18 = .ok (.getfield 30, 3) := by decide +kernel
theorem dX5_beginLevel_21 : decode cX5_beginLevel 21 = .ok (.aload_n 0, 1) := by decide +kernel
theorem dX5_beginLevel_22 : decode cX5_beginLevel 22 = .ok (.getfield 257, 3) := by decide +kernel
theorem dX5_beginLevel_25 : decode cX5_beginLevel 25 = .ok (.ldc2_w 281, 3) := by decide +kernel
theorem dX5_beginLevel_28 : decode cX5_beginLevel 28 = .ok (.lastore, 1) := by decide +kernel
theorem dX5_beginLevel_29 : decode cX5_beginLevel 29 = .ok (.aload_n 0, 1) := by decide +kernel
theorem dX5_beginLevel_30 : decode cX5_beginLevel 30 = .ok (.getfield 33, 3) := by decide +kernel
theorem dX5_beginLevel_33 : decode cX5_beginLevel 33 = .ok (.aload_n 0, 1) := by decide +kernel
theorem dX5_beginLevel_34 : decode cX5_beginLevel 34 = .ok (.getfield 257, 3) := by decide +kernel
theorem dX5_beginLevel_37 : decode cX5_beginLevel 37 = .ok (.iconst 0, 1) := by decide +kernel
theorem dX5_beginLevel_38 : decode cX5_beginLevel 38 = .ok (.bastore, 1) := by decide +kernel
theorem dX5_beginLevel_39 : decode cX5_beginLevel 39 = .ok (.return_, 1) := by decide +kernel
theorem dX5_readOpening_0 : decode cX5_readOpening 0 = .ok (.iconst 0, 1) := by decide +kernel
theorem dX5_readOpening_1 : decode cX5_readOpening 1 = .ok (.istore_n 1, 1) := by decide +kernel
theorem dX5_readOpening_2 : decode cX5_readOpening 2 = .ok (.iload_n 1, 1) := by decide +kernel
theorem dX5_readOpening_3 : decode cX5_readOpening 3 = .ok (.sipush 900, 3) := by decide +kernel
theorem dX5_readOpening_6 : decode cX5_readOpening 6 = .ok (.if_icmp .gt 97, 3) := by decide +kernel
theorem dX5_readOpening_9 : decode cX5_readOpening 9 = .ok (.aload_n 0, 1) := by decide +kernel
theorem dX5_readOpening_10 : decode cX5_readOpening 10 = .ok (.getfield 37, 3) := by decide +kernel
theorem dX5_readOpening_13 : decode cX5_readOpening 13 = .ok (.getfield 94, 3) := by decide +kernel
theorem dX5_readOpening_16 : decode cX5_readOpening 16 = .ok (.bipush 40, 2) := by decide +kernel
theorem dX5_readOpening_18 : decode cX5_readOpening 18 = .ok (.if_icmp .eq 16, 3) := by decide +kernel
theorem dX5_readOpening_21 : decode cX5_readOpening 21 = .ok (.aload_n 0, 1) := by decide +kernel
theorem dX5_readOpening_22 : decode cX5_readOpening 22 = .ok (.getfield 37, 3) := by decide +kernel
theorem dX5_readOpening_25 : decode cX5_readOpening 25 = .ok (.getfield 94, 3) := by decide +kernel
theorem dX5_readOpening_28 : decode cX5_readOpening 28 = .ok (.sipush 268, 3) := by decide +kernel
theorem dX5_readOpening_31 : decode cX5_readOpening 31 = .ok (.if_icmp .ne 72, 3) := by decide +kernel
theorem dX5_readOpening_34 : decode cX5_readOpening 34 = .ok (.aload_n 0, 1) := by decide +kernel
theorem dX5_readOpening_35 : decode cX5_readOpening 35 = .ok (.getfield 37, 3) := by decide +kernel
theorem dX5_readOpening_38 : decode cX5_readOpening 38 = .ok (.getfield 94, 3) := by decide +kernel
theorem dX5_readOpening_41 : decode cX5_readOpening 41 = .ok (.sipush 268, 3) := by decide +kernel
theorem dX5_readOpening_44 : decode cX5_readOpening 44 = .ok (.if_icmp .ne 10, 3) := by decide +kernel
theorem dX5_readOpening_47 : decode cX5_readOpening 47 = .ok (.aload_n 0, 1) := by decide +kernel
theorem dX5_readOpening_48 : decode cX5_readOpening 48 = .ok (.invokevirtual 283, 3) := by decide +kernel
theorem dX5_readOpening_51 : decode cX5_readOpening 51 = .ok (.goto 39, 3) := by decide +kernel
theorem dX5_readOpening_54 : decode cX5_readOpening 54 = .ok (.aload_n 0, 1) := by decide +kernel
theorem dX5_readOpening_55 : decode cX5_readOpening 55 = .ok (.getfield 257, 3) := by decide +kernel
theorem dX5_readOpening_58 : decode cX5_readOpening 58 = .ok (.bipush 8, 2) := by decide +kernel
theorem dX5_readOpening_60 : decode cX5_readOpening 60 = .ok (.if_icmp .lt 16, 3) := by decide +kernel
theorem dX5_readOpening_63 : decode cX5_readOpening 63 = .ok (.aload_n 0, 1) := by decide +kernel
theorem dX5_readOpening_64 : decode cX5_readOpening 64 = .ok (.iconst 5, 1) := by decide +kernel
theorem dX5_readOpening_65 : decode cX5_readOpening 65 = .ok (.aload_n 0, 1) := by decide +kernel
theorem dX5_readOpening_66 : decode cX5_readOpening 66 = .ok (.getfield 37, 3) := by decide +kernel
theorem dX5_readOpening_69 : decode cX5_readOpening 69 = .ok (.getfield 84, 3) := by decide +kernel
theorem dX5_readOpening_72 : decode cX5_readOpening 72 = .ok (.invokevirtual 87, 3) := by decide +kernel
theorem dX5_readOpening_75 : decode cX5_readOpening 75 = .ok (.ireturn, 1) := by decide +kernel
theorem dX5_readOpening_76 : decode cX5_readOpening 76 = .ok (.aload_n 0, 1) := by decide +kernel
theorem dX5_readOpening_77 : decode cX5_readOpening 77 = .ok (.dup, 1) := by decide +kernel
theorem dX5_readOpening_78 : decode cX5_readOpening 78 = .ok (.getfield 257, 3) := by decide +kernel
theorem dX5_readOpening_81 : decode cX5_readOpening 81 = .ok (.iconst 1, 1) := by decide +kernel
theorem dX5_readOpening_82 : decode cX5_readOpening 82 = .ok (.iadd, 1) := by decide +kernel
theorem dX5_readOpening_83 : decode cX5_readOpening 83 = .ok (.putfield 257, 3) := by decide +kernel
theorem dX5_readOpening_86 : decode cX5_readOpening 86 = .ok (.aload_n 0, 1) := by decide +kernel
theorem dX5_readOpening_87 : decode cX5_readOpening 87 = .ok (.invokevirtual 263, 3) := by decide +kernel
theorem dX5_readOpening_90 : decode cX5_readOpening 90 = .ok (.aload_n 0, 1) := by decide +kernel
theorem dX5_readOpening_91 : decode cX5_readOpening 91 = .ok (.getfield 37, 3) := by decide +kernel
theorem dX5_readOpening_94 : decode cX5_readOpening 94 = .ok (.invokevirtual 97, 3) := by decide +kernel
theorem dX5_readOpening_97 : decode cX5_readOpening 97 = .ok (.iinc 1 1, 3) := by decide +kernel
theorem dX5_readOpening_100 : decode cX5_readOpening 100 = .ok (.goto (-98), 3) := by decide +kernel
theorem dX5_readOpening_103 : decode cX5_readOpening 103 = .ok (.iconst 1, 1) := by decide +kernel
theorem dX5_readOpening_104 : decode cX5_readOpening 104 = .ok (.ireturn, 1) := by decide +kernel
theorem dX5_readFactInFormula_0 : decode cX5_readFactInFormula 0 = .ok (.aload_n 0, 1) := by decide +kernel
theorem dX5_readFactInFormula_1 : decode cX5_readFactInFormula 1 = .ok (.getfield 37, 3) := by decide +kernel
theorem dX5_readFactInFormula_4 : decode cX5_readFactInFormula 4 = .ok (.getfield 84, 3) := by decide +kernel
theorem dX5_readFactInFormula_7 : decode cX5_readFactInFormula 7 = .ok (.istore_n 1, 1) := by decide +kernel
theorem dX5_readFactInFormula_8 : decode cX5_readFactInFormula 8 = .ok (.aload_n 0, 1) := by decide +kernel
theorem dX5_readFactInFormula_9 : decode cX5_readFactInFormula 9 = .ok (.iconst 1, 1) := by decide +kernel
theorem dX5_readFactInFormula_10 : decode cX5_readFactInFormula 10 = .ok (.invokevirtual 189, 3) := by decide +kernel
theorem dX5_readFactInFormula_13 : decode cX5_readFactInFormula 13 = .ok (.istore_n 2, 1) := by decide +kernel
theorem dX5_readFactInFormula_14 : decode cX5_readFactInFormula 14 = .ok (.iload_n 2, 1) := by decide +kernel
theorem dX5_readFactInFormula_15 : decode cX5_readFactInFormula 15 = .ok (.ifCond .lt 9, 3) := by decide +kernel
theorem dX5_readFactInFormula_18 : decode cX5_readFactInFormula 18 = .ok (.iload_n 2, 1) := by decide +kernel
theorem dX5_readFactInFormula_19 : decode cX5_readFactInFormula 19 = .ok (.bipush 6, 2) := by decide +kernel
theorem dX5_readFactInFormula_21 : decode cX5_readFactInFormula 21 = .ok (.if_icmp .lt 5, 3) := by decide +kernel
theorem dX5_readFactInFormula_24 : decode cX5_readFactInFormula 24 = .ok (.iconst 0, 1) := by decide +kernel
theorem dX5_readFactInFormula_25 : decode cX5_readFactInFormula 25 = .ok (.ireturn, 1) := by decide +kernel
theorem dX5_readFactInFormula_26 : decode cX5_readFactInFormula 26 = .ok (.aload_n 0, 1) := by decide +kernel
theorem dX5_readFactInFormula_27 : decode cX5_readFactInFormula 27 = .ok (.dup, 1) := by decide +kernel
theorem dX5_readFactInFormula_28 : decode cX5_readFactInFormula 28 = .ok (.getfield 260, 3) := by decide +kernel
theorem dX5_readFactInFormula_31 : decode cX5_readFactInFormula 31 = .ok (.iconst 1, 1) := by decide +kernel
theorem dX5_readFactInFormula_32 : decode cX5_readFactInFormula 32 = .ok (.iadd, 1) := by decide +kernel
theorem dX5_readFactInFormula_33 : decode cX5_readFactInFormula 33 = .ok (.putfield 260, 3) := by decide +kernel
theorem dX5_readFactInFormula_36 : decode cX5_readFactInFormula 36 = .ok (.aload_n 0, 1) := by decide +kernel
theorem dX5_readFactInFormula_37 : decode cX5_readFactInFormula 37 = .ok (.getfield 260, 3) := by decide +kernel
theorem dX5_readFactInFormula_40 : decode cX5_readFactInFormula 40 = .ok (.bipush 12, 2) := by decide +kernel
theorem dX5_readFactInFormula_42 : decode cX5_readFactInFormula 42 = .ok (.if_icmp .le 10, 3) := by decide +kernel
theorem dX5_readFactInFormula_45 : decode cX5_readFactInFormula 45 = .ok (.aload_n 0, 1) := by decide +kernel
theorem dX5_readFactInFormula_46 : decode cX5_readFactInFormula 46 = .ok (.iconst 5, 1) := by decide +kernel
theorem dX5_readFactInFormula_47 : decode cX5_readFactInFormula 47 = .ok (.iload_n 1, 1) := by decide +kernel
theorem dX5_readFactInFormula_48 : decode cX5_readFactInFormula 48 = .ok (.invokevirtual 87, 3) := by decide +kernel
theorem dX5_readFactInFormula_51 : decode cX5_readFactInFormula 51 = .ok (.ireturn, 1) := by decide +kernel
theorem dX5_readFactInFormula_52 : decode cX5_readFactInFormula 52 = .ok (.aload_n 0, 1) := by decide +kernel
theorem dX5_readFactInFormula_53 : decode cX5_readFactInFormula 53 = .ok (.getstatic 286, 3) := by decide +kernel
theorem dX5_readFactInFormula_56 : decode cX5_readFactInFormula 56 = .ok (.iload_n 2, 1) := by decide +kernel
theorem dX5_readFactInFormula_57 : decode cX5_readFactInFormula 57 = .ok (.laload, 1) := by decide +kernel
theorem dX5_readFactInFormula_58 : decode cX5_readFactInFormula 58 = .ok (.invokevirtual 289, 3) := by decide +kernel
theorem dX5_readFactInFormula_61 : decode cX5_readFactInFormula 61 = .ok (.iconst 1, 1) := by decide +kernel
theorem dX5_readFactInFormula_62 : decode cX5_readFactInFormula 62 = .ok (.ireturn, 1) := by decide +kernel
theorem dX5_turnNextFactor_0 : decode cX5_turnNextFactor 0 = .ok (.aload_n 0, 1) := by decide +kernel
theorem dX5_turnNextFactor_1 : decode cX5_turnNextFactor 1 = .ok (.invokevirtual 278, 3) := by decide +kernel
theorem dX5_turnNextFactor_4 : decode cX5_turnNextFactor 4 = .ok (.ifCond .eq 29, 3) := by decide +kernel
theorem dX5_turnNextFactor_7 : decode cX5_turnNextFactor 7 = .ok (.aload_n 0, 1) := by decide +kernel
theorem dX5_turnNextFactor_8 : decode cX5_turnNextFactor 8 = .ok (.getfield 33, 3) := by decide +kernel
theorem dX5_turnNextFactor_11 : decode cX5_turnNextFactor 11 = .ok (.aload_n 0, 1) := by decide +kernel
