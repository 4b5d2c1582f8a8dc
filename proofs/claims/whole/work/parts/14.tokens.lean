theorem dc_To_open_0 : decode cd_To_open 0 = .ok (.aload_n 0, 1) := by decide +kernel
theorem dc_To_open_1 : decode cd_To_open 1 = .ok (.aload_n 1, 1) := by decide +kernel
theorem dc_To_open_2 : decode cd_To_open 2 = .ok (.putfield 7, 3) := by decide +kernel
theorem dc_To_open_5 : decode cd_To_open 5 = .ok (.aload_n 0, 1) := by decide +kernel
theorem dc_To_open_6 : decode cd_To_open 6 = .ok (.iload_n 2, 1) := by decide +kernel
theorem dc_To_open_7 : decode cd_To_open 7 = .ok (.putfield 13, 3) := by decide +kernel
theorem dc_To_open_10 : decode cd_To_open 10 = .ok (.aload_n 0, 1) := by decide +kernel
theorem dc_To_open_11 : decode cd_To_open 11 = .ok (.iconst 0, 1) := by decide +kernel
theorem dc_To_open_12 : decode cd_To_open 12 = .ok (.putfield 17, 3) := by decide +kernel
theorem dc_To_open_15 : decode cd_To_open 15 = .ok (.return_, 1) := by decide +kernel
theorem dc_To_skipBlanks_0 : decode cd_To_skipBlanks 0 = .ok (.iconst 0, 1) := by decide +kernel
theorem dc_To_skipBlanks_1 : decode cd_To_skipBlanks 1 = .ok (.istore_n 1, 1) := by decide +kernel
theorem dc_To_skipBlanks_2 : decode cd_To_skipBlanks 2 = .ok (.aload_n 0, 1) := by decide +kernel
theorem dc_To_skipBlanks_3 : decode cd_To_skipBlanks 3 = .ok (.getfield 17, 3) := by decide +kernel
theorem dc_To_skipBlanks_6 : decode cd_To_skipBlanks 6 = .ok (.aload_n 0, 1) := by decide +kernel
theorem dc_To_skipBlanks_7 : decode cd_To_skipBlanks 7 = .ok (.getfield 13, 3) := by decide +kernel
theorem dc_To_skipBlanks_10 : decode cd_To_skipBlanks 10 = .ok (.if_icmp .ge 95, 3) := by decide +kernel
theorem dc_To_skipBlanks_13 : decode cd_To_skipBlanks 13 = .ok (.iload_n 1, 1) := by decide +kernel
theorem dc_To_skipBlanks_14 : decode cd_To_skipBlanks 14 = .ok (.ifCond .ne 32, 3) := by decide +kernel
theorem dc_To_skipBlanks_17 : decode cd_To_skipBlanks 17 = .ok (.aload_n 0, 1) := by decide +kernel
theorem dc_To_skipBlanks_18 : decode cd_To_skipBlanks 18 = .ok (.getfield 7, 3) := by decide +kernel
theorem dc_To_skipBlanks_21 : decode cd_To_skipBlanks 21 = .ok (.aload_n 0, 1) := by decide +kernel
theorem dc_To_skipBlanks_22 : decode cd_To_skipBlanks 22 = .ok (.getfield 17, 3) := by decide +kernel
theorem dc_To_skipBlanks_25 : decode cd_To_skipBlanks 25 = .ok (.baload, 1) := by decide +kernel
theorem dc_To_skipBlanks_26 : decode cd_To_skipBlanks 26 = .ok (.invokestatic 48, 3) := by decide +kernel
theorem dc_To_skipBlanks_29 : decode cd_To_skipBlanks 29 = .ok (.ifCond .ne 17, 3) := by decide +kernel
theorem dc_To_skipBlanks_32 : decode cd_To_skipBlanks 32 = .ok (.aload_n 0, 1) := by decide +kernel
theorem dc_To_skipBlanks_33 : decode cd_To_skipBlanks 33 = .ok (.getfield 7, 3) := by decide +kernel
theorem dc_To_skipBlanks_36 : decode cd_To_skipBlanks 36 = .ok (.aload_n 0, 1) := by decide +kernel
theorem dc_To_skipBlanks_37 : decode cd_To_skipBlanks 37 = .ok (.getfield 17, 3) := by decide +kernel
theorem dc_To_skipBlanks_40 : decode cd_To_skipBlanks 40 = .ok (.baload, 1) := by decide +kernel
theorem dc_To_skipBlanks_41 : decode cd_To_skipBlanks 41 = .ok (.bipush 37, 2) := by decide +kernel
theorem dc_To_skipBlanks_43 : decode cd_To_skipBlanks 43 = .ok (.if_icmp .ne 62, 3) := by decide +kernel
theorem dc_To_skipBlanks_46 : decode cd_To_skipBlanks 46 = .ok (.iload_n 1, 1) := by decide +kernel
theorem dc_To_skipBlanks_47 : decode cd_To_skipBlanks 47 = .ok (.ifCond .eq 25, 3) := by decide +kernel
theorem dc_To_skipBlanks_50 : decode cd_To_skipBlanks 50 = .ok (.aload_n 0, 1) := by decide +kernel
theorem dc_To_skipBlanks_51 : decode cd_To_skipBlanks 51 = .ok (.getfield 7, 3) := by decide +kernel
theorem dc_To_skipBlanks_54 : decode cd_To_skipBlanks 54 = .ok (.aload_n 0, 1) := by decide +kernel
theorem dc_To_skipBlanks_55 : decode cd_To_skipBlanks 55 = .ok (.getfield 17, 3) := by decide +kernel
theorem dc_To_skipBlanks_58 : decode cd_To_skipBlanks 58 = .ok (.baload, 1) := by decide +kernel
theorem dc_To_skipBlanks_59 : decode cd_To_skipBlanks 59 = .ok (.bipush 10, 2) := by decide +kernel
theorem dc_To_skipBlanks_61 : decode cd_To_skipBlanks 61 = .ok (.if_icmp .eq 7, 3) := by decide +kernel
theorem dc_To_skipBlanks_64 : decode cd_To_skipBlanks 64 = .ok (.iconst 1, 1) := by decide +kernel
theorem dc_To_skipBlanks_65 : decode cd_To_skipBlanks 65 = .ok (.goto 26, 3) := by decide +kernel
theorem dc_To_skipBlanks_68 : decode cd_To_skipBlanks 68 = .ok (.iconst 0, 1) := by decide +kernel
theorem dc_To_skipBlanks_69 : decode cd_To_skipBlanks 69 = .ok (.goto 22, 3) := by decide +kernel
theorem dc_To_skipBlanks_72 : decode cd_To_skipBlanks 72 = .ok (.aload_n 0, 1) := by decide +kernel
theorem dc_To_skipBlanks_73 : decode cd_To_skipBlanks 73 = .ok (.getfield 7, 3) := by decide +kernel
theorem dc_To_skipBlanks_76 : decode cd_To_skipBlanks 76 = .ok (.aload_n 0, 1) := by decide +kernel
theorem dc_To_skipBlanks_77 : decode cd_To_skipBlanks 77 = .ok (.getfield 17, 3) := by decide +kernel
theorem dc_To_skipBlanks_80 : decode cd_To_skipBlanks 80 = .ok (.baload, 1) := by decide +kernel
theorem dc_To_skipBlanks_81 : decode cd_To_skipBlanks 81 = .ok (.bipush 37, 2) := by decide +kernel
theorem dc_To_skipBlanks_83 : decode cd_To_skipBlanks 83 = .ok (.if_icmp .ne 7, 3) := by decide +kernel
theorem dc_To_skipBlanks_86 : decode cd_To_skipBlanks 86 = .ok (.iconst 1, 1) := by decide +kernel
theorem dc_To_skipBlanks_87 : decode cd_To_skipBlanks 87 = .ok (.goto 4, 3) := by decide +kernel
theorem dc_To_skipBlanks_90 : decode cd_To_skipBlanks 90 = .ok (.iconst 0, 1) := by decide +kernel
theorem dc_To_skipBlanks_91 : decode cd_To_skipBlanks 91 = .ok (.istore_n 1, 1) := by decide +kernel
theorem dc_To_skipBlanks_92 : decode cd_To_skipBlanks 92 = .ok (.aload_n 0, 1) := by decide +kernel
theorem dc_To_skipBlanks_93 : decode cd_To_skipBlanks 93 = .ok (.dup, 1) := by decide +kernel
theorem dc_To_skipBlanks_94 : decode cd_To_skipBlanks 94 = .ok (.getfield 17, 3) := by decide +kernel
theorem dc_To_skipBlanks_97 : decode cd_To_skipBlanks 97 = .ok (.iconst 1, 1) := by decide +kernel
theorem dc_To_skipBlanks_98 : decode cd_To_skipBlanks 98 = .ok (.iadd, 1) := by decide +kernel
theorem dc_To_skipBlanks_99 : decode cd_To_skipBlanks 99 = .ok (.putfield 17, 3) := by decide +kernel
theorem dc_To_skipBlanks_102 : decode cd_To_skipBlanks 102 = .ok (.goto (-100), 3) := by decide +kernel
theorem dc_To_skipBlanks_105 : decode cd_To_skipBlanks 105 = .ok (.return_, 1) := by decide +kernel
theorem dc_To_isNot_0 : decode cd_To_isNot 0 = .ok (.aload_n 0, 1) := by decide +kernel
theorem dc_To_isNot_1 : decode cd_To_isNot 1 = .ok (.getfield 17, 3) := by decide +kernel
theorem dc_To_isNot_4 : decode cd_To_isNot 4 = .ok (.aload_n 0, 1) := by decide +kernel
theorem dc_To_isNot_5 : decode cd_To_isNot 5 = .ok (.getfield 23, 3) := by decide +kernel
theorem dc_To_isNot_8 : decode cd_To_isNot 8 = .ok (.isub, 1) := by decide +kernel
theorem dc_To_isNot_9 : decode cd_To_isNot 9 = .ok (.iconst 3, 1) := by decide +kernel
theorem dc_To_isNot_10 : decode cd_To_isNot 10 = .ok (.if_icmp .ne 53, 3) := by decide +kernel
theorem dc_To_isNot_13 : decode cd_To_isNot 13 = .ok (.aload_n 0, 1) := by decide +kernel
theorem dc_To_isNot_14 : decode cd_To_isNot 14 = .ok (.getfield 7, 3) := by decide +kernel
theorem dc_To_isNot_17 : decode cd_To_isNot 17 = .ok (.aload_n 0, 1) := by decide +kernel
theorem dc_To_isNot_18 : decode cd_To_isNot 18 = .ok (.getfield 23, 3) := by decide +kernel
theorem dc_To_isNot_21 : decode cd_To_isNot 21 = .ok (.baload, 1) := by decide +kernel
theorem dc_To_isNot_22 : decode cd_To_isNot 22 = .ok (.bipush 110, 2) := by decide +kernel
theorem dc_To_isNot_24 : decode cd_To_isNot 24 = .ok (.if_icmp .ne 39, 3) := by decide +kernel
theorem dc_To_isNot_27 : decode cd_To_isNot 27 = .ok (.aload_n 0, 1) := by decide +kernel
theorem dc_To_isNot_28 : decode cd_To_isNot 28 = .ok (.getfield 7, 3) := by decide +kernel
theorem dc_To_isNot_31 : decode cd_To_isNot 31 = .ok (.aload_n 0, 1) := by decide +kernel
theorem dc_To_isNot_32 : decode cd_To_isNot 32 = .ok (.getfield 23, 3) := by decide +kernel
theorem dc_To_isNot_35 : decode cd_To_isNot 35 = .ok (.iconst 1, 1) := by decide +kernel
theorem dc_To_isNot_36 : decode cd_To_isNot 36 = .ok (.iadd, 1) := by decide +kernel
theorem dc_To_isNot_37 : decode cd_To_isNot 37 = .ok (.baload, 1) := by decide +kernel
theorem dc_To_isNot_38 : decode cd_To_isNot 38 = .ok (.bipush 111, 2) := by decide +kernel
theorem dc_To_isNot_40 : decode cd_To_isNot 40 = .ok (.if_icmp .ne 23, 3) := by decide +kernel
theorem dc_To_isNot_43 : decode cd_To_isNot 43 = .ok (.aload_n 0, 1) := by decide +kernel
theorem dc_To_isNot_44 : decode cd_To_isNot 44 = .ok (.getfield 7, 3) := by decide +kernel
theorem dc_To_isNot_47 : decode cd_To_isNot 47 = .ok (.aload_n 0, 1) := by decide +kernel
theorem dc_To_isNot_48 : decode cd_To_isNot 48 = .ok (.getfield 23, 3) := by decide +kernel
theorem dc_To_isNot_51 : decode cd_To_isNot 51 = .ok (.iconst 2, 1) := by decide +kernel
theorem dc_To_isNot_52 : decode cd_To_isNot 52 = .ok (.iadd, 1) := by decide +kernel
theorem dc_To_isNot_53 : decode cd_To_isNot 53 = .ok (.baload, 1) := by decide +kernel
theorem dc_To_isNot_54 : decode cd_To_isNot 54 = .ok (.bipush 116, 2) := by decide +kernel
theorem dc_To_isNot_56 : decode cd_To_isNot 56 = .ok (.if_icmp .ne 7, 3) := by decide +kernel
theorem dc_To_isNot_59 : decode cd_To_isNot 59 = .ok (.iconst 1, 1) := by decide +kernel
theorem dc_To_isNot_60 : decode cd_To_isNot 60 = .ok (.goto 4, 3) := by decide +kernel
theorem dc_To_isNot_63 : decode cd_To_isNot 63 = .ok (.iconst 0, 1) := by decide +kernel
theorem dc_To_isNot_64 : decode cd_To_isNot 64 = .ok (.ireturn, 1) := by decide +kernel
theorem dc_To_readWord_0 : decode cd_To_readWord 0 = .ok (.aload_n 0, 1) := by decide +kernel
theorem dc_To_readWord_1 : decode cd_To_readWord 1 = .ok (.getfield 7, 3) := by decide +kernel
theorem dc_To_readWord_4 : decode cd_To_readWord 4 = .ok (.aload_n 0, 1) := by decide +kernel
theorem dc_To_readWord_5 : decode cd_To_readWord 5 = .ok (.getfield 17, 3) := by decide +kernel
theorem dc_To_readWord_8 : decode cd_To_readWord 8 = .ok (.baload, 1) := by decide +kernel
theorem dc_To_readWord_9 : decode cd_To_readWord 9 = .ok (.invokestatic 51, 3) := by decide +kernel
theorem dc_To_readWord_12 : decode cd_To_readWord 12 = .ok (.istore_n 1, 1) := by decide +kernel
theorem dc_To_readWord_13 : decode cd_To_readWord 13 = .ok (.aload_n 0, 1) := by decide +kernel
theorem dc_To_readWord_14 : decode cd_To_readWord 14 = .ok (.getfield 17, 3) := by decide +kernel
theorem dc_To_readWord_17 : decode cd_To_readWord 17 = .ok (.aload_n 0, 1) := by decide +kernel
theorem dc_To_readWord_18 : decode cd_To_readWord 18 = .ok (.getfield 13, 3) := by decide +kernel
theorem dc_To_readWord_21 : decode cd_To_readWord 21 = .ok (.if_icmp .ge 31, 3) := by decide +kernel
theorem dc_To_readWord_24 : decode cd_To_readWord 24 = .ok (.aload_n 0, 1) := by decide +kernel
theorem dc_To_readWord_25 : decode cd_To_readWord 25 = .ok (.getfield 7, 3) := by decide +kernel
theorem dc_To_readWord_28 : decode cd_To_readWord 28 = .ok (.aload_n 0, 1) := by decide +kernel
theorem dc_To_readWord_29 : decode cd_To_readWord 29 = .ok (.getfield 17, 3) := by decide +kernel
theorem dc_To_readWord_32 : decode cd_To_readWord 32 = .ok (.baload, 1) := by decide +kernel
theorem dc_To_readWord_33 : decode cd_To_readWord 33 = .ok (.invokestatic 32, 3) := by decide +kernel
theorem dc_To_readWord_36 : decode cd_To_readWord 36 = .ok (.ifCond .eq 16, 3) := by decide +kernel
theorem dc_To_readWord_39 : decode cd_To_readWord 39 = .ok (.aload_n 0, 1) := by decide +kernel
theorem dc_To_readWord_40 : decode cd_To_readWord 40 = .ok (.dup, 1) := by decide +kernel
theorem dc_To_readWord_41 : decode cd_To_readWord 41 = .ok (.getfield 17, 3) := by decide +kernel
theorem dc_To_readWord_44 : decode cd_To_readWord 44 = .ok (.iconst 1, 1) := by decide +kernel
theorem dc_To_readWord_45 : decode cd_To_readWord 45 = .ok (.iadd, 1) := by decide +kernel
theorem dc_To_readWord_46 : decode cd_To_readWord 46 = .ok (.putfield 17, 3) := by decide +kernel
theorem dc_To_readWord_49 : decode cd_To_readWord 49 = .ok (.goto (-36), 3) := by decide +kernel
theorem dc_To_readWord_52 : decode cd_To_readWord 52 = .ok (.iload_n 1, 1) := by decide +kernel
theorem dc_To_readWord_53 : decode cd_To_readWord 53 = .ok (.ifCond .eq 22, 3) := by decide +kernel
theorem dc_To_readWord_56 : decode cd_To_readWord 56 = .ok (.aload_n 0, 1) := by decide +kernel
theorem dc_To_readWord_57 : decode cd_To_readWord 57 = .ok (.aload_n 0, 1) := by decide +kernel
theorem dc_To_readWord_58 : decode cd_To_readWord 58 = .ok (.invokevirtual 54, 3) := by decide +kernel
theorem dc_To_readWord_61 : decode cd_To_readWord 61 = .ok (.ifCond .eq 7, 3) := by decide +kernel
theorem dc_To_readWord_64 : decode cd_To_readWord 64 = .ok (.iconst 5, 1) := by decide +kernel
theorem dc_To_readWord_65 : decode cd_To_readWord 65 = .ok (.goto 4, 3) := by decide +kernel
theorem dc_To_readWord_68 : decode cd_To_readWord 68 = .ok (.iconst 2, 1) := by decide +kernel
theorem dc_To_readWord_69 : decode cd_To_readWord 69 = .ok (.putfield 29, 3) := by decide +kernel
theorem dc_To_readWord_72 : decode cd_To_readWord 72 = .ok (.goto 8, 3) := by decide +kernel
theorem dc_To_readWord_75 : decode cd_To_readWord 75 = .ok (.aload_n 0, 1) := by decide +kernel
theorem dc_To_readWord_76 : decode cd_To_readWord 76 = .ok (.iconst 3, 1) := by decide +kernel
theorem dc_To_readWord_77 : decode cd_To_readWord 77 = .ok (.putfield 29, 3) := by decide +kernel
theorem dc_To_readWord_80 : decode cd_To_readWord 80 = .ok (.return_, 1) := by decide +kernel
theorem dc_To_readNumber_0 : decode cd_To_readNumber 0 = .ok (.aload_n 0, 1) := by decide +kernel
theorem dc_To_readNumber_1 : decode cd_To_readNumber 1 = .ok (.getfield 7, 3) := by decide +kernel
theorem dc_To_readNumber_4 : decode cd_To_readNumber 4 = .ok (.aload_n 0, 1) := by decide +kernel
theorem dc_To_readNumber_5 : decode cd_To_readNumber 5 = .ok (.getfield 17, 3) := by decide +kernel
theorem dc_To_readNumber_8 : decode cd_To_readNumber 8 = .ok (.baload, 1) := by decide +kernel
theorem dc_To_readNumber_9 : decode cd_To_readNumber 9 = .ok (.bipush 45, 2) := by decide +kernel
theorem dc_To_readNumber_11 : decode cd_To_readNumber 11 = .ok (.if_icmp .ne 7, 3) := by decide +kernel
theorem dc_To_readNumber_14 : decode cd_To_readNumber 14 = .ok (.iconst 1, 1) := by decide +kernel
theorem dc_To_readNumber_15 : decode cd_To_readNumber 15 = .ok (.goto 4, 3) := by decide +kernel
theorem dc_To_readNumber_18 : decode cd_To_readNumber 18 = .ok (.iconst 0, 1) := by decide +kernel
theorem dc_To_readNumber_19 : decode cd_To_readNumber 19 = .ok (.istore_n 1, 1) := by decide +kernel
theorem dc_To_readNumber_20 : decode cd_To_readNumber 20 = .ok (.iload_n 1, 1) := by decide +kernel
theorem dc_To_readNumber_21 : decode cd_To_readNumber 21 = .ok (.ifCond .eq 13, 3) := by decide +kernel
theorem dc_To_readNumber_24 : decode cd_To_readNumber 24 = .ok (.aload_n 0, 1) := by decide +kernel
theorem dc_To_readNumber_25 : decode cd_To_readNumber 25 = .ok (.dup, 1) := by decide +kernel
theorem dc_To_readNumber_26 : decode cd_To_readNumber 26 = .ok (.getfield 17, 3) := by decide +kernel
theorem dc_To_readNumber_29 : decode cd_To_readNumber 29 = .ok (.iconst 1, 1) := by decide +kernel
theorem dc_To_readNumber_30 : decode cd_To_readNumber 30 = .ok (.iadd, 1) := by decide +kernel
theorem dc_To_readNumber_31 : decode cd_To_readNumber 31 = .ok (.putfield 17, 3) := by decide +kernel
theorem dc_To_readNumber_34 : decode cd_To_readNumber 34 = .ok (.aload_n 0, 1) := by decide +kernel
theorem dc_To_readNumber_35 : decode cd_To_readNumber 35 = .ok (.getfield 17, 3) := by decide +kernel
theorem dc_To_readNumber_38 : decode cd_To_readNumber 38 = .ok (.istore_n 2, 1) := by decide +kernel
theorem dc_To_readNumber_39 : decode cd_To_readNumber 39 = .ok (.lconst 0, 1) := by decide +kernel
theorem dc_To_readNumber_40 : decode cd_To_readNumber 40 = .ok (.lstore_n 3, 1) := by decide +kernel
theorem dc_To_readNumber_41 : decode cd_To_readNumber 41 = .ok (.aload_n 0, 1) := by decide +kernel
theorem dc_To_readNumber_42 : decode cd_To_readNumber 42 = .ok (.getfield 17, 3) := by decide +kernel
theorem dc_To_readNumber_45 : decode cd_To_readNumber 45 = .ok (.aload_n 0, 1) := by decide +kernel
theorem dc_To_readNumber_46 : decode cd_To_readNumber 46 = .ok (.getfield 13, 3) := by decide +kernel
theorem dc_To_readNumber_49 : decode cd_To_readNumber 49 = .ok (.if_icmp .ge 58, 3) := by decide +kernel
theorem dc_To_readNumber_52 : decode cd_To_readNumber 52 = .ok (.aload_n 0, 1) := by decide +kernel
theorem dc_To_readNumber_53 : decode cd_To_readNumber 53 = .ok (.getfield 7, 3) := by decide +kernel
theorem dc_To_readNumber_56 : decode cd_To_readNumber 56 = .ok (.aload_n 0, 1) := by decide +kernel
theorem dc_To_readNumber_57 : decode cd_To_readNumber 57 = .ok (.getfield 17, 3) := by decide +kernel
theorem dc_To_readNumber_60 : decode cd_To_readNumber 60 = .ok (.baload, 1) := by decide +kernel
theorem dc_To_readNumber_61 : decode cd_To_readNumber 61 = .ok (.invokestatic 36, 3) := by decide +kernel
theorem dc_To_readNumber_64 : decode cd_To_readNumber 64 = .ok (.ifCond .eq 43, 3) := by decide +kernel
theorem dc_To_readNumber_67 : decode cd_To_readNumber 67 = .ok (.lload_n 3, 1) := by decide +kernel
theorem dc_To_readNumber_68 : decode cd_To_readNumber 68 = .ok (.ldc2_w 58, 3) := by decide +kernel
theorem dc_To_readNumber_71 : decode cd_To_readNumber 71 = .ok (.lmul, 1) := by decide +kernel
theorem dc_To_readNumber_72 : decode cd_To_readNumber 72 = .ok (.aload_n 0, 1) := by decide +kernel
theorem dc_To_readNumber_73 : decode cd_To_readNumber 73 = .ok (.getfield 7, 3) := by decide +kernel
theorem dc_To_readNumber_76 : decode cd_To_readNumber 76 = .ok (.aload_n 0, 1) := by decide +kernel
theorem dc_To_readNumber_77 : decode cd_To_readNumber 77 = .ok (.getfield 17, 3) := by decide +kernel
theorem dc_To_readNumber_80 : decode cd_To_readNumber 80 = .ok (.baload, 1) := by decide +kernel
theorem dc_To_readNumber_81 : decode cd_To_readNumber 81 = .ok (.i2l, 1) := by decide +kernel
theorem dc_To_readNumber_82 : decode cd_To_readNumber 82 = .ok (.ladd, 1) := by decide +kernel
theorem dc_To_readNumber_83 : decode cd_To_readNumber 83 = .ok (.ldc2_w 60, 3) := by decide +kernel
theorem dc_To_readNumber_86 : decode cd_To_readNumber 86 = .ok (.lsub, 1) := by decide +kernel
theorem dc_To_readNumber_87 : decode cd_To_readNumber 87 = .ok (.ldc2_w 62, 3) := by decide +kernel
theorem dc_To_readNumber_90 : decode cd_To_readNumber 90 = .ok (.invokestatic 64, 3) := by decide +kernel
theorem dc_To_readNumber_93 : decode cd_To_readNumber 93 = .ok (.lstore_n 3, 1) := by decide +kernel
theorem dc_To_readNumber_94 : decode cd_To_readNumber 94 = .ok (.aload_n 0, 1) := by decide +kernel
theorem dc_To_readNumber_95 : decode cd_To_readNumber 95 = .ok (.dup, 1) := by decide +kernel
theorem dc_To_readNumber_96 : decode cd_To_readNumber 96 = .ok (.getfield 17, 3) := by decide +kernel
theorem dc_To_readNumber_99 : decode cd_To_readNumber 99 = .ok (.iconst 1, 1) := by decide +kernel
theorem dc_To_readNumber_100 : decode cd_To_readNumber 100 = .ok (.iadd, 1) := by decide +kernel
theorem dc_To_readNumber_101 : decode cd_To_readNumber 101 = .ok (.putfield 17, 3) := by decide +kernel
theorem dc_To_readNumber_104 : decode cd_To_readNumber 104 = .ok (.goto (-63), 3) := by decide +kernel
theorem dc_To_readNumber_107 : decode cd_To_readNumber 107 = .ok (.iload_n 1, 1) := by decide +kernel
theorem dc_To_readNumber_108 : decode cd_To_readNumber 108 = .ok (.ifCond .eq 8, 3) := by decide +kernel
theorem dc_To_readNumber_111 : decode cd_To_readNumber 111 = .ok (.lload_n 3, 1) := by decide +kernel
theorem dc_To_readNumber_112 : decode cd_To_readNumber 112 = .ok (.lneg, 1) := by decide +kernel
theorem dc_To_readNumber_113 : decode cd_To_readNumber 113 = .ok (.goto 4, 3) := by decide +kernel
theorem dc_To_readNumber_116 : decode cd_To_readNumber 116 = .ok (.lload_n 3, 1) := by decide +kernel
theorem dc_To_readNumber_117 : decode cd_To_readNumber 117 = .ok (.lstore_n 3, 1) := by decide +kernel
theorem dc_To_readNumber_118 : decode cd_To_readNumber 118 = .ok (.aload_n 0, 1) := by decide +kernel
theorem dc_To_readNumber_119 : decode cd_To_readNumber 119 = .ok (.aload_n 0, 1) := by decide +kernel
theorem dc_To_readNumber_120 : decode cd_To_readNumber 120 = .ok (.getfield 17, 3) := by decide +kernel
theorem dc_To_readNumber_123 : decode cd_To_readNumber 123 = .ok (.iload_n 2, 1) := by decide +kernel
theorem dc_To_readNumber_124 : decode cd_To_readNumber 124 = .ok (.if_icmp .le 23, 3) := by decide +kernel
theorem dc_To_readNumber_127 : decode cd_To_readNumber 127 = .ok (.lload_n 3, 1) := by decide +kernel
theorem dc_To_readNumber_128 : decode cd_To_readNumber 128 = .ok (.ldc2_w 70, 3) := by decide +kernel
theorem dc_To_readNumber_131 : decode cd_To_readNumber 131 = .ok (.lcmp, 1) := by decide +kernel
theorem dc_To_readNumber_132 : decode cd_To_readNumber 132 = .ok (.ifCond .lt 15, 3) := by decide +kernel
theorem dc_To_readNumber_135 : decode cd_To_readNumber 135 = .ok (.lload_n 3, 1) := by decide +kernel
theorem dc_To_readNumber_136 : decode cd_To_readNumber 136 = .ok (.ldc2_w 72, 3) := by decide +kernel
theorem dc_To_readNumber_139 : decode cd_To_readNumber 139 = .ok (.lcmp, 1) := by decide +kernel
theorem dc_To_readNumber_140 : decode cd_To_readNumber 140 = .ok (.ifCond .gt 7, 3) := by decide +kernel
theorem dc_To_readNumber_143 : decode cd_To_readNumber 143 = .ok (.iconst 4, 1) := by decide +kernel
theorem dc_To_readNumber_144 : decode cd_To_readNumber 144 = .ok (.goto 4, 3) := by decide +kernel
theorem dc_To_readNumber_147 : decode cd_To_readNumber 147 = .ok (.iconst 1, 1) := by decide +kernel
theorem dc_To_readNumber_148 : decode cd_To_readNumber 148 = .ok (.putfield 29, 3) := by decide +kernel
theorem dc_To_readNumber_151 : decode cd_To_readNumber 151 = .ok (.aload_n 0, 1) := by decide +kernel
theorem dc_To_readNumber_152 : decode cd_To_readNumber 152 = .ok (.lload_n 3, 1) := by decide +kernel
theorem dc_To_readNumber_153 : decode cd_To_readNumber 153 = .ok (.l2i, 1) := by decide +kernel
theorem dc_To_readNumber_154 : decode cd_To_readNumber 154 = .ok (.putfield 26, 3) := by decide +kernel
theorem dc_To_readNumber_157 : decode cd_To_readNumber 157 = .ok (.return_, 1) := by decide +kernel
theorem dc_To_takes_0 : decode cd_To_takes 0 = .ok (.aload_n 0, 1) := by decide +kernel
theorem dc_To_takes_1 : decode cd_To_takes 1 = .ok (.getfield 17, 3) := by decide +kernel
theorem dc_To_takes_4 : decode cd_To_takes 4 = .ok (.aload_n 0, 1) := by decide +kernel
theorem dc_To_takes_5 : decode cd_To_takes 5 = .ok (.getfield 13, 3) := by decide +kernel
theorem dc_To_takes_8 : decode cd_To_takes 8 = .ok (.if_icmp .ge 20, 3) := by decide +kernel
theorem dc_To_takes_11 : decode cd_To_takes 11 = .ok (.aload_n 0, 1) := by decide +kernel
theorem dc_To_takes_12 : decode cd_To_takes 12 = .ok (.getfield 7, 3) := by decide +kernel
theorem dc_To_takes_15 : decode cd_To_takes 15 = .ok (.aload_n 0, 1) := by decide +kernel
theorem dc_To_takes_16 : decode cd_To_takes 16 = .ok (.getfield 17, 3) := by decide +kernel
theorem dc_To_takes_19 : decode cd_To_takes 19 = .ok (.baload, 1) := by decide +kernel
theorem dc_To_takes_20 : decode cd_To_takes 20 = .ok (.iload_n 1, 1) := by decide +kernel
theorem dc_To_takes_21 : decode cd_To_takes 21 = .ok (.if_icmp .ne 7, 3) := by decide +kernel
theorem dc_To_takes_24 : decode cd_To_takes 24 = .ok (.iconst 1, 1) := by decide +kernel
theorem dc_To_takes_25 : decode cd_To_takes 25 = .ok (.goto 4, 3) := by decide +kernel
theorem dc_To_takes_28 : decode cd_To_takes 28 = .ok (.iconst 0, 1) := by decide +kernel
theorem dc_To_takes_29 : decode cd_To_takes 29 = .ok (.istore_n 2, 1) := by decide +kernel
theorem dc_To_takes_30 : decode cd_To_takes 30 = .ok (.iload_n 2, 1) := by decide +kernel
theorem dc_To_takes_31 : decode cd_To_takes 31 = .ok (.ifCond .eq 13, 3) := by decide +kernel
theorem dc_To_takes_34 : decode cd_To_takes 34 = .ok (.aload_n 0, 1) := by decide +kernel
theorem dc_To_takes_35 : decode cd_To_takes 35 = .ok (.dup, 1) := by decide +kernel
theorem dc_To_takes_36 : decode cd_To_takes 36 = .ok (.getfield 17, 3) := by decide +kernel
theorem dc_To_takes_39 : decode cd_To_takes 39 = .ok (.iconst 1, 1) := by decide +kernel
theorem dc_To_takes_40 : decode cd_To_takes 40 = .ok (.iadd, 1) := by decide +kernel
theorem dc_To_takes_41 : decode cd_To_takes 41 = .ok (.putfield 17, 3) := by decide +kernel
theorem dc_To_takes_44 : decode cd_To_takes 44 = .ok (.iload_n 2, 1) := by decide +kernel
theorem dc_To_takes_45 : decode cd_To_takes 45 = .ok (.ireturn, 1) := by decide +kernel
theorem dc_To_readSign_0 : decode cd_To_readSign 0 = .ok (.aload_n 0, 1) := by decide +kernel
theorem dc_To_readSign_1 : decode cd_To_readSign 1 = .ok (.getfield 7, 3) := by decide +kernel
theorem dc_To_readSign_4 : decode cd_To_readSign 4 = .ok (.aload_n 0, 1) := by decide +kernel
theorem dc_To_readSign_5 : decode cd_To_readSign 5 = .ok (.getfield 17, 3) := by decide +kernel
theorem dc_To_readSign_8 : decode cd_To_readSign 8 = .ok (.baload, 1) := by decide +kernel
theorem dc_To_readSign_9 : decode cd_To_readSign 9 = .ok (.istore_n 1, 1) := by decide +kernel
theorem dc_To_readSign_10 : decode cd_To_readSign 10 = .ok (.aload_n 0, 1) := by decide +kernel
theorem dc_To_readSign_11 : decode cd_To_readSign 11 = .ok (.dup, 1) := by decide +kernel
theorem dc_To_readSign_12 : decode cd_To_readSign 12 = .ok (.getfield 17, 3) := by decide +kernel
theorem dc_To_readSign_15 : decode cd_To_readSign 15 = .ok (.iconst 1, 1) := by decide +kernel
theorem dc_To_readSign_16 : decode cd_To_readSign 16 = .ok (.iadd, 1) := by decide +kernel
theorem dc_To_readSign_17 : decode cd_To_readSign 17 = .ok (.putfield 17, 3) := by decide +kernel
theorem dc_To_readSign_20 : decode cd_To_readSign 20 = .ok (.iload_n 1, 1) := by decide +kernel
theorem dc_To_readSign_21 : decode cd_To_readSign 21 = .ok (.tableswitch 270 33 62 #[202, 270, 270, 270, 270, 270, 270, 135, 144, 270, 270, 153, 270, 162, 270, 270, 270, 270, 270, 270, 270, 270, 270, 270, 270, 180, 270, 224, 171, 247], 135) := by decide +kernel
theorem dc_To_readSign_156 : decode cd_To_readSign 156 = .ok (.aload_n 0, 1) := by decide +kernel
theorem dc_To_readSign_157 : decode cd_To_readSign 157 = .ok (.bipush 6, 2) := by decide +kernel
theorem dc_To_readSign_159 : decode cd_To_readSign 159 = .ok (.putfield 29, 3) := by decide +kernel
theorem dc_To_readSign_162 : decode cd_To_readSign 162 = .ok (.goto 134, 3) := by decide +kernel
theorem dc_To_readSign_165 : decode cd_To_readSign 165 = .ok (.aload_n 0, 1) := by decide +kernel
theorem dc_To_readSign_166 : decode cd_To_readSign 166 = .ok (.bipush 7, 2) := by decide +kernel
theorem dc_To_readSign_168 : decode cd_To_readSign 168 = .ok (.putfield 29, 3) := by decide +kernel
theorem dc_To_readSign_171 : decode cd_To_readSign 171 = .ok (.goto 125, 3) := by decide +kernel
theorem dc_To_readSign_174 : decode cd_To_readSign 174 = .ok (.aload_n 0, 1) := by decide +kernel
theorem dc_To_readSign_175 : decode cd_To_readSign 175 = .ok (.bipush 8, 2) := by decide +kernel
theorem dc_To_readSign_177 : decode cd_To_readSign 177 = .ok (.putfield 29, 3) := by decide +kernel
theorem dc_To_readSign_180 : decode cd_To_readSign 180 = .ok (.goto 116, 3) := by decide +kernel
theorem dc_To_readSign_183 : decode cd_To_readSign 183 = .ok (.aload_n 0, 1) := by decide +kernel
theorem dc_To_readSign_184 : decode cd_To_readSign 184 = .ok (.bipush 9, 2) := by decide +kernel
theorem dc_To_readSign_186 : decode cd_To_readSign 186 = .ok (.putfield 29, 3) := by decide +kernel
theorem dc_To_readSign_189 : decode cd_To_readSign 189 = .ok (.goto 107, 3) := by decide +kernel
theorem dc_To_readSign_192 : decode cd_To_readSign 192 = .ok (.aload_n 0, 1) := by decide +kernel
theorem dc_To_readSign_193 : decode cd_To_readSign 193 = .ok (.bipush 11, 2) := by decide +kernel
theorem dc_To_readSign_195 : decode cd_To_readSign 195 = .ok (.putfield 29, 3) := by decide +kernel
theorem dc_To_readSign_198 : decode cd_To_readSign 198 = .ok (.goto 98, 3) := by decide +kernel
theorem dc_To_readSign_201 : decode cd_To_readSign 201 = .ok (.aload_n 0, 1) := by decide +kernel
theorem dc_To_readSign_202 : decode cd_To_readSign 202 = .ok (.aload_n 0, 1) := by decide +kernel
theorem dc_To_readSign_203 : decode cd_To_readSign 203 = .ok (.bipush 45, 2) := by decide +kernel
theorem dc_To_readSign_205 : decode cd_To_readSign 205 = .ok (.invokevirtual 74, 3) := by decide +kernel
theorem dc_To_readSign_208 : decode cd_To_readSign 208 = .ok (.ifCond .eq 8, 3) := by decide +kernel
theorem dc_To_readSign_211 : decode cd_To_readSign 211 = .ok (.bipush 10, 2) := by decide +kernel
theorem dc_To_readSign_213 : decode cd_To_readSign 213 = .ok (.goto 4, 3) := by decide +kernel
theorem dc_To_readSign_216 : decode cd_To_readSign 216 = .ok (.iconst 1, 1) := by decide +kernel
theorem dc_To_readSign_217 : decode cd_To_readSign 217 = .ok (.putfield 29, 3) := by decide +kernel
theorem dc_To_readSign_220 : decode cd_To_readSign 220 = .ok (.goto 76, 3) := by decide +kernel
theorem dc_To_readSign_223 : decode cd_To_readSign 223 = .ok (.aload_n 0, 1) := by decide +kernel
theorem dc_To_readSign_224 : decode cd_To_readSign 224 = .ok (.aload_n 0, 1) := by decide +kernel
theorem dc_To_readSign_225 : decode cd_To_readSign 225 = .ok (.bipush 61, 2) := by decide +kernel
theorem dc_To_readSign_227 : decode cd_To_readSign 227 = .ok (.invokevirtual 74, 3) := by decide +kernel
theorem dc_To_readSign_230 : decode cd_To_readSign 230 = .ok (.ifCond .eq 8, 3) := by decide +kernel
theorem dc_To_readSign_233 : decode cd_To_readSign 233 = .ok (.bipush 12, 2) := by decide +kernel
theorem dc_To_readSign_235 : decode cd_To_readSign 235 = .ok (.goto 4, 3) := by decide +kernel
theorem dc_To_readSign_238 : decode cd_To_readSign 238 = .ok (.iconst 1, 1) := by decide +kernel
theorem dc_To_readSign_239 : decode cd_To_readSign 239 = .ok (.putfield 29, 3) := by decide +kernel
theorem dc_To_readSign_242 : decode cd_To_readSign 242 = .ok (.goto 54, 3) := by decide +kernel
theorem dc_To_readSign_245 : decode cd_To_readSign 245 = .ok (.aload_n 0, 1) := by decide +kernel
theorem dc_To_readSign_246 : decode cd_To_readSign 246 = .ok (.aload_n 0, 1) := by decide +kernel
theorem dc_To_readSign_247 : decode cd_To_readSign 247 = .ok (.bipush 61, 2) := by decide +kernel
theorem dc_To_readSign_249 : decode cd_To_readSign 249 = .ok (.invokevirtual 74, 3) := by decide +kernel
theorem dc_To_readSign_252 : decode cd_To_readSign 252 = .ok (.ifCond .eq 8, 3) := by decide +kernel
theorem dc_To_readSign_255 : decode cd_To_readSign 255 = .ok (.bipush 14, 2) := by decide +kernel
theorem dc_To_readSign_257 : decode cd_To_readSign 257 = .ok (.goto 5, 3) := by decide +kernel
theorem dc_To_readSign_260 : decode cd_To_readSign 260 = .ok (.bipush 13, 2) := by decide +kernel
theorem dc_To_readSign_262 : decode cd_To_readSign 262 = .ok (.putfield 29, 3) := by decide +kernel
theorem dc_To_readSign_265 : decode cd_To_readSign 265 = .ok (.goto 31, 3) := by decide +kernel
theorem dc_To_readSign_268 : decode cd_To_readSign 268 = .ok (.aload_n 0, 1) := by decide +kernel
theorem dc_To_readSign_269 : decode cd_To_readSign 269 = .ok (.aload_n 0, 1) := by decide +kernel
theorem dc_To_readSign_270 : decode cd_To_readSign 270 = .ok (.bipush 61, 2) := by decide +kernel
theorem dc_To_readSign_272 : decode cd_To_readSign 272 = .ok (.invokevirtual 74, 3) := by decide +kernel
theorem dc_To_readSign_275 : decode cd_To_readSign 275 = .ok (.ifCond .eq 8, 3) := by decide +kernel
theorem dc_To_readSign_278 : decode cd_To_readSign 278 = .ok (.bipush 16, 2) := by decide +kernel
theorem dc_To_readSign_280 : decode cd_To_readSign 280 = .ok (.goto 5, 3) := by decide +kernel
theorem dc_To_readSign_283 : decode cd_To_readSign 283 = .ok (.bipush 15, 2) := by decide +kernel
theorem dc_To_readSign_285 : decode cd_To_readSign 285 = .ok (.putfield 29, 3) := by decide +kernel
theorem dc_To_readSign_288 : decode cd_To_readSign 288 = .ok (.goto 8, 3) := by decide +kernel
theorem dc_To_readSign_291 : decode cd_To_readSign 291 = .ok (.aload_n 0, 1) := by decide +kernel
theorem dc_To_readSign_292 : decode cd_To_readSign 292 = .ok (.iconst 1, 1) := by decide +kernel
theorem dc_To_readSign_293 : decode cd_To_readSign 293 = .ok (.putfield 29, 3) := by decide +kernel
theorem dc_To_readSign_296 : decode cd_To_readSign 296 = .ok (.return_, 1) := by decide +kernel
theorem dc_To_next_0 : decode cd_To_next 0 = .ok (.aload_n 0, 1) := by decide +kernel
theorem dc_To_next_1 : decode cd_To_next 1 = .ok (.invokevirtual 20, 3) := by decide +kernel
theorem dc_To_next_4 : decode cd_To_next 4 = .ok (.aload_n 0, 1) := by decide +kernel
theorem dc_To_next_5 : decode cd_To_next 5 = .ok (.aload_n 0, 1) := by decide +kernel
theorem dc_To_next_6 : decode cd_To_next 6 = .ok (.getfield 17, 3) := by decide +kernel
theorem dc_To_next_9 : decode cd_To_next 9 = .ok (.putfield 23, 3) := by decide +kernel
theorem dc_To_next_12 : decode cd_To_next 12 = .ok (.aload_n 0, 1) := by decide +kernel
theorem dc_To_next_13 : decode cd_To_next 13 = .ok (.iconst 0, 1) := by decide +kernel
theorem dc_To_next_14 : decode cd_To_next 14 = .ok (.putfield 26, 3) := by decide +kernel
theorem dc_To_next_17 : decode cd_To_next 17 = .ok (.aload_n 0, 1) := by decide +kernel
theorem dc_To_next_18 : decode cd_To_next 18 = .ok (.getfield 17, 3) := by decide +kernel
theorem dc_To_next_21 : decode cd_To_next 21 = .ok (.aload_n 0, 1) := by decide +kernel
theorem dc_To_next_22 : decode cd_To_next 22 = .ok (.getfield 13, 3) := by decide +kernel
theorem dc_To_next_25 : decode cd_To_next 25 = .ok (.if_icmp .lt 11, 3) := by decide +kernel
theorem dc_To_next_28 : decode cd_To_next 28 = .ok (.aload_n 0, 1) := by decide +kernel
theorem dc_To_next_29 : decode cd_To_next 29 = .ok (.iconst 0, 1) := by decide +kernel
theorem dc_To_next_30 : decode cd_To_next 30 = .ok (.putfield 29, 3) := by decide +kernel
theorem dc_To_next_33 : decode cd_To_next 33 = .ok (.goto 80, 3) := by decide +kernel
theorem dc_To_next_36 : decode cd_To_next 36 = .ok (.aload_n 0, 1) := by decide +kernel
theorem dc_To_next_37 : decode cd_To_next 37 = .ok (.getfield 7, 3) := by decide +kernel
theorem dc_To_next_40 : decode cd_To_next 40 = .ok (.aload_n 0, 1) := by decide +kernel
theorem dc_To_next_41 : decode cd_To_next 41 = .ok (.getfield 17, 3) := by decide +kernel
theorem dc_To_next_44 : decode cd_To_next 44 = .ok (.baload, 1) := by decide +kernel
theorem dc_To_next_45 : decode cd_To_next 45 = .ok (.invokestatic 32, 3) := by decide +kernel
theorem dc_To_next_48 : decode cd_To_next 48 = .ok (.ifCond .eq 25, 3) := by decide +kernel
theorem dc_To_next_51 : decode cd_To_next 51 = .ok (.aload_n 0, 1) := by decide +kernel
theorem dc_To_next_52 : decode cd_To_next 52 = .ok (.getfield 7, 3) := by decide +kernel
theorem dc_To_next_55 : decode cd_To_next 55 = .ok (.aload_n 0, 1) := by decide +kernel
theorem dc_To_next_56 : decode cd_To_next 56 = .ok (.getfield 17, 3) := by decide +kernel
theorem dc_To_next_59 : decode cd_To_next 59 = .ok (.baload, 1) := by decide +kernel
theorem dc_To_next_60 : decode cd_To_next 60 = .ok (.invokestatic 36, 3) := by decide +kernel
theorem dc_To_next_63 : decode cd_To_next 63 = .ok (.ifCond .ne 10, 3) := by decide +kernel
theorem dc_To_next_66 : decode cd_To_next 66 = .ok (.aload_n 0, 1) := by decide +kernel
theorem dc_To_next_67 : decode cd_To_next 67 = .ok (.invokevirtual 39, 3) := by decide +kernel
theorem dc_To_next_70 : decode cd_To_next 70 = .ok (.goto 43, 3) := by decide +kernel
theorem dc_To_next_73 : decode cd_To_next 73 = .ok (.aload_n 0, 1) := by decide +kernel
theorem dc_To_next_74 : decode cd_To_next 74 = .ok (.getfield 7, 3) := by decide +kernel
theorem dc_To_next_77 : decode cd_To_next 77 = .ok (.aload_n 0, 1) := by decide +kernel
theorem dc_To_next_78 : decode cd_To_next 78 = .ok (.getfield 17, 3) := by decide +kernel
theorem dc_To_next_81 : decode cd_To_next 81 = .ok (.baload, 1) := by decide +kernel
theorem dc_To_next_82 : decode cd_To_next 82 = .ok (.invokestatic 36, 3) := by decide +kernel
theorem dc_To_next_85 : decode cd_To_next 85 = .ok (.ifCond .ne 17, 3) := by decide +kernel
theorem dc_To_next_88 : decode cd_To_next 88 = .ok (.aload_n 0, 1) := by decide +kernel
theorem dc_To_next_89 : decode cd_To_next 89 = .ok (.getfield 7, 3) := by decide +kernel
theorem dc_To_next_92 : decode cd_To_next 92 = .ok (.aload_n 0, 1) := by decide +kernel
theorem dc_To_next_93 : decode cd_To_next 93 = .ok (.getfield 17, 3) := by decide +kernel
theorem dc_To_next_96 : decode cd_To_next 96 = .ok (.baload, 1) := by decide +kernel
theorem dc_To_next_97 : decode cd_To_next 97 = .ok (.bipush 45, 2) := by decide +kernel
theorem dc_To_next_99 : decode cd_To_next 99 = .ok (.if_icmp .ne 10, 3) := by decide +kernel
theorem dc_To_next_102 : decode cd_To_next 102 = .ok (.aload_n 0, 1) := by decide +kernel
theorem dc_To_next_103 : decode cd_To_next 103 = .ok (.invokevirtual 42, 3) := by decide +kernel
theorem dc_To_next_106 : decode cd_To_next 106 = .ok (.goto 7, 3) := by decide +kernel
theorem dc_To_next_109 : decode cd_To_next 109 = .ok (.aload_n 0, 1) := by decide +kernel
theorem dc_To_next_110 : decode cd_To_next 110 = .ok (.invokevirtual 45, 3) := by decide +kernel
theorem dc_To_next_113 : decode cd_To_next 113 = .ok (.return_, 1) := by decide +kernel
theorem dc_To_isComparison_0 : decode cd_To_isComparison 0 = .ok (.aload_n 0, 1) := by decide +kernel
theorem dc_To_isComparison_1 : decode cd_To_isComparison 1 = .ok (.getfield 29, 3) := by decide +kernel
theorem dc_To_isComparison_4 : decode cd_To_isComparison 4 = .ok (.bipush 11, 2) := by decide +kernel
theorem dc_To_isComparison_6 : decode cd_To_isComparison 6 = .ok (.if_icmp .lt 7, 3) := by decide +kernel
theorem dc_To_isComparison_9 : decode cd_To_isComparison 9 = .ok (.iconst 1, 1) := by decide +kernel
theorem dc_To_isComparison_10 : decode cd_To_isComparison 10 = .ok (.goto 4, 3) := by decide +kernel
theorem dc_To_isComparison_13 : decode cd_To_isComparison 13 = .ok (.iconst 0, 1) := by decide +kernel
theorem dc_To_isComparison_14 : decode cd_To_isComparison 14 = .ok (.ireturn, 1) := by decide +kernel
theorem dc_To_isConstant_0 : decode cd_To_isConstant 0 = .ok (.aload_n 0, 1) := by decide +kernel
theorem dc_To_isConstant_1 : decode cd_To_isConstant 1 = .ok (.getfield 29, 3) := by decide +kernel
theorem dc_To_isConstant_4 : decode cd_To_isConstant 4 = .ok (.iconst 2, 1) := by decide +kernel
theorem dc_To_isConstant_5 : decode cd_To_isConstant 5 = .ok (.if_icmp .eq 11, 3) := by decide +kernel
theorem dc_To_isConstant_8 : decode cd_To_isConstant 8 = .ok (.aload_n 0, 1) := by decide +kernel
theorem dc_To_isConstant_9 : decode cd_To_isConstant 9 = .ok (.getfield 29, 3) := by decide +kernel
theorem dc_To_isConstant_12 : decode cd_To_isConstant 12 = .ok (.iconst 4, 1) := by decide +kernel
theorem dc_To_isConstant_13 : decode cd_To_isConstant 13 = .ok (.if_icmp .ne 7, 3) := by decide +kernel
theorem dc_To_isConstant_16 : decode cd_To_isConstant 16 = .ok (.iconst 1, 1) := by decide +kernel
theorem dc_To_isConstant_17 : decode cd_To_isConstant 17 = .ok (.goto 4, 3) := by decide +kernel
theorem dc_To_isConstant_20 : decode cd_To_isConstant 20 = .ok (.iconst 0, 1) := by decide +kernel
theorem dc_To_isConstant_21 : decode cd_To_isConstant 21 = .ok (.ireturn, 1) := by decide +kernel
theorem dc_To_nameLength_0 : decode cd_To_nameLength 0 = .ok (.aload_n 0, 1) := by decide +kernel
theorem dc_To_nameLength_1 : decode cd_To_nameLength 1 = .ok (.getfield 29, 3) := by decide +kernel
theorem dc_To_nameLength_4 : decode cd_To_nameLength 4 = .ok (.iconst 4, 1) := by decide +kernel
theorem dc_To_nameLength_5 : decode cd_To_nameLength 5 = .ok (.if_icmp .ne 7, 3) := by decide +kernel
theorem dc_To_nameLength_8 : decode cd_To_nameLength 8 = .ok (.iconst 0, 1) := by decide +kernel
theorem dc_To_nameLength_9 : decode cd_To_nameLength 9 = .ok (.goto 12, 3) := by decide +kernel
theorem dc_To_nameLength_12 : decode cd_To_nameLength 12 = .ok (.aload_n 0, 1) := by decide +kernel
theorem dc_To_nameLength_13 : decode cd_To_nameLength 13 = .ok (.getfield 17, 3) := by decide +kernel
theorem dc_To_nameLength_16 : decode cd_To_nameLength 16 = .ok (.aload_n 0, 1) := by decide +kernel
theorem dc_To_nameLength_17 : decode cd_To_nameLength 17 = .ok (.getfield 23, 3) := by decide +kernel
theorem dc_To_nameLength_20 : decode cd_To_nameLength 20 = .ok (.isub, 1) := by decide +kernel
theorem dc_To_nameLength_21 : decode cd_To_nameLength 21 = .ok (.ireturn, 1) := by decide +kernel
theorem dc_Na_add_0 : decode cd_Na_add 0 = .ok (.aload_n 0, 1) := by decide +kernel
theorem dc_Na_add_1 : decode cd_Na_add 1 = .ok (.getfield 22, 3) := by decide +kernel
theorem dc_Na_add_4 : decode cd_Na_add 4 = .ok (.aload_n 0, 1) := by decide +kernel
theorem dc_Na_add_5 : decode cd_Na_add 5 = .ok (.getfield 9, 3) := by decide +kernel
theorem dc_Na_add_8 : decode cd_Na_add 8 = .ok (.arraylength, 1) := by decide +kernel
theorem dc_Na_add_9 : decode cd_Na_add 9 = .ok (.if_icmp .lt 5, 3) := by decide +kernel
theorem dc_Na_add_12 : decode cd_Na_add 12 = .ok (.iconst (-1), 1) := by decide +kernel
theorem dc_Na_add_13 : decode cd_Na_add 13 = .ok (.ireturn, 1) := by decide +kernel
theorem dc_Na_add_14 : decode cd_Na_add 14 = .ok (.aload_n 0, 1) := by decide +kernel
theorem dc_Na_add_15 : decode cd_Na_add 15 = .ok (.getfield 26, 3) := by decide +kernel
theorem dc_Na_add_18 : decode cd_Na_add 18 = .ok (.iload_n 3, 1) := by decide +kernel
theorem dc_Na_add_19 : decode cd_Na_add 19 = .ok (.iadd, 1) := by decide +kernel
theorem dc_Na_add_20 : decode cd_Na_add 20 = .ok (.aload_n 0, 1) := by decide +kernel
theorem dc_Na_add_21 : decode cd_Na_add 21 = .ok (.getfield 18, 3) := by decide +kernel
theorem dc_Na_add_24 : decode cd_Na_add 24 = .ok (.arraylength, 1) := by decide +kernel
theorem dc_Na_add_25 : decode cd_Na_add 25 = .ok (.if_icmp .le 30, 3) := by decide +kernel
theorem dc_Na_add_28 : decode cd_Na_add 28 = .ok (.aload_n 0, 1) := by decide +kernel
theorem dc_Na_add_29 : decode cd_Na_add 29 = .ok (.aload_n 0, 1) := by decide +kernel
theorem dc_Na_add_30 : decode cd_Na_add 30 = .ok (.getfield 18, 3) := by decide +kernel
theorem dc_Na_add_33 : decode cd_Na_add 33 = .ok (.aload_n 0, 1) := by decide +kernel
theorem dc_Na_add_34 : decode cd_Na_add 34 = .ok (.getfield 26, 3) := by decide +kernel
theorem dc_Na_add_37 : decode cd_Na_add 37 = .ok (.iload_n 3, 1) := by decide +kernel
theorem dc_Na_add_38 : decode cd_Na_add 38 = .ok (.iadd, 1) := by decide +kernel
theorem dc_Na_add_39 : decode cd_Na_add 39 = .ok (.iconst 2, 1) := by decide +kernel
theorem dc_Na_add_40 : decode cd_Na_add 40 = .ok (.aload_n 0, 1) := by decide +kernel
theorem dc_Na_add_41 : decode cd_Na_add 41 = .ok (.getfield 18, 3) := by decide +kernel
theorem dc_Na_add_44 : decode cd_Na_add 44 = .ok (.arraylength, 1) := by decide +kernel
theorem dc_Na_add_45 : decode cd_Na_add 45 = .ok (.imul, 1) := by decide +kernel
theorem dc_Na_add_46 : decode cd_Na_add 46 = .ok (.invokestatic 33, 3) := by decide +kernel
theorem dc_Na_add_49 : decode cd_Na_add 49 = .ok (.invokestatic 39, 3) := by decide +kernel
theorem dc_Na_add_52 : decode cd_Na_add 52 = .ok (.putfield 18, 3) := by decide +kernel
theorem dc_Na_add_55 : decode cd_Na_add 55 = .ok (.aload_n 1, 1) := by decide +kernel
theorem dc_Na_add_56 : decode cd_Na_add 56 = .ok (.iload_n 2, 1) := by decide +kernel
theorem dc_Na_add_57 : decode cd_Na_add 57 = .ok (.aload_n 0, 1) := by decide +kernel
theorem dc_Na_add_58 : decode cd_Na_add 58 = .ok (.getfield 18, 3) := by decide +kernel
theorem dc_Na_add_61 : decode cd_Na_add 61 = .ok (.aload_n 0, 1) := by decide +kernel
theorem dc_Na_add_62 : decode cd_Na_add 62 = .ok (.getfield 26, 3) := by decide +kernel
theorem dc_Na_add_65 : decode cd_Na_add 65 = .ok (.iload_n 3, 1) := by decide +kernel
theorem dc_Na_add_66 : decode cd_Na_add 66 = .ok (.invokestatic 45, 3) := by decide +kernel
theorem dc_Na_add_69 : decode cd_Na_add 69 = .ok (.aload_n 0, 1) := by decide +kernel
theorem dc_Na_add_70 : decode cd_Na_add 70 = .ok (.getfield 9, 3) := by decide +kernel
theorem dc_Na_add_73 : decode cd_Na_add 73 = .ok (.aload_n 0, 1) := by decide +kernel
theorem dc_Na_add_74 : decode cd_Na_add 74 = .ok (.getfield 22, 3) := by decide +kernel
theorem dc_Na_add_77 : decode cd_Na_add 77 = .ok (.aload_n 0, 1) := by decide +kernel
theorem dc_Na_add_78 : decode cd_Na_add 78 = .ok (.getfield 26, 3) := by decide +kernel
theorem dc_Na_add_81 : decode cd_Na_add 81 = .ok (.iastore, 1) := by decide +kernel
theorem dc_Na_add_82 : decode cd_Na_add 82 = .ok (.aload_n 0, 1) := by decide +kernel
theorem dc_Na_add_83 : decode cd_Na_add 83 = .ok (.getfield 15, 3) := by decide +kernel
theorem dc_Na_add_86 : decode cd_Na_add 86 = .ok (.aload_n 0, 1) := by decide +kernel
theorem dc_Na_add_87 : decode cd_Na_add 87 = .ok (.getfield 22, 3) := by decide +kernel
theorem dc_Na_add_90 : decode cd_Na_add 90 = .ok (.iload_n 3, 1) := by decide +kernel
theorem dc_Na_add_91 : decode cd_Na_add 91 = .ok (.iastore, 1) := by decide +kernel
theorem dc_Na_add_92 : decode cd_Na_add 92 = .ok (.aload_n 0, 1) := by decide +kernel
theorem dc_Na_add_93 : decode cd_Na_add 93 = .ok (.dup, 1) := by decide +kernel
theorem dc_Na_add_94 : decode cd_Na_add 94 = .ok (.getfield 26, 3) := by decide +kernel
theorem dc_Na_add_97 : decode cd_Na_add 97 = .ok (.iload_n 3, 1) := by decide +kernel
theorem dc_Na_add_98 : decode cd_Na_add 98 = .ok (.iadd, 1) := by decide +kernel
theorem dc_Na_add_99 : decode cd_Na_add 99 = .ok (.putfield 26, 3) := by decide +kernel
theorem dc_Na_add_102 : decode cd_Na_add 102 = .ok (.aload_n 0, 1) := by decide +kernel
theorem dc_Na_add_103 : decode cd_Na_add 103 = .ok (.dup, 1) := by decide +kernel
theorem dc_Na_add_104 : decode cd_Na_add 104 = .ok (.getfield 22, 3) := by decide +kernel
theorem dc_Na_add_107 : decode cd_Na_add 107 = .ok (.iconst 1, 1) := by decide +kernel
theorem dc_Na_add_108 : decode cd_Na_add 108 = .ok (.iadd, 1) := by decide +kernel
theorem dc_Na_add_109 : decode cd_Na_add 109 = .ok (.putfield 22, 3) := by decide +kernel
theorem dc_Na_add_112 : decode cd_Na_add 112 = .ok (.aload_n 0, 1) := by decide +kernel
theorem dc_Na_add_113 : decode cd_Na_add 113 = .ok (.getfield 22, 3) := by decide +kernel
theorem dc_Na_add_116 : decode cd_Na_add 116 = .ok (.iconst 1, 1) := by decide +kernel
theorem dc_Na_add_117 : decode cd_Na_add 117 = .ok (.isub, 1) := by decide +kernel
theorem dc_Na_add_118 : decode cd_Na_add 118 = .ok (.ireturn, 1) := by decide +kernel
theorem dc_Na_byteOf_0 : decode cd_Na_byteOf 0 = .ok (.aload_n 0, 1) := by decide +kernel
theorem dc_Na_byteOf_1 : decode cd_Na_byteOf 1 = .ok (.getfield 18, 3) := by decide +kernel
theorem dc_Na_byteOf_4 : decode cd_Na_byteOf 4 = .ok (.aload_n 0, 1) := by decide +kernel
theorem dc_Na_byteOf_5 : decode cd_Na_byteOf 5 = .ok (.getfield 9, 3) := by decide +kernel
theorem dc_Na_byteOf_8 : decode cd_Na_byteOf 8 = .ok (.iload_n 1, 1) := by decide +kernel
theorem dc_Na_byteOf_9 : decode cd_Na_byteOf 9 = .ok (.iaload, 1) := by decide +kernel
theorem dc_Na_byteOf_10 : decode cd_Na_byteOf 10 = .ok (.iload_n 2, 1) := by decide +kernel
theorem dc_Na_byteOf_11 : decode cd_Na_byteOf 11 = .ok (.iadd, 1) := by decide +kernel
theorem dc_Na_byteOf_12 : decode cd_Na_byteOf 12 = .ok (.baload, 1) := by decide +kernel
theorem dc_Na_byteOf_13 : decode cd_Na_byteOf 13 = .ok (.ireturn, 1) := by decide +kernel
theorem dc_Co_search_0 : decode cd_Co_search 0 = .ok (.iconst 0, 1) := by decide +kernel
theorem dc_Co_search_1 : decode cd_Co_search 1 = .ok (.istore 5, 2) := by decide +kernel
theorem dc_Co_search_3 : decode cd_Co_search 3 = .ok (.aload_n 0, 1) := by decide +kernel
theorem dc_Co_search_4 : decode cd_Co_search 4 = .ok (.getfield 14, 3) := by decide +kernel
theorem dc_Co_search_7 : decode cd_Co_search 7 = .ok (.getfield 33, 3) := by decide +kernel
theorem dc_Co_search_10 : decode cd_Co_search 10 = .ok (.istore 6, 2) := by decide +kernel
theorem dc_Co_search_12 : decode cd_Co_search 12 = .ok (.iload 5, 2) := by decide +kernel
theorem dc_Co_search_14 : decode cd_Co_search 14 = .ok (.iload 6, 2) := by decide +kernel
theorem dc_Co_search_16 : decode cd_Co_search 16 = .ok (.if_icmp .ge 84, 3) := by decide +kernel
theorem dc_Co_search_19 : decode cd_Co_search 19 = .ok (.iload 5, 2) := by decide +kernel
theorem dc_Co_search_21 : decode cd_Co_search 21 = .ok (.iload 6, 2) := by decide +kernel
theorem dc_Co_search_23 : decode cd_Co_search 23 = .ok (.iadd, 1) := by decide +kernel
theorem dc_Co_search_24 : decode cd_Co_search 24 = .ok (.iconst 1, 1) := by decide +kernel
theorem dc_Co_search_25 : decode cd_Co_search 25 = .ok (.iushr, 1) := by decide +kernel
theorem dc_Co_search_26 : decode cd_Co_search 26 = .ok (.istore 7, 2) := by decide +kernel
theorem dc_Co_search_28 : decode cd_Co_search 28 = .ok (.aload_n 0, 1) := by decide +kernel
theorem dc_Co_search_29 : decode cd_Co_search 29 = .ok (.getfield 14, 3) := by decide +kernel
theorem dc_Co_search_32 : decode cd_Co_search 32 = .ok (.aload_n 0, 1) := by decide +kernel
theorem dc_Co_search_33 : decode cd_Co_search 33 = .ok (.getfield 24, 3) := by decide +kernel
theorem dc_Co_search_36 : decode cd_Co_search 36 = .ok (.iload 7, 2) := by decide +kernel
theorem dc_Co_search_38 : decode cd_Co_search 38 = .ok (.iaload, 1) := by decide +kernel
theorem dc_Co_search_39 : decode cd_Co_search 39 = .ok (.aload_n 1, 1) := by decide +kernel
theorem dc_Co_search_40 : decode cd_Co_search 40 = .ok (.iload_n 2, 1) := by decide +kernel
theorem dc_Co_search_41 : decode cd_Co_search 41 = .ok (.iload_n 3, 1) := by decide +kernel
theorem dc_Co_search_42 : decode cd_Co_search 42 = .ok (.invokevirtual 37, 3) := by decide +kernel
theorem dc_Co_search_45 : decode cd_Co_search 45 = .ok (.istore 8, 2) := by decide +kernel
theorem dc_Co_search_47 : decode cd_Co_search 47 = .ok (.iload 8, 2) := by decide +kernel
theorem dc_Co_search_49 : decode cd_Co_search 49 = .ok (.ifCond .ne 22, 3) := by decide +kernel
theorem dc_Co_search_52 : decode cd_Co_search 52 = .ok (.aload_n 0, 1) := by decide +kernel
theorem dc_Co_search_53 : decode cd_Co_search 53 = .ok (.getfield 20, 3) := by decide +kernel
theorem dc_Co_search_56 : decode cd_Co_search 56 = .ok (.aload_n 0, 1) := by decide +kernel
theorem dc_Co_search_57 : decode cd_Co_search 57 = .ok (.getfield 24, 3) := by decide +kernel
theorem dc_Co_search_60 : decode cd_Co_search 60 = .ok (.iload 7, 2) := by decide +kernel
theorem dc_Co_search_62 : decode cd_Co_search 62 = .ok (.iaload, 1) := by decide +kernel
theorem dc_Co_search_63 : decode cd_Co_search 63 = .ok (.iaload, 1) := by decide +kernel
theorem dc_Co_search_64 : decode cd_Co_search 64 = .ok (.iload 4, 2) := by decide +kernel
theorem dc_Co_search_66 : decode cd_Co_search 66 = .ok (.invokestatic 41, 3) := by decide +kernel
theorem dc_Co_search_69 : decode cd_Co_search 69 = .ok (.istore 8, 2) := by decide +kernel
theorem dc_Co_search_71 : decode cd_Co_search 71 = .ok (.iload 8, 2) := by decide +kernel
theorem dc_Co_search_73 : decode cd_Co_search 73 = .ok (.ifCond .ne 6, 3) := by decide +kernel
theorem dc_Co_search_76 : decode cd_Co_search 76 = .ok (.iload 7, 2) := by decide +kernel
theorem dc_Co_search_78 : decode cd_Co_search 78 = .ok (.ireturn, 1) := by decide +kernel
theorem dc_Co_search_79 : decode cd_Co_search 79 = .ok (.iload 8, 2) := by decide +kernel
theorem dc_Co_search_81 : decode cd_Co_search 81 = .ok (.ifCond .ge 12, 3) := by decide +kernel
theorem dc_Co_search_84 : decode cd_Co_search 84 = .ok (.iload 7, 2) := by decide +kernel
theorem dc_Co_search_86 : decode cd_Co_search 86 = .ok (.iconst 1, 1) := by decide +kernel
theorem dc_Co_search_87 : decode cd_Co_search 87 = .ok (.iadd, 1) := by decide +kernel
theorem dc_Co_search_88 : decode cd_Co_search 88 = .ok (.istore 5, 2) := by decide +kernel
theorem dc_Co_search_90 : decode cd_Co_search 90 = .ok (.goto 7, 3) := by decide +kernel
theorem dc_Co_search_93 : decode cd_Co_search 93 = .ok (.iload 7, 2) := by decide +kernel
theorem dc_Co_search_95 : decode cd_Co_search 95 = .ok (.istore 6, 2) := by decide +kernel
theorem dc_Co_search_97 : decode cd_Co_search 97 = .ok (.goto (-85), 3) := by decide +kernel
theorem dc_Co_search_100 : decode cd_Co_search 100 = .ok (.iload 5, 2) := by decide +kernel
theorem dc_Co_search_102 : decode cd_Co_search 102 = .ok (.iconst (-1), 1) := by decide +kernel
theorem dc_Co_search_103 : decode cd_Co_search 103 = .ok (.ixor, 1) := by decide +kernel
theorem dc_Co_search_104 : decode cd_Co_search 104 = .ok (.ireturn, 1) := by decide +kernel
theorem dc_Co_intern_0 : decode cd_Co_intern 0 = .ok (.aload_n 0, 1) := by decide +kernel
theorem dc_Co_intern_1 : decode cd_Co_intern 1 = .ok (.aload_n 1, 1) := by decide +kernel
theorem dc_Co_intern_2 : decode cd_Co_intern 2 = .ok (.iload_n 2, 1) := by decide +kernel
theorem dc_Co_intern_3 : decode cd_Co_intern 3 = .ok (.iload_n 3, 1) := by decide +kernel
theorem dc_Co_intern_4 : decode cd_Co_intern 4 = .ok (.iload 4, 2) := by decide +kernel
theorem dc_Co_intern_6 : decode cd_Co_intern 6 = .ok (.invokevirtual 46, 3) := by decide +kernel
theorem dc_Co_intern_9 : decode cd_Co_intern 9 = .ok (.istore 5, 2) := by decide +kernel
theorem dc_Co_intern_11 : decode cd_Co_intern 11 = .ok (.iload 5, 2) := by decide +kernel
theorem dc_Co_intern_13 : decode cd_Co_intern 13 = .ok (.ifCond .lt 11, 3) := by decide +kernel
theorem dc_Co_intern_16 : decode cd_Co_intern 16 = .ok (.aload_n 0, 1) := by decide +kernel
theorem dc_Co_intern_17 : decode cd_Co_intern 17 = .ok (.getfield 24, 3) := by decide +kernel
theorem dc_Co_intern_20 : decode cd_Co_intern 20 = .ok (.iload 5, 2) := by decide +kernel
theorem dc_Co_intern_22 : decode cd_Co_intern 22 = .ok (.iaload, 1) := by decide +kernel
theorem dc_Co_intern_23 : decode cd_Co_intern 23 = .ok (.ireturn, 1) := by decide +kernel
theorem dc_Co_intern_24 : decode cd_Co_intern 24 = .ok (.aload_n 0, 1) := by decide +kernel
theorem dc_Co_intern_25 : decode cd_Co_intern 25 = .ok (.getfield 14, 3) := by decide +kernel
theorem dc_Co_intern_28 : decode cd_Co_intern 28 = .ok (.aload_n 1, 1) := by decide +kernel
theorem dc_Co_intern_29 : decode cd_Co_intern 29 = .ok (.iload_n 2, 1) := by decide +kernel
theorem dc_Co_intern_30 : decode cd_Co_intern 30 = .ok (.iload_n 3, 1) := by decide +kernel
theorem dc_Co_intern_31 : decode cd_Co_intern 31 = .ok (.invokevirtual 50, 3) := by decide +kernel
theorem dc_Co_intern_34 : decode cd_Co_intern 34 = .ok (.istore 6, 2) := by decide +kernel
theorem dc_Co_intern_36 : decode cd_Co_intern 36 = .ok (.iload 6, 2) := by decide +kernel
theorem dc_Co_intern_38 : decode cd_Co_intern 38 = .ok (.iconst (-1), 1) := by decide +kernel
theorem dc_Co_intern_39 : decode cd_Co_intern 39 = .ok (.if_icmp .eq 51, 3) := by decide +kernel
theorem dc_Co_intern_42 : decode cd_Co_intern 42 = .ok (.aload_n 0, 1) := by decide +kernel
theorem dc_Co_intern_43 : decode cd_Co_intern 43 = .ok (.getfield 20, 3) := by decide +kernel
theorem dc_Co_intern_46 : decode cd_Co_intern 46 = .ok (.iload 6, 2) := by decide +kernel
theorem dc_Co_intern_48 : decode cd_Co_intern 48 = .ok (.iload 4, 2) := by decide +kernel
theorem dc_Co_intern_50 : decode cd_Co_intern 50 = .ok (.iastore, 1) := by decide +kernel
theorem dc_Co_intern_51 : decode cd_Co_intern 51 = .ok (.aload_n 0, 1) := by decide +kernel
theorem dc_Co_intern_52 : decode cd_Co_intern 52 = .ok (.getfield 24, 3) := by decide +kernel
theorem dc_Co_intern_55 : decode cd_Co_intern 55 = .ok (.iload 5, 2) := by decide +kernel
theorem dc_Co_intern_57 : decode cd_Co_intern 57 = .ok (.iconst (-1), 1) := by decide +kernel
theorem dc_Co_intern_58 : decode cd_Co_intern 58 = .ok (.ixor, 1) := by decide +kernel
theorem dc_Co_intern_59 : decode cd_Co_intern 59 = .ok (.aload_n 0, 1) := by decide +kernel
theorem dc_Co_intern_60 : decode cd_Co_intern 60 = .ok (.getfield 24, 3) := by decide +kernel
theorem dc_Co_intern_63 : decode cd_Co_intern 63 = .ok (.iload 5, 2) := by decide +kernel
theorem dc_Co_intern_65 : decode cd_Co_intern 65 = .ok (.iconst (-1), 1) := by decide +kernel
theorem dc_Co_intern_66 : decode cd_Co_intern 66 = .ok (.ixor, 1) := by decide +kernel
theorem dc_Co_intern_67 : decode cd_Co_intern 67 = .ok (.iconst 1, 1) := by decide +kernel
theorem dc_Co_intern_68 : decode cd_Co_intern 68 = .ok (.iadd, 1) := by decide +kernel
theorem dc_Co_intern_69 : decode cd_Co_intern 69 = .ok (.iload 6, 2) := by decide +kernel
theorem dc_Co_intern_71 : decode cd_Co_intern 71 = .ok (.iload 5, 2) := by decide +kernel
theorem dc_Co_intern_73 : decode cd_Co_intern 73 = .ok (.iconst (-1), 1) := by decide +kernel
theorem dc_Co_intern_74 : decode cd_Co_intern 74 = .ok (.ixor, 1) := by decide +kernel
theorem dc_Co_intern_75 : decode cd_Co_intern 75 = .ok (.isub, 1) := by decide +kernel
theorem dc_Co_intern_76 : decode cd_Co_intern 76 = .ok (.invokestatic 54, 3) := by decide +kernel
theorem dc_Co_intern_79 : decode cd_Co_intern 79 = .ok (.aload_n 0, 1) := by decide +kernel
theorem dc_Co_intern_80 : decode cd_Co_intern 80 = .ok (.getfield 24, 3) := by decide +kernel
theorem dc_Co_intern_83 : decode cd_Co_intern 83 = .ok (.iload 5, 2) := by decide +kernel
theorem dc_Co_intern_85 : decode cd_Co_intern 85 = .ok (.iconst (-1), 1) := by decide +kernel
theorem dc_Co_intern_86 : decode cd_Co_intern 86 = .ok (.ixor, 1) := by decide +kernel
theorem dc_Co_intern_87 : decode cd_Co_intern 87 = .ok (.iload 6, 2) := by decide +kernel
theorem dc_Co_intern_89 : decode cd_Co_intern 89 = .ok (.iastore, 1) := by decide +kernel
theorem dc_Co_intern_90 : decode cd_Co_intern 90 = .ok (.iload 6, 2) := by decide +kernel
theorem dc_Co_intern_92 : decode cd_Co_intern 92 = .ok (.ireturn, 1) := by decide +kernel
theorem dc_Co_setRanks_0 : decode cd_Co_setRanks 0 = .ok (.iconst 0, 1) := by decide +kernel
theorem dc_Co_setRanks_1 : decode cd_Co_setRanks 1 = .ok (.istore_n 1, 1) := by decide +kernel
theorem dc_Co_setRanks_2 : decode cd_Co_setRanks 2 = .ok (.iload_n 1, 1) := by decide +kernel
theorem dc_Co_setRanks_3 : decode cd_Co_setRanks 3 = .ok (.aload_n 0, 1) := by decide +kernel
theorem dc_Co_setRanks_4 : decode cd_Co_setRanks 4 = .ok (.getfield 14, 3) := by decide +kernel
theorem dc_Co_setRanks_7 : decode cd_Co_setRanks 7 = .ok (.getfield 33, 3) := by decide +kernel
theorem dc_Co_setRanks_10 : decode cd_Co_setRanks 10 = .ok (.if_icmp .ge 21, 3) := by decide +kernel
theorem dc_Co_setRanks_13 : decode cd_Co_setRanks 13 = .ok (.aload_n 0, 1) := by decide +kernel
theorem dc_Co_setRanks_14 : decode cd_Co_setRanks 14 = .ok (.getfield 27, 3) := by decide +kernel
theorem dc_Co_setRanks_17 : decode cd_Co_setRanks 17 = .ok (.aload_n 0, 1) := by decide +kernel
theorem dc_Co_setRanks_18 : decode cd_Co_setRanks 18 = .ok (.getfield 24, 3) := by decide +kernel
theorem dc_Co_setRanks_21 : decode cd_Co_setRanks 21 = .ok (.iload_n 1, 1) := by decide +kernel
theorem dc_Co_setRanks_22 : decode cd_Co_setRanks 22 = .ok (.iaload, 1) := by decide +kernel
theorem dc_Co_setRanks_23 : decode cd_Co_setRanks 23 = .ok (.iload_n 1, 1) := by decide +kernel
theorem dc_Co_setRanks_24 : decode cd_Co_setRanks 24 = .ok (.iastore, 1) := by decide +kernel
theorem dc_Co_setRanks_25 : decode cd_Co_setRanks 25 = .ok (.iinc 1 1, 3) := by decide +kernel
theorem dc_Co_setRanks_28 : decode cd_Co_setRanks 28 = .ok (.goto (-26), 3) := by decide +kernel
theorem dc_Co_setRanks_31 : decode cd_Co_setRanks 31 = .ok (.return_, 1) := by decide +kernel
theorem dc_Co_rankOf_0 : decode cd_Co_rankOf 0 = .ok (.aload_n 0, 1) := by decide +kernel
theorem dc_Co_rankOf_1 : decode cd_Co_rankOf 1 = .ok (.getfield 27, 3) := by decide +kernel
theorem dc_Co_rankOf_4 : decode cd_Co_rankOf 4 = .ok (.iload_n 1, 1) := by decide +kernel
theorem dc_Co_rankOf_5 : decode cd_Co_rankOf 5 = .ok (.iaload, 1) := by decide +kernel
theorem dc_Co_rankOf_6 : decode cd_Co_rankOf 6 = .ok (.ireturn, 1) := by decide +kernel
theorem dc_Co_lengthAt_0 : decode cd_Co_lengthAt 0 = .ok (.aload_n 0, 1) := by decide +kernel
theorem dc_Co_lengthAt_1 : decode cd_Co_lengthAt 1 = .ok (.getfield 14, 3) := by decide +kernel
theorem dc_Co_lengthAt_4 : decode cd_Co_lengthAt 4 = .ok (.aload_n 0, 1) := by decide +kernel
theorem dc_Co_lengthAt_5 : decode cd_Co_lengthAt 5 = .ok (.getfield 24, 3) := by decide +kernel
theorem dc_Co_lengthAt_8 : decode cd_Co_lengthAt 8 = .ok (.iload_n 1, 1) := by decide +kernel
theorem dc_Co_lengthAt_9 : decode cd_Co_lengthAt 9 = .ok (.iaload, 1) := by decide +kernel
theorem dc_Co_lengthAt_10 : decode cd_Co_lengthAt 10 = .ok (.invokevirtual 60, 3) := by decide +kernel
theorem dc_Co_lengthAt_13 : decode cd_Co_lengthAt 13 = .ok (.ireturn, 1) := by decide +kernel
theorem dc_Co_valueAt_0 : decode cd_Co_valueAt 0 = .ok (.aload_n 0, 1) := by decide +kernel
theorem dc_Co_valueAt_1 : decode cd_Co_valueAt 1 = .ok (.getfield 20, 3) := by decide +kernel
theorem dc_Co_valueAt_4 : decode cd_Co_valueAt 4 = .ok (.aload_n 0, 1) := by decide +kernel
theorem dc_Co_valueAt_5 : decode cd_Co_valueAt 5 = .ok (.getfield 24, 3) := by decide +kernel
theorem dc_Co_valueAt_8 : decode cd_Co_valueAt 8 = .ok (.iload_n 1, 1) := by decide +kernel
theorem dc_Co_valueAt_9 : decode cd_Co_valueAt 9 = .ok (.iaload, 1) := by decide +kernel
theorem dc_Co_valueAt_10 : decode cd_Co_valueAt 10 = .ok (.iaload, 1) := by decide +kernel
theorem dc_Co_valueAt_11 : decode cd_Co_valueAt 11 = .ok (.ireturn, 1) := by decide +kernel
theorem dc_Co_byteAt_0 : decode cd_Co_byteAt 0 = .ok (.aload_n 0, 1) := by decide +kernel
theorem dc_Co_byteAt_1 : decode cd_Co_byteAt 1 = .ok (.getfield 14, 3) := by decide +kernel
theorem dc_Co_byteAt_4 : decode cd_Co_byteAt 4 = .ok (.aload_n 0, 1) := by decide +kernel
theorem dc_Co_byteAt_5 : decode cd_Co_byteAt 5 = .ok (.getfield 24, 3) := by decide +kernel
theorem dc_Co_byteAt_8 : decode cd_Co_byteAt 8 = .ok (.iload_n 1, 1) := by decide +kernel
theorem dc_Co_byteAt_9 : decode cd_Co_byteAt 9 = .ok (.iaload, 1) := by decide +kernel
theorem dc_Co_byteAt_10 : decode cd_Co_byteAt 10 = .ok (.iload_n 2, 1) := by decide +kernel
theorem dc_Co_byteAt_11 : decode cd_Co_byteAt 11 = .ok (.invokevirtual 64, 3) := by decide +kernel
theorem dc_Co_byteAt_14 : decode cd_Co_byteAt 14 = .ok (.ireturn, 1) := by decide +kernel
def wp_met_To_open (post : (Int32 × Int32) → Prop) (a1 : Int32) : Prop := post ((0 : Int32), a1)
set_option maxHeartbeats 4000000 in
set_option maxRecDepth 100000 in
theorem met_To_open (l : Launch) (dC : Nat → ClassId) (dI : Nat → Nat → Nat) (n_a0 : Nat) (h0 : Nat) (a0 : Nat) (a1 : Int32) (kind_ : Int32) (start_ : Int32) (stop_ : Int32) (value_ : Int32) (length_ : Int32) (F_a0 : Nat → Int32) (k_a0 : ClassId) (text_ : Option Nat) (sz : Nat) {post : (Int32 × Int32) → Prop} (hw : wp_met_To_open post a1) : Met l my_To_open (Cond.code my_To_open cd_To_open 3 none :: tblG) ({ frames := 0, cells := 0, slots := 0, locals := 0 }) (va_Pc [.ref h0, .ref a0, .int a1] (fun U => U.heap.size = sz ∧ va_P (dC, dI) vwCl [(h0, .inr (11, [va_rf text_, .int kind_, .int start_, .int stop_, .int value_, .int length_])), (a0, .inl (k_a0, n_a0, .inl F_a0))] U.heap ∧ va_K (dC, dI) vwCl [(k_a0, .byte)] U ∧ va_D (fun _ => True) [(h0, .inr (11, [va_rf text_, .int kind_, .int start_, .int stop_, .int value_, .int length_])), (a0, .inl (k_a0, n_a0, .inl F_a0))])) (va_Qv post (fun (u : Int32 × Int32) (t : State) => match u with | (o0, o1) => va_P (dC, dI) vwCl [(h0, .inr (11, [.ref a0, .int kind_, .int start_, .int o0, .int value_, .int o1])), (a0, .inl (k_a0, n_a0, .inl F_a0))] t.heap ∧ va_K (dC, dI) vwCl [(k_a0, .byte)] t ∧ va_D (va_A [(h0, .inr (11, [va_rf text_, .int kind_, .int start_, .int stop_, .int value_, .int length_])), (a0, .inl (k_a0, n_a0, .inl F_a0))] sz) [(h0, .inr (11, [.ref a0, .int kind_, .int start_, .int o0, .int value_, .int o1])), (a0, .inl (k_a0, n_a0, .inl F_a0))]) (va_A [(h0, .inr (11, [va_rf text_, .int kind_, .int start_, .int stop_, .int value_, .int length_])), (a0, .inl (k_a0, n_a0, .inl F_a0))] sz)) 0 0 (va_A [(h0, .inr (11, [va_rf text_, .int kind_, .int start_, .int stop_, .int value_, .int length_])), (a0, .inl (k_a0, n_a0, .inl F_a0))] sz) := by
  refine Met.ofW (cc := cd_To_open) (maxL := 3) (ret := none) (by decide) rfl ?_
  intro p e s m args below meth c s₁ B hml hv
  obtain ⟨rfl, hsz, hP, hK, hD0⟩ := hv
  have hx := B.exec
  have hb := B.bytes
  have hr := B.returns
  have hT : ∀ w ∈ tblG, w.before _ s = true := fun w h => atoms_spec (ws := (Cond.code my_To_open cd_To_open 3 none :: tblG)) B.pre w (List.mem_cons_of_mem _ h)
  have hown : s.vm.findClass "StrataBase$Tokens" = some m.cls := findClass_of_methodNamed B.named
  have hlocks := B.notSynchronized
  subst hsz
  have hD := hD0.self (sz := s.heap.size)
  generalize hAe : va_A [(h0, .inr (11, [va_rf text_, .int kind_, .int start_, .int stop_, .int value_, .int length_])), (a0, .inl (k_a0, n_a0, .inl F_a0))] s.heap.size = A at hD ⊢
  have hA : ∀ q : Nat, s.heap.size ≤ q → A q := fun q h => by rw [← hAe]; exact Or.inr h
  have hS : va_S A s.heap s.heap [] := va_S.rf
  have hl := lv_entry ([.ref h0, .ref a0, .int a1]) (n := 3) (Nat.le_of_ble_eq_true rfl)
  rw [lg_entry_eq]
  generalize (lg_sl ([.ref h0, .ref a0, .int a1]) ++ List.replicate (3 - (lg_sl ([.ref h0, .ref a0, .int a1])).length) Slot.unset).toArray = ls at hl ⊢
  have hl : lv_has ls 3 [(0, .ref h0), (1, .ref a0), (2, .int a1)] := hl
  unfold wp_met_To_open at hw
  refine lv_aload_n hx hb dc_To_open_0 rfl (lv_at hl 0 rfl) ?_
  refine lv_aload_n hx hb dc_To_open_1 rfl (lv_at hl 1 rfl) ?_
  refine va_put (D := (dC, dI)) (ci := 11) (v := .ref a0) (ty := .array .byte) (C := "StrataBase$Tokens") (T := tb_To) (N := 6) hx hb hT in_To ty_To tk_To nm_To hown hK hP hD hS 0 rfl rfl 0 (by decide) (hT _ wd_194) (fun _ h9 => h9) rfl (by decide +kernel) rfl rfl (Nat.le_of_ble_eq_true rfl) dc_To_open_2 (fun H locs hP hD hS => ?_)
  have hP : va_P (dC, dI) vwCl [(h0, .inr (11, [.ref a0, .int kind_, .int start_, .int stop_, .int value_, .int length_])), (a0, .inl (k_a0, n_a0, .inl F_a0))] H := hP
  have hD : va_D A [(h0, .inr (11, [.ref a0, .int kind_, .int start_, .int stop_, .int value_, .int length_])), (a0, .inl (k_a0, n_a0, .inl F_a0))] := hD
  refine lv_aload_n hx hb dc_To_open_5 rfl (lv_at hl 0 rfl) ?_
  refine lv_iload_n hx hb dc_To_open_6 rfl (lv_at hl 2 rfl) ?_
  refine va_put (D := (dC, dI)) (ci := 11) (v := .int a1) (ty := .int) (C := "StrataBase$Tokens") (T := tb_To) (N := 6) hx hb hT in_To ty_To tk_To nm_To hown hK hP hD hS 0 rfl rfl 5 (by decide) (hT _ wd_204) (fun _ h9 => h9) rfl (by decide +kernel) rfl rfl (Nat.le_of_ble_eq_true rfl) dc_To_open_7 (fun H locs hP hD hS => ?_)
  have hP : va_P (dC, dI) vwCl [(h0, .inr (11, [.ref a0, .int kind_, .int start_, .int stop_, .int value_, .int a1])), (a0, .inl (k_a0, n_a0, .inl F_a0))] H := hP
  have hD : va_D A [(h0, .inr (11, [.ref a0, .int kind_, .int start_, .int stop_, .int value_, .int a1])), (a0, .inl (k_a0, n_a0, .inl F_a0))] := hD
  refine lv_aload_n hx hb dc_To_open_10 rfl (lv_at hl 0 rfl) ?_
  refine lv_iconst (v := 0) hx hb dc_To_open_11 (by decide) ?_
  refine va_put (D := (dC, dI)) (ci := 11) (v := .int 0) (ty := .int) (C := "StrataBase$Tokens") (T := tb_To) (N := 6) hx hb hT in_To ty_To tk_To nm_To hown hK hP hD hS 0 rfl rfl 3 (by decide) (hT _ wd_200) (fun _ h9 => h9) rfl (by decide +kernel) rfl rfl (Nat.le_of_ble_eq_true rfl) dc_To_open_12 (fun H locs hP hD hS => ?_)
  have hP : va_P (dC, dI) vwCl [(h0, .inr (11, [.ref a0, .int kind_, .int start_, .int 0, .int value_, .int a1])), (a0, .inl (k_a0, n_a0, .inl F_a0))] H := hP
  have hD : va_D A [(h0, .inr (11, [.ref a0, .int kind_, .int start_, .int 0, .int value_, .int a1])), (a0, .inl (k_a0, n_a0, .inl F_a0))] := hD
  refine W.widen (k := 0) (n := 0) (Nat.le_of_ble_eq_true rfl) (Nat.le_of_ble_eq_true rfl) ?_
  exact W.vret hx hb hr (fun t ht hW => ⟨⟨((0 : Int32), a1), rfl, hw, by rw [ht]; exact hP, va_K.moved hW.alike hK, hD⟩, hS.F ht⟩) hS.2.2 dc_To_open_15

def jw_met_To_skipBlanks_46 (post : Int32 → Prop) (J_lw_met_To_skipBlanks_2 : (Int32 × Int32) → Prop) (v2 : Int32) (v3 : Int32) (F_text : Nat → Int32) : (Unit) → Prop
  | _ => (((v2 = 0 → (vp_in v3 65536 ∧ (True))) ∧ (¬ (v2 = 0) → (vp_in v3 65536 ∧ (True))))) ∧ (∀ y10 : Int32, y10 = (if v2 = 0 then (if (F_text v3.toNatClampNeg) = (37 : Int32) then (1 : Int32) else (0 : Int32)) else (if (F_text v3.toNatClampNeg) = (10 : Int32) then (0 : Int32) else (1 : Int32))) → (∀ y13 : Int32, y13 = v3 + (1 : Int32) → (J_lw_met_To_skipBlanks_2 (y10, y13))))
def lw_met_To_skipBlanks_2 (post : Int32 → Prop) (length_ : Int32) (F_text : Nat → Int32) : Nat → (Int32 × Int32) → Prop
  | 0, _ => False
  | n1_ + 1, (v2, v3) => ((length_ ≤ v3 → (post v3)) ∧ (¬ (length_ ≤ v3) → (((v2 = 0 → (vp_in v3 65536 ∧ (∀ y6 : Int32, y6 = F_text v3.toNatClampNeg → (wp_met_To_isBlank (fun (r7 : Int32) (_ : Unit) => (((r7 = 0 → (vp_in v3 65536 ∧ (∀ y9 : Int32, y9 = F_text v3.toNatClampNeg → (((y9 = (37 : Int32) → (jw_met_To_skipBlanks_46 post (fun x9 => lw_met_To_skipBlanks_2 post length_ F_text n1_ x9) v2 v3 F_text ())) ∧ (¬ (y9 = (37 : Int32)) → (post v3))))))) ∧ (¬ (r7 = 0) → (jw_met_To_skipBlanks_46 post (fun x9 => lw_met_To_skipBlanks_2 post length_ F_text n1_ x9) v2 v3 F_text ()))))) y6)))) ∧ (¬ (v2 = 0) → (jw_met_To_skipBlanks_46 post (fun x9 => lw_met_To_skipBlanks_2 post length_ F_text n1_ x9) v2 v3 F_text ()))))))
def wp_met_To_skipBlanks (post : Int32 → Prop) (stop_ : Int32) (length_ : Int32) (F_text : Nat → Int32) : Prop := ∃ n9 : Nat, lw_met_To_skipBlanks_2 post length_ F_text n9 ((0 : Int32), stop_)
set_option maxHeartbeats 4000000 in
set_option maxRecDepth 100000 in
theorem met_To_skipBlanks (l : Launch) (dC : Nat → ClassId) (dI : Nat → Nat → Nat) (h0 : Nat) (text_ : Nat) (kind_ : Int32) (start_ : Int32) (stop_ : Int32) (value_ : Int32) (length_ : Int32) (F_text : Nat → Int32) (k_text : ClassId) (sz : Nat) {post : Int32 → Prop} (hw : wp_met_To_skipBlanks post stop_ length_ F_text) : Met l my_To_skipBlanks (Cond.code my_To_skipBlanks cd_To_skipBlanks 2 none :: tblG) ({ frames := 1, cells := 0, slots := 0, locals := 20 }) (va_Pc [.ref h0] (fun U => U.heap.size = sz ∧ va_P (dC, dI) vwCl [(h0, .inr (11, [.ref text_, .int kind_, .int start_, .int stop_, .int value_, .int length_])), (text_, .inl (k_text, 65536, .inl F_text))] U.heap ∧ va_K (dC, dI) vwCl [(k_text, .byte)] U ∧ va_D (fun _ => True) [(h0, .inr (11, [.ref text_, .int kind_, .int start_, .int stop_, .int value_, .int length_])), (text_, .inl (k_text, 65536, .inl F_text))])) (va_Qv post (fun (u : Int32) (t : State) => match u with | o0 => va_P (dC, dI) vwCl [(h0, .inr (11, [.ref text_, .int kind_, .int start_, .int o0, .int value_, .int length_])), (text_, .inl (k_text, 65536, .inl F_text))] t.heap ∧ va_K (dC, dI) vwCl [(k_text, .byte)] t ∧ va_D (va_A [(h0, .inr (11, [.ref text_, .int kind_, .int start_, .int stop_, .int value_, .int length_])), (text_, .inl (k_text, 65536, .inl F_text))] sz) [(h0, .inr (11, [.ref text_, .int kind_, .int start_, .int o0, .int value_, .int length_])), (text_, .inl (k_text, 65536, .inl F_text))]) (va_A [(h0, .inr (11, [.ref text_, .int kind_, .int start_, .int stop_, .int value_, .int length_])), (text_, .inl (k_text, 65536, .inl F_text))] sz)) 0 0 (va_A [(h0, .inr (11, [.ref text_, .int kind_, .int start_, .int stop_, .int value_, .int length_])), (text_, .inl (k_text, 65536, .inl F_text))] sz) := by
  refine Met.ofW (cc := cd_To_skipBlanks) (maxL := 2) (ret := none) (by decide) rfl ?_
  intro p e s m args below meth c s₁ B hml hv
  obtain ⟨rfl, hsz, hP, hK, hD0⟩ := hv
  have hx := B.exec
  have hb := B.bytes
  have hr := B.returns
  have hT : ∀ w ∈ tblG, w.before _ s = true := fun w h => atoms_spec (ws := (Cond.code my_To_skipBlanks cd_To_skipBlanks 2 none :: tblG)) B.pre w (List.mem_cons_of_mem _ h)
  have hown : s.vm.findClass "StrataBase$Tokens" = some m.cls := findClass_of_methodNamed B.named
  have hlocks := B.notSynchronized
  subst hsz
  have hD := hD0.self (sz := s.heap.size)
  generalize hAe : va_A [(h0, .inr (11, [.ref text_, .int kind_, .int start_, .int stop_, .int value_, .int length_])), (text_, .inl (k_text, 65536, .inl F_text))] s.heap.size = A at hD ⊢
  have hA : ∀ q : Nat, s.heap.size ≤ q → A q := fun q h => by rw [← hAe]; exact Or.inr h
  have hS : va_S A s.heap s.heap [] := va_S.rf
  have hl := lv_entry ([.ref h0]) (n := 2) (Nat.le_of_ble_eq_true rfl)
  rw [lg_entry_eq]
  generalize (lg_sl ([.ref h0]) ++ List.replicate (2 - (lg_sl ([.ref h0])).length) Slot.unset).toArray = ls at hl ⊢
  have hl : lv_has ls 2 [(0, .ref h0)] := hl
  unfold wp_met_To_skipBlanks at hw
  refine lv_iconst (v := 0) hx hb dc_To_skipBlanks_0 (by decide) ?_
  refine lv_istore_n (lv' := [(1, .int 0), (0, .ref h0)]) hx hb dc_To_skipBlanks_1 rfl hl (by decide) rfl (fun ls hl => ?_)
  obtain ⟨n9, hw⟩ := hw
  refine lp_fuel (σ := Int32 × Int32) _ (fun x9 H locs ls => match x9 with | (v2, v3) => va_K (dC, dI) vwCl [(k_text, .byte)] s ∧ va_P (dC, dI) vwCl [(h0, .inr (11, [.ref text_, .int kind_, .int start_, .int v3, .int value_, .int length_])), (text_, .inl (k_text, 65536, .inl F_text))] H ∧ va_D A [(h0, .inr (11, [.ref text_, .int kind_, .int start_, .int v3, .int value_, .int length_])), (text_, .inl (k_text, 65536, .inl F_text))] ∧ va_S A s.heap H locs ∧ lv_has ls 2 [(1, .int v2), (0, .ref h0)]) (fun x9 h9 => by simp only [lw_met_To_skipBlanks_2] at h9) ?_ hw ⟨hK.sub [0] rfl, hP.sub [0, 1] rfl, hD.sub [0, 1] (by decide) rfl, hS, lv_sub hl [0, 1] rfl⟩
  intro n1_ x9 hw ih1 H locs ls hI
  obtain ⟨v2, v3⟩ := x9
  obtain ⟨hK, hP, hD, hS, hl⟩ := hI
  unfold lw_met_To_skipBlanks_2 at hw
  refine lv_aload_n hx hb dc_To_skipBlanks_2 rfl (lv_at hl 1 rfl) ?_
  refine va_get (D := (dC, dI)) (ci := 11) (v := .int v3) (C := "StrataBase$Tokens") (T := tb_To) (N := 6) hx hb hT in_To hown hK hP 0 rfl rfl 3 (by decide) (hT _ wd_200) (fun _ h9 => h9) rfl dc_To_skipBlanks_3 ?_
  refine lv_aload_n hx hb dc_To_skipBlanks_6 rfl (lv_at hl 1 rfl) ?_
  refine va_get (D := (dC, dI)) (ci := 11) (v := .int length_) (C := "StrataBase$Tokens") (T := tb_To) (N := 6) hx hb hT in_To hown hK hP 0 rfl rfl 5 (by decide) (hT _ wd_204) (fun _ h9 => h9) rfl dc_To_skipBlanks_7 ?_
  refine lv_icmp_ge (tgt := 105) hx hb dc_To_skipBlanks_10 (by decide) (fun h10 => ?_) (fun h10 => ?_)
  · have hw := hw.1 h10
    refine W.widen (k := 0) (n := 0) (Nat.le_of_ble_eq_true rfl) (Nat.le_of_ble_eq_true rfl) ?_
    exact W.vret hx hb hr (fun t ht hW => ⟨⟨v3, rfl, hw, by rw [ht]; exact hP, va_K.moved hW.alike hK, hD⟩, hS.F ht⟩) hS.2.2 dc_To_skipBlanks_105
  · have hw := hw.2 h10
    refine lv_iload_n hx hb dc_To_skipBlanks_13 rfl (lv_at hl 0 rfl) ?_
    refine jn_st (σ := Unit) (pc2 := 46) (fun x9 => jw_met_To_skipBlanks_46 post (fun x9 => lw_met_To_skipBlanks_2 post length_ F_text n1_ x9) v2 v3 F_text x9) (fun _ => []) (fun _ H locs ls => va_K (dC, dI) vwCl [(k_text, .byte)] s ∧ va_P (dC, dI) vwCl [(h0, .inr (11, [.ref text_, .int kind_, .int start_, .int v3, .int value_, .int length_])), (text_, .inl (k_text, 65536, .inl F_text))] H ∧ va_D A [(h0, .inr (11, [.ref text_, .int kind_, .int start_, .int v3, .int value_, .int length_])), (text_, .inl (k_text, 65536, .inl F_text))] ∧ va_S A s.heap H locs ∧ lv_has ls 2 [(0, .ref h0), (1, .int v2)]) ?_ (fun k4 => ?_)
    rotate_left
    · refine lv_if_ne (tgt := 46) hx hb dc_To_skipBlanks_14 (by decide) (fun h14 => ?_) (fun h14 => ?_)
      · have hw := hw.2 h14
        exact k4 () hw _ _ _ ⟨hK.sub [0] rfl, hP.sub [0, 1] rfl, hD.sub [0, 1] (by decide) rfl, hS, lv_sub hl [1, 0] rfl⟩
      · have hw := hw.1 h14
        refine lv_aload_n hx hb dc_To_skipBlanks_17 rfl (lv_at hl 1 rfl) ?_
        refine va_get (D := (dC, dI)) (ci := 11) (v := .ref text_) (C := "StrataBase$Tokens") (T := tb_To) (N := 6) hx hb hT in_To hown hK hP 0 rfl rfl 0 (by decide) (hT _ wd_194) (fun _ h9 => h9) rfl dc_To_skipBlanks_18 ?_
        refine lv_aload_n hx hb dc_To_skipBlanks_21 rfl (lv_at hl 1 rfl) ?_
        refine va_get (D := (dC, dI)) (ci := 11) (v := .int v3) (C := "StrataBase$Tokens") (T := tb_To) (N := 6) hx hb hT in_To hown hK hP 0 rfl rfl 3 (by decide) (hT _ wd_200) (fun _ h9 => h9) rfl dc_To_skipBlanks_22 ?_
        obtain ⟨hv5, hw⟩ := hw
        refine va_bald hx hb hK hP 1 0 rfl rfl hv5 dc_To_skipBlanks_25 ?_
        refine lv_topi (fun y6 ey6 => ?_)
        have hw := hw y6 ey6
        have hPc := hP.sub (ws' := []) [] rfl
        have hDc := hD.sub (ws' := []) [] (by decide) rfl
        have hKc := hK.sub (tys' := []) [] rfl
        have hFc := va_free (wc := []) hD hS hA [] rfl
        refine va_calli (va_runS (As := [.int y6]) (rest := []) ⟨hx, hb, hml, hown, hT⟩ (met_To_isBlank l dC dI y6 H.size hw) (va_cwS 1 hT (gd_S wd_611 wd_612 wd_7 wd_613) rfl rfl rfl (by decide +kernel) ⟨Nat.le_of_ble_eq_true rfl, Nat.le_of_ble_eq_true rfl⟩) ⟨fun a U g mk q => by obtain ⟨q0, q1, qP, qK, qD⟩ := q; exact ⟨q0, q1, qP, va_K.moved (u := U) (U := U.calling g mk a) (Vm.Alike.refl U.vm) qK, qD⟩, fun U hU hW => ⟨rfl, by rw [hU], by rw [hU]; exact hPc, va_K.moved hW.alike hKc, hDc.weaken (fun _ _ _ _ => trivial)⟩⟩ rfl rfl hl.1 rfl (lv_room (Nat.le_of_ble_eq_true rfl)) dc_To_skipBlanks_26 ⟨(Nat.le_of_ble_eq_true rfl), (Nat.le_of_ble_eq_true rfl)⟩) hS (fun q _ h => hFc q h) hFc (fun r7 _ t H1 locs ht hvm hw hB hz1 hk1 hS => ?_)
        obtain ⟨hP1, hK1, hD1⟩ := hB
        rw [ht] at hP1
        have hK1 := va_K.moved hvm.symm hK1
        obtain ⟨hP, hD⟩ := va_join (wr := [(h0, .inr (11, [.ref text_, .int kind_, .int start_, .int v3, .int value_, .int length_])), (text_, .inl (k_text, 65536, .inl F_text))]) (w1 := []) hP hD [] [0, 1] rfl rfl (by decide) (by decide) hk1 hFc hP1 hD1
        have hK := (hK.sub (tys' := [(k_text, .byte)]) [0] rfl).app hK1
        generalize H1 = H at hP hS ⊢
        have hP : va_P (dC, dI) vwCl [(h0, .inr (11, [.ref text_, .int kind_, .int start_, .int v3, .int value_, .int length_])), (text_, .inl (k_text, 65536, .inl F_text))] H := hP
        have hD : va_D A [(h0, .inr (11, [.ref text_, .int kind_, .int start_, .int v3, .int value_, .int length_])), (text_, .inl (k_text, 65536, .inl F_text))] := hD
        have hK : va_K (dC, dI) vwCl [(k_text, .byte)] s := hK
        refine lv_if_ne (tgt := 46) hx hb dc_To_skipBlanks_29 (by decide) (fun h29 => ?_) (fun h29 => ?_)
        · have hw := hw.2 h29
          exact k4 () hw _ _ _ ⟨hK.sub [0] rfl, hP.sub [0, 1] rfl, hD.sub [0, 1] (by decide) rfl, hS, lv_sub hl [1, 0] rfl⟩
        · have hw := hw.1 h29
          refine lv_aload_n hx hb dc_To_skipBlanks_32 rfl (lv_at hl 1 rfl) ?_
          refine va_get (D := (dC, dI)) (ci := 11) (v := .ref text_) (C := "StrataBase$Tokens") (T := tb_To) (N := 6) hx hb hT in_To hown hK hP 0 rfl rfl 0 (by decide) (hT _ wd_194) (fun _ h9 => h9) rfl dc_To_skipBlanks_33 ?_
          refine lv_aload_n hx hb dc_To_skipBlanks_36 rfl (lv_at hl 1 rfl) ?_
          refine va_get (D := (dC, dI)) (ci := 11) (v := .int v3) (C := "StrataBase$Tokens") (T := tb_To) (N := 6) hx hb hT in_To hown hK hP 0 rfl rfl 3 (by decide) (hT _ wd_200) (fun _ h9 => h9) rfl dc_To_skipBlanks_37 ?_
          obtain ⟨hv8, hw⟩ := hw
          refine va_bald hx hb hK hP 1 0 rfl rfl hv8 dc_To_skipBlanks_40 ?_
          refine lv_topi (fun y9 ey9 => ?_)
          have hw := hw y9 ey9
          refine lv_bipush (v := 37) hx hb dc_To_skipBlanks_41 (by decide) ?_
          refine lv_icmp_ne (tgt := 105) hx hb dc_To_skipBlanks_43 (by decide) (fun h43 => ?_) (fun h43 => ?_)
          · have hw := hw.2 h43
            refine W.widen (k := 0) (n := 0) (Nat.le_of_ble_eq_true rfl) (Nat.le_of_ble_eq_true rfl) ?_
            exact W.vret hx hb hr (fun t ht hW => ⟨⟨v3, rfl, hw, by rw [ht]; exact hP, va_K.moved hW.alike hK, hD⟩, hS.F ht⟩) hS.2.2 dc_To_skipBlanks_105
          · have hw := hw.1 h43
            exact k4 () hw _ _ _ ⟨hK.sub [0] rfl, hP.sub [0, 1] rfl, hD.sub [0, 1] (by decide) rfl, hS, lv_sub hl [1, 0] rfl⟩
    intro x9 hw H locs ls hI
    obtain ⟨hK, hP, hD, hS, hl⟩ := hI
    unfold jw_met_To_skipBlanks_46 at hw
    refine W.eq (g2 := F0 m 46 ls []) rfl ?_
    refine lv_iload_n hx hb dc_To_skipBlanks_46 rfl (lv_at hl 1 rfl) ?_
    obtain ⟨hob, hw⟩ := hw
    refine jn_top (pc2 := 91) (rest := []) (fun y10 => y10 = (if v2 = 0 then (if (F_text v3.toNatClampNeg) = (37 : Int32) then (1 : Int32) else (0 : Int32)) else (if (F_text v3.toNatClampNeg) = (10 : Int32) then (0 : Int32) else (1 : Int32)))) (fun y10 ey10 => ?_) (fun k9 => ?_)
    rotate_left
    · refine lv_if_eq (tgt := 72) hx hb dc_To_skipBlanks_47 (by decide) (fun h47 => ?_) (fun h47 => ?_)
      · have hob := hob.1 h47
        refine lv_aload_n hx hb dc_To_skipBlanks_72 rfl (lv_at hl 0 rfl) ?_
        refine va_get (D := (dC, dI)) (ci := 11) (v := .ref text_) (C := "StrataBase$Tokens") (T := tb_To) (N := 6) hx hb hT in_To hown hK hP 0 rfl rfl 0 (by decide) (hT _ wd_194) (fun _ h9 => h9) rfl dc_To_skipBlanks_73 ?_
        refine lv_aload_n hx hb dc_To_skipBlanks_76 rfl (lv_at hl 0 rfl) ?_
        refine va_get (D := (dC, dI)) (ci := 11) (v := .int v3) (C := "StrataBase$Tokens") (T := tb_To) (N := 6) hx hb hT in_To hown hK hP 0 rfl rfl 3 (by decide) (hT _ wd_200) (fun _ h9 => h9) rfl dc_To_skipBlanks_77 ?_
        obtain ⟨hv11, hob⟩ := hob
        refine va_bald hx hb hK hP 1 0 rfl rfl hv11 dc_To_skipBlanks_80 ?_
        refine lv_bipush (v := 37) hx hb dc_To_skipBlanks_81 (by decide) ?_
        refine lv_icmp_ne (tgt := 90) hx hb dc_To_skipBlanks_83 (by decide) (fun h83 => ?_) (fun h83 => ?_)
        · refine lv_iconst (v := 0) hx hb dc_To_skipBlanks_90 (by decide) ?_
          exact k9 (0 : Int32) (by rw [if_pos h47, if_neg h83])
        · refine lv_iconst (v := 1) hx hb dc_To_skipBlanks_86 (by decide) ?_
          refine lv_goto (tgt := 91) hx hb dc_To_skipBlanks_87 (by decide) ?_
          exact k9 (1 : Int32) (by rw [if_pos h47, if_pos h83])
      · have hob := hob.2 h47
        refine lv_aload_n hx hb dc_To_skipBlanks_50 rfl (lv_at hl 0 rfl) ?_
        refine va_get (D := (dC, dI)) (ci := 11) (v := .ref text_) (C := "StrataBase$Tokens") (T := tb_To) (N := 6) hx hb hT in_To hown hK hP 0 rfl rfl 0 (by decide) (hT _ wd_194) (fun _ h9 => h9) rfl dc_To_skipBlanks_51 ?_
        refine lv_aload_n hx hb dc_To_skipBlanks_54 rfl (lv_at hl 0 rfl) ?_
        refine va_get (D := (dC, dI)) (ci := 11) (v := .int v3) (C := "StrataBase$Tokens") (T := tb_To) (N := 6) hx hb hT in_To hown hK hP 0 rfl rfl 3 (by decide) (hT _ wd_200) (fun _ h9 => h9) rfl dc_To_skipBlanks_55 ?_
        obtain ⟨hv12, hob⟩ := hob
        refine va_bald hx hb hK hP 1 0 rfl rfl hv12 dc_To_skipBlanks_58 ?_
        refine lv_bipush (v := 10) hx hb dc_To_skipBlanks_59 (by decide) ?_
        refine lv_icmp_eq (tgt := 68) hx hb dc_To_skipBlanks_61 (by decide) (fun h61 => ?_) (fun h61 => ?_)
        · refine lv_iconst (v := 0) hx hb dc_To_skipBlanks_68 (by decide) ?_
          refine lv_goto (tgt := 91) hx hb dc_To_skipBlanks_69 (by decide) ?_
          exact k9 (0 : Int32) (by rw [if_neg h47, if_pos h61])
        · refine lv_iconst (v := 1) hx hb dc_To_skipBlanks_64 (by decide) ?_
          refine lv_goto (tgt := 91) hx hb dc_To_skipBlanks_65 (by decide) ?_
          exact k9 (1 : Int32) (by rw [if_neg h47, if_neg h61])
    have hw := hw y10 ey10
    have hzy10 : y10 = 0 ∨ y10 = 1 := by
      rw [ey10]; repeat' split
      all_goals first | exact Or.inl rfl | exact Or.inr rfl
    refine lv_istore_n (lv' := [(1, .int y10), (0, .ref h0)]) hx hb dc_To_skipBlanks_91 rfl hl (by decide) rfl (fun ls hl => ?_)
    refine lv_aload_n hx hb dc_To_skipBlanks_92 rfl (lv_at hl 1 rfl) ?_
    refine lv_dup hx hb dc_To_skipBlanks_93 rfl ?_
    refine va_get (D := (dC, dI)) (ci := 11) (v := .int v3) (C := "StrataBase$Tokens") (T := tb_To) (N := 6) hx hb hT in_To hown hK hP 0 rfl rfl 3 (by decide) (hT _ wd_200) (fun _ h9 => h9) rfl dc_To_skipBlanks_94 ?_
    refine lv_iconst (v := 1) hx hb dc_To_skipBlanks_97 (by decide) ?_
    refine lv_iadd hx hb dc_To_skipBlanks_98 ?_
    refine lv_topi (fun y13 ey13 => ?_)
    have hw := hw y13 ey13
    refine va_put (D := (dC, dI)) (ci := 11) (v := .int y13) (ty := .int) (C := "StrataBase$Tokens") (T := tb_To) (N := 6) hx hb hT in_To ty_To tk_To nm_To hown hK hP hD hS 0 rfl rfl 3 (by decide) (hT _ wd_200) (fun _ h9 => h9) rfl (by decide +kernel) rfl rfl (Nat.le_of_ble_eq_true rfl) dc_To_skipBlanks_99 (fun H locs hP hD hS => ?_)
    have hP : va_P (dC, dI) vwCl [(h0, .inr (11, [.ref text_, .int kind_, .int start_, .int y13, .int value_, .int length_])), (text_, .inl (k_text, 65536, .inl F_text))] H := hP
    have hD : va_D A [(h0, .inr (11, [.ref text_, .int kind_, .int start_, .int y13, .int value_, .int length_])), (text_, .inl (k_text, 65536, .inl F_text))] := hD
    refine lv_goto (tgt := 2) hx hb dc_To_skipBlanks_102 (by decide) ?_
    exact ih1 (y10, y13) hw _ _ _ ⟨hK.sub [0] rfl, hP.sub [0, 1] rfl, hD.sub [0, 1] (by decide) rfl, hS, lv_sub hl [0, 1] rfl⟩

def wp_met_To_isNot (post : Int32 → Unit → Prop) (start_ : Int32) (stop_ : Int32) (F_text : Nat → Int32) : Prop := ∀ y1 : Int32, y1 = stop_ - start_ → ((((y1 = (3 : Int32) → (vp_in start_ 65536 ∧ ((((F_text start_.toNatClampNeg) = (110 : Int32) → (vp_in (start_ + (1 : Int32)) 65536 ∧ ((((F_text (start_ + (1 : Int32)).toNatClampNeg) = (111 : Int32) → (vp_in (start_ + (2 : Int32)) 65536 ∧ (True))) ∧ (¬ ((F_text (start_ + (1 : Int32)).toNatClampNeg) = (111 : Int32)) → (True)))))) ∧ (¬ ((F_text start_.toNatClampNeg) = (110 : Int32)) → (True)))))) ∧ (¬ (y1 = (3 : Int32)) → (True)))) ∧ (∀ y2 : Int32, y2 = (if y1 = (3 : Int32) then (if (F_text start_.toNatClampNeg) = (110 : Int32) then (if (F_text (start_ + (1 : Int32)).toNatClampNeg) = (111 : Int32) then (if (F_text (start_ + (2 : Int32)).toNatClampNeg) = (116 : Int32) then (1 : Int32) else (0 : Int32)) else (0 : Int32)) else (0 : Int32)) else (0 : Int32)) → (post y2 ())))
set_option maxHeartbeats 4000000 in
set_option maxRecDepth 100000 in
theorem met_To_isNot (l : Launch) (dC : Nat → ClassId) (dI : Nat → Nat → Nat) (h0 : Nat) (text_ : Nat) (kind_ : Int32) (start_ : Int32) (stop_ : Int32) (value_ : Int32) (length_ : Int32) (F_text : Nat → Int32) (k_text : ClassId) (sz : Nat) {post : Int32 → Unit → Prop} (hw : wp_met_To_isNot post start_ stop_ F_text) : Met l my_To_isNot (Cond.code my_To_isNot cd_To_isNot 1 (some (.boolean)) :: tblG) ({ frames := 0, cells := 0, slots := 0, locals := 0 }) (va_Pc [.ref h0] (fun U => U.heap.size = sz ∧ va_P (dC, dI) vwCl [(h0, .inr (11, [.ref text_, .int kind_, .int start_, .int stop_, .int value_, .int length_])), (text_, .inl (k_text, 65536, .inl F_text))] U.heap ∧ va_K (dC, dI) vwCl [(k_text, .byte)] U ∧ va_D (fun _ => True) [(h0, .inr (11, [.ref text_, .int kind_, .int start_, .int stop_, .int value_, .int length_])), (text_, .inl (k_text, 65536, .inl F_text))])) (va_Qi post (fun (u : Unit) (t : State) => va_P (dC, dI) vwCl [(h0, .inr (11, [.ref text_, .int kind_, .int start_, .int stop_, .int value_, .int length_])), (text_, .inl (k_text, 65536, .inl F_text))] t.heap ∧ va_K (dC, dI) vwCl [(k_text, .byte)] t ∧ va_D (va_A [(h0, .inr (11, [.ref text_, .int kind_, .int start_, .int stop_, .int value_, .int length_])), (text_, .inl (k_text, 65536, .inl F_text))] sz) [(h0, .inr (11, [.ref text_, .int kind_, .int start_, .int stop_, .int value_, .int length_])), (text_, .inl (k_text, 65536, .inl F_text))]) (va_A [(h0, .inr (11, [.ref text_, .int kind_, .int start_, .int stop_, .int value_, .int length_])), (text_, .inl (k_text, 65536, .inl F_text))] sz)) 0 0 (va_A [(h0, .inr (11, [.ref text_, .int kind_, .int start_, .int stop_, .int value_, .int length_])), (text_, .inl (k_text, 65536, .inl F_text))] sz) := by
  refine Met.ofW (cc := cd_To_isNot) (maxL := 1) (ret := (some (.boolean))) (by decide) rfl ?_
  intro p e s m args below meth c s₁ B hml hv
  obtain ⟨rfl, hsz, hP, hK, hD0⟩ := hv
  have hx := B.exec
  have hb := B.bytes
  have hr := B.returns
  have hT : ∀ w ∈ tblG, w.before _ s = true := fun w h => atoms_spec (ws := (Cond.code my_To_isNot cd_To_isNot 1 (some (.boolean)) :: tblG)) B.pre w (List.mem_cons_of_mem _ h)
  have hown : s.vm.findClass "StrataBase$Tokens" = some m.cls := findClass_of_methodNamed B.named
  have hlocks := B.notSynchronized
  subst hsz
  have hD := hD0.self (sz := s.heap.size)
  generalize hAe : va_A [(h0, .inr (11, [.ref text_, .int kind_, .int start_, .int stop_, .int value_, .int length_])), (text_, .inl (k_text, 65536, .inl F_text))] s.heap.size = A at hD ⊢
  have hA : ∀ q : Nat, s.heap.size ≤ q → A q := fun q h => by rw [← hAe]; exact Or.inr h
  have hS : va_S A s.heap s.heap [] := va_S.rf
  have hl := lv_entry ([.ref h0]) (n := 1) (Nat.le_of_ble_eq_true rfl)
  rw [lg_entry_eq]
  generalize (lg_sl ([.ref h0]) ++ List.replicate (1 - (lg_sl ([.ref h0])).length) Slot.unset).toArray = ls at hl ⊢
  have hl : lv_has ls 1 [(0, .ref h0)] := hl
  unfold wp_met_To_isNot at hw
  refine lv_aload_n hx hb dc_To_isNot_0 rfl (lv_at hl 0 rfl) ?_
  refine va_get (D := (dC, dI)) (ci := 11) (v := .int stop_) (C := "StrataBase$Tokens") (T := tb_To) (N := 6) hx hb hT in_To hown hK hP 0 rfl rfl 3 (by decide) (hT _ wd_200) (fun _ h9 => h9) rfl dc_To_isNot_1 ?_
  refine lv_aload_n hx hb dc_To_isNot_4 rfl (lv_at hl 0 rfl) ?_
  refine va_get (D := (dC, dI)) (ci := 11) (v := .int start_) (C := "StrataBase$Tokens") (T := tb_To) (N := 6) hx hb hT in_To hown hK hP 0 rfl rfl 2 (by decide) (hT _ wd_198) (fun _ h9 => h9) rfl dc_To_isNot_5 ?_
  refine lv_isub hx hb dc_To_isNot_8 ?_
  refine lv_topi (fun y1 ey1 => ?_)
  have hw := hw y1 ey1
  refine lv_iconst (v := 3) hx hb dc_To_isNot_9 (by decide) ?_
  obtain ⟨hob, hw⟩ := hw
  refine jn_top (pc2 := 64) (rest := []) (fun y2 => y2 = (if y1 = (3 : Int32) then (if (F_text start_.toNatClampNeg) = (110 : Int32) then (if (F_text (start_ + (1 : Int32)).toNatClampNeg) = (111 : Int32) then (if (F_text (start_ + (2 : Int32)).toNatClampNeg) = (116 : Int32) then (1 : Int32) else (0 : Int32)) else (0 : Int32)) else (0 : Int32)) else (0 : Int32))) (fun y2 ey2 => ?_) (fun k9 => ?_)
  rotate_left
  · refine lv_icmp_ne (tgt := 63) hx hb dc_To_isNot_10 (by decide) (fun h10 => ?_) (fun h10 => ?_)
    · have hob := hob.2 h10
      refine lv_iconst (v := 0) hx hb dc_To_isNot_63 (by decide) ?_
      exact k9 (0 : Int32) (by rw [if_neg h10])
    · have hob := hob.1 h10
      refine lv_aload_n hx hb dc_To_isNot_13 rfl (lv_at hl 0 rfl) ?_
      refine va_get (D := (dC, dI)) (ci := 11) (v := .ref text_) (C := "StrataBase$Tokens") (T := tb_To) (N := 6) hx hb hT in_To hown hK hP 0 rfl rfl 0 (by decide) (hT _ wd_194) (fun _ h9 => h9) rfl dc_To_isNot_14 ?_
      refine lv_aload_n hx hb dc_To_isNot_17 rfl (lv_at hl 0 rfl) ?_
      refine va_get (D := (dC, dI)) (ci := 11) (v := .int start_) (C := "StrataBase$Tokens") (T := tb_To) (N := 6) hx hb hT in_To hown hK hP 0 rfl rfl 2 (by decide) (hT _ wd_198) (fun _ h9 => h9) rfl dc_To_isNot_18 ?_
      obtain ⟨hv3, hob⟩ := hob
      refine va_bald hx hb hK hP 1 0 rfl rfl hv3 dc_To_isNot_21 ?_
      refine lv_bipush (v := 110) hx hb dc_To_isNot_22 (by decide) ?_
      refine lv_icmp_ne (tgt := 63) hx hb dc_To_isNot_24 (by decide) (fun h24 => ?_) (fun h24 => ?_)
      · have hob := hob.2 h24
        refine lv_iconst (v := 0) hx hb dc_To_isNot_63 (by decide) ?_
        exact k9 (0 : Int32) (by rw [if_pos h10, if_neg h24])
      · have hob := hob.1 h24
        refine lv_aload_n hx hb dc_To_isNot_27 rfl (lv_at hl 0 rfl) ?_
        refine va_get (D := (dC, dI)) (ci := 11) (v := .ref text_) (C := "StrataBase$Tokens") (T := tb_To) (N := 6) hx hb hT in_To hown hK hP 0 rfl rfl 0 (by decide) (hT _ wd_194) (fun _ h9 => h9) rfl dc_To_isNot_28 ?_
        refine lv_aload_n hx hb dc_To_isNot_31 rfl (lv_at hl 0 rfl) ?_
        refine va_get (D := (dC, dI)) (ci := 11) (v := .int start_) (C := "StrataBase$Tokens") (T := tb_To) (N := 6) hx hb hT in_To hown hK hP 0 rfl rfl 2 (by decide) (hT _ wd_198) (fun _ h9 => h9) rfl dc_To_isNot_32 ?_
        refine lv_iconst (v := 1) hx hb dc_To_isNot_35 (by decide) ?_
        refine lv_iadd hx hb dc_To_isNot_36 ?_
        obtain ⟨hv4, hob⟩ := hob
        refine va_bald hx hb hK hP 1 0 rfl rfl hv4 dc_To_isNot_37 ?_
        refine lv_bipush (v := 111) hx hb dc_To_isNot_38 (by decide) ?_
        refine lv_icmp_ne (tgt := 63) hx hb dc_To_isNot_40 (by decide) (fun h40 => ?_) (fun h40 => ?_)
        · have hob := hob.2 h40
          refine lv_iconst (v := 0) hx hb dc_To_isNot_63 (by decide) ?_
          exact k9 (0 : Int32) (by rw [if_pos h10, if_pos h24, if_neg h40])
        · have hob := hob.1 h40
          refine lv_aload_n hx hb dc_To_isNot_43 rfl (lv_at hl 0 rfl) ?_
          refine va_get (D := (dC, dI)) (ci := 11) (v := .ref text_) (C := "StrataBase$Tokens") (T := tb_To) (N := 6) hx hb hT in_To hown hK hP 0 rfl rfl 0 (by decide) (hT _ wd_194) (fun _ h9 => h9) rfl dc_To_isNot_44 ?_
          refine lv_aload_n hx hb dc_To_isNot_47 rfl (lv_at hl 0 rfl) ?_
          refine va_get (D := (dC, dI)) (ci := 11) (v := .int start_) (C := "StrataBase$Tokens") (T := tb_To) (N := 6) hx hb hT in_To hown hK hP 0 rfl rfl 2 (by decide) (hT _ wd_198) (fun _ h9 => h9) rfl dc_To_isNot_48 ?_
          refine lv_iconst (v := 2) hx hb dc_To_isNot_51 (by decide) ?_
          refine lv_iadd hx hb dc_To_isNot_52 ?_
          obtain ⟨hv5, hob⟩ := hob
          refine va_bald hx hb hK hP 1 0 rfl rfl hv5 dc_To_isNot_53 ?_
          refine lv_bipush (v := 116) hx hb dc_To_isNot_54 (by decide) ?_
          refine lv_icmp_ne (tgt := 63) hx hb dc_To_isNot_56 (by decide) (fun h56 => ?_) (fun h56 => ?_)
          · refine lv_iconst (v := 0) hx hb dc_To_isNot_63 (by decide) ?_
            exact k9 (0 : Int32) (by rw [if_pos h10, if_pos h24, if_pos h40, if_neg h56])
          · refine lv_iconst (v := 1) hx hb dc_To_isNot_59 (by decide) ?_
            refine lv_goto (tgt := 64) hx hb dc_To_isNot_60 (by decide) ?_
            exact k9 (1 : Int32) (by rw [if_pos h10, if_pos h24, if_pos h40, if_pos h56])
  have hw := hw y2 ey2
  have hzy2 : y2 = 0 ∨ y2 = 1 := by
    rw [ey2]; repeat' split
    all_goals first | exact Or.inl rfl | exact Or.inr rfl
  refine W.widen (k := 0) (n := 0) (Nat.le_of_ble_eq_true rfl) (Nat.le_of_ble_eq_true rfl) ?_
  exact W.zret (v := y2) hx hb hr (nz_n hzy2) (fun t ht hW => ⟨⟨y2, (), rfl, hw, by rw [ht]; exact hP, va_K.moved hW.alike hK, hD⟩, hS.F ht⟩) hS.2.2 dc_To_isNot_64

def jw_met_To_readWord_52 (post : (Int32 × Int32) → Prop) (r3 : Int32) (v5 : Int32) (start_ : Int32) (F_text : Nat → Int32) : (Unit) → Prop
  | _ => ((r3 = 0 → (post ((3 : Int32), v5))) ∧ (¬ (r3 = 0) → (wp_met_To_isNot (fun (r11 : Int32) (_ : Unit) => (∀ y12 : Int32, y12 = (if r11 = 0 then (2 : Int32) else (5 : Int32)) → (post (y12, v5)))) start_ v5 F_text)))
def lw_met_To_readWord_13 (post : (Int32 × Int32) → Prop) (length_ : Int32) (F_text : Nat → Int32) (r3 : Int32) (start_ : Int32) : Nat → (Int32) → Prop
  | 0, _ => False
  | n4_ + 1, v5 => ((length_ ≤ v5 → (jw_met_To_readWord_52 post r3 v5 start_ F_text ())) ∧ (¬ (length_ ≤ v5) → (vp_in v5 65536 ∧ (∀ y8 : Int32, y8 = F_text v5.toNatClampNeg → (wp_met_To_isWordByte (fun (r9 : Int32) (_ : Unit) => (((r9 = 0 → (jw_met_To_readWord_52 post r3 v5 start_ F_text ())) ∧ (¬ (r9 = 0) → (∀ y10 : Int32, y10 = v5 + (1 : Int32) → (lw_met_To_readWord_13 post length_ F_text r3 start_ n4_ y10)))))) y8)))))
def wp_met_To_readWord (post : (Int32 × Int32) → Prop) (start_ : Int32) (stop_ : Int32) (length_ : Int32) (F_text : Nat → Int32) : Prop := vp_in stop_ 65536 ∧ (∀ y2 : Int32, y2 = F_text stop_.toNatClampNeg → (wp_met_To_isSmall (fun (r3 : Int32) (_ : Unit) => (∃ n9 : Nat, lw_met_To_readWord_13 post length_ F_text r3 start_ n9 stop_)) y2))
set_option maxHeartbeats 4000000 in
set_option maxRecDepth 100000 in
theorem met_To_readWord (l : Launch) (dC : Nat → ClassId) (dI : Nat → Nat → Nat) (h0 : Nat) (text_ : Nat) (kind_ : Int32) (start_ : Int32) (stop_ : Int32) (value_ : Int32) (length_ : Int32) (F_text : Nat → Int32) (k_text : ClassId) (sz : Nat) {post : (Int32 × Int32) → Prop} (hw : wp_met_To_readWord post start_ stop_ length_ F_text) : Met l my_To_readWord (Cond.code my_To_readWord cd_To_readWord 2 none :: tblG) ({ frames := 2, cells := 0, slots := 0, locals := 40 }) (va_Pc [.ref h0] (fun U => U.heap.size = sz ∧ va_P (dC, dI) vwCl [(h0, .inr (11, [.ref text_, .int kind_, .int start_, .int stop_, .int value_, .int length_])), (text_, .inl (k_text, 65536, .inl F_text))] U.heap ∧ va_K (dC, dI) vwCl [(k_text, .byte)] U ∧ va_D (fun _ => True) [(h0, .inr (11, [.ref text_, .int kind_, .int start_, .int stop_, .int value_, .int length_])), (text_, .inl (k_text, 65536, .inl F_text))])) (va_Qv post (fun (u : Int32 × Int32) (t : State) => match u with | (o0, o1) => va_P (dC, dI) vwCl [(h0, .inr (11, [.ref text_, .int o0, .int start_, .int o1, .int value_, .int length_])), (text_, .inl (k_text, 65536, .inl F_text))] t.heap ∧ va_K (dC, dI) vwCl [(k_text, .byte)] t ∧ va_D (va_A [(h0, .inr (11, [.ref text_, .int kind_, .int start_, .int stop_, .int value_, .int length_])), (text_, .inl (k_text, 65536, .inl F_text))] sz) [(h0, .inr (11, [.ref text_, .int o0, .int start_, .int o1, .int value_, .int length_])), (text_, .inl (k_text, 65536, .inl F_text))]) (va_A [(h0, .inr (11, [.ref text_, .int kind_, .int start_, .int stop_, .int value_, .int length_])), (text_, .inl (k_text, 65536, .inl F_text))] sz)) 0 0 (va_A [(h0, .inr (11, [.ref text_, .int kind_, .int start_, .int stop_, .int value_, .int length_])), (text_, .inl (k_text, 65536, .inl F_text))] sz) := by
  refine Met.ofW (cc := cd_To_readWord) (maxL := 2) (ret := none) (by decide) rfl ?_
  intro p e s m args below meth c s₁ B hml hv
  obtain ⟨rfl, hsz, hP, hK, hD0⟩ := hv
  have hx := B.exec
  have hb := B.bytes
  have hr := B.returns
  have hT : ∀ w ∈ tblG, w.before _ s = true := fun w h => atoms_spec (ws := (Cond.code my_To_readWord cd_To_readWord 2 none :: tblG)) B.pre w (List.mem_cons_of_mem _ h)
  have hown : s.vm.findClass "StrataBase$Tokens" = some m.cls := findClass_of_methodNamed B.named
  have hlocks := B.notSynchronized
  subst hsz
  have hD := hD0.self (sz := s.heap.size)
  generalize hAe : va_A [(h0, .inr (11, [.ref text_, .int kind_, .int start_, .int stop_, .int value_, .int length_])), (text_, .inl (k_text, 65536, .inl F_text))] s.heap.size = A at hD ⊢
  have hA : ∀ q : Nat, s.heap.size ≤ q → A q := fun q h => by rw [← hAe]; exact Or.inr h
  have hS : va_S A s.heap s.heap [] := va_S.rf
  have hl := lv_entry ([.ref h0]) (n := 2) (Nat.le_of_ble_eq_true rfl)
  rw [lg_entry_eq]
  generalize (lg_sl ([.ref h0]) ++ List.replicate (2 - (lg_sl ([.ref h0])).length) Slot.unset).toArray = ls at hl ⊢
  have hl : lv_has ls 2 [(0, .ref h0)] := hl
  unfold wp_met_To_readWord at hw
  refine lv_aload_n hx hb dc_To_readWord_0 rfl (lv_at hl 0 rfl) ?_
  refine va_get (D := (dC, dI)) (ci := 11) (v := .ref text_) (C := "StrataBase$Tokens") (T := tb_To) (N := 6) hx hb hT in_To hown hK hP 0 rfl rfl 0 (by decide) (hT _ wd_194) (fun _ h9 => h9) rfl dc_To_readWord_1 ?_
  refine lv_aload_n hx hb dc_To_readWord_4 rfl (lv_at hl 0 rfl) ?_
  refine va_get (D := (dC, dI)) (ci := 11) (v := .int stop_) (C := "StrataBase$Tokens") (T := tb_To) (N := 6) hx hb hT in_To hown hK hP 0 rfl rfl 3 (by decide) (hT _ wd_200) (fun _ h9 => h9) rfl dc_To_readWord_5 ?_
  obtain ⟨hv1, hw⟩ := hw
  refine va_bald hx hb hK hP 1 0 rfl rfl hv1 dc_To_readWord_8 ?_
  refine lv_topi (fun y2 ey2 => ?_)
  have hw := hw y2 ey2
  have hPc := hP.sub (ws' := []) [] rfl
  have hDc := hD.sub (ws' := []) [] (by decide) rfl
  have hKc := hK.sub (tys' := []) [] rfl
  have hFc := va_free (wc := []) hD hS hA [] rfl
  refine va_calli (va_runS (As := [.int y2]) (rest := []) ⟨hx, hb, hml, hown, hT⟩ (met_To_isSmall l dC dI y2 s.heap.size hw) (va_cwS 1 hT (gd_S wd_617 wd_618 wd_7 wd_619) rfl rfl rfl (by decide +kernel) ⟨Nat.le_of_ble_eq_true rfl, Nat.le_of_ble_eq_true rfl⟩) ⟨fun a U g mk q => by obtain ⟨q0, q1, qP, qK, qD⟩ := q; exact ⟨q0, q1, qP, va_K.moved (u := U) (U := U.calling g mk a) (Vm.Alike.refl U.vm) qK, qD⟩, fun U hU hW => ⟨rfl, by rw [hU], by rw [hU]; exact hPc, va_K.moved hW.alike hKc, hDc.weaken (fun _ _ _ _ => trivial)⟩⟩ rfl rfl hl.1 rfl (lv_room (Nat.le_of_ble_eq_true rfl)) dc_To_readWord_9 ⟨(Nat.le_of_ble_eq_true rfl), (Nat.le_of_ble_eq_true rfl)⟩) hS (fun q _ h => hFc q h) hFc (fun r3 _ t H1 locs ht hvm hw hB hz1 hk1 hS => ?_)
  obtain ⟨hP1, hK1, hD1⟩ := hB
  rw [ht] at hP1
  have hK1 := va_K.moved hvm.symm hK1
  obtain ⟨hP, hD⟩ := va_join (wr := [(h0, .inr (11, [.ref text_, .int kind_, .int start_, .int stop_, .int value_, .int length_])), (text_, .inl (k_text, 65536, .inl F_text))]) (w1 := []) hP hD [] [0, 1] rfl rfl (by decide) (by decide) hk1 hFc hP1 hD1
  have hK := (hK.sub (tys' := [(k_text, .byte)]) [0] rfl).app hK1
  generalize H1 = H at hP hS ⊢
  have hP : va_P (dC, dI) vwCl [(h0, .inr (11, [.ref text_, .int kind_, .int start_, .int stop_, .int value_, .int length_])), (text_, .inl (k_text, 65536, .inl F_text))] H := hP
  have hD : va_D A [(h0, .inr (11, [.ref text_, .int kind_, .int start_, .int stop_, .int value_, .int length_])), (text_, .inl (k_text, 65536, .inl F_text))] := hD
  have hK : va_K (dC, dI) vwCl [(k_text, .byte)] s := hK
  refine lv_istore_n (lv' := [(1, .int r3), (0, .ref h0)]) hx hb dc_To_readWord_12 rfl hl (by decide) rfl (fun ls hl => ?_)
  obtain ⟨n9, hw⟩ := hw
  refine lp_fuel (σ := Int32) _ (fun x9 H locs ls => match x9 with | v5 => va_K (dC, dI) vwCl [(k_text, .byte)] s ∧ va_P (dC, dI) vwCl [(h0, .inr (11, [.ref text_, .int kind_, .int start_, .int v5, .int value_, .int length_])), (text_, .inl (k_text, 65536, .inl F_text))] H ∧ va_D A [(h0, .inr (11, [.ref text_, .int kind_, .int start_, .int v5, .int value_, .int length_])), (text_, .inl (k_text, 65536, .inl F_text))] ∧ va_S A s.heap H locs ∧ lv_has ls 2 [(1, .int r3), (0, .ref h0)]) (fun x9 h9 => by simp only [lw_met_To_readWord_13] at h9) ?_ hw ⟨hK.sub [0] rfl, hP.sub [0, 1] rfl, hD.sub [0, 1] (by decide) rfl, hS, lv_sub hl [0, 1] rfl⟩
  intro n4_ x9 hw ih4 H locs ls hI
  obtain ⟨v5, rfl⟩ : ∃ z9, z9 = x9 := ⟨_, rfl⟩
  obtain ⟨hK, hP, hD, hS, hl⟩ := hI
  unfold lw_met_To_readWord_13 at hw
  refine lv_aload_n hx hb dc_To_readWord_13 rfl (lv_at hl 1 rfl) ?_
  refine va_get (D := (dC, dI)) (ci := 11) (v := .int v5) (C := "StrataBase$Tokens") (T := tb_To) (N := 6) hx hb hT in_To hown hK hP 0 rfl rfl 3 (by decide) (hT _ wd_200) (fun _ h9 => h9) rfl dc_To_readWord_14 ?_
  refine lv_aload_n hx hb dc_To_readWord_17 rfl (lv_at hl 1 rfl) ?_
  refine va_get (D := (dC, dI)) (ci := 11) (v := .int length_) (C := "StrataBase$Tokens") (T := tb_To) (N := 6) hx hb hT in_To hown hK hP 0 rfl rfl 5 (by decide) (hT _ wd_204) (fun _ h9 => h9) rfl dc_To_readWord_18 ?_
  refine jn_st (σ := Unit) (pc2 := 52) (fun x9 => jw_met_To_readWord_52 post r3 v5 start_ F_text x9) (fun _ => []) (fun _ H locs ls => va_K (dC, dI) vwCl [(k_text, .byte)] s ∧ va_P (dC, dI) vwCl [(h0, .inr (11, [.ref text_, .int kind_, .int start_, .int v5, .int value_, .int length_])), (text_, .inl (k_text, 65536, .inl F_text))] H ∧ va_D A [(h0, .inr (11, [.ref text_, .int kind_, .int start_, .int v5, .int value_, .int length_])), (text_, .inl (k_text, 65536, .inl F_text))] ∧ va_S A s.heap H locs ∧ lv_has ls 2 [(0, .ref h0), (1, .int r3)]) ?_ (fun k6 => ?_)
  rotate_left
  · refine lv_icmp_ge (tgt := 52) hx hb dc_To_readWord_21 (by decide) (fun h21 => ?_) (fun h21 => ?_)
    · have hw := hw.1 h21
      exact k6 () hw _ _ _ ⟨hK.sub [0] rfl, hP.sub [0, 1] rfl, hD.sub [0, 1] (by decide) rfl, hS, lv_sub hl [1, 0] rfl⟩
    · have hw := hw.2 h21
      refine lv_aload_n hx hb dc_To_readWord_24 rfl (lv_at hl 1 rfl) ?_
      refine va_get (D := (dC, dI)) (ci := 11) (v := .ref text_) (C := "StrataBase$Tokens") (T := tb_To) (N := 6) hx hb hT in_To hown hK hP 0 rfl rfl 0 (by decide) (hT _ wd_194) (fun _ h9 => h9) rfl dc_To_readWord_25 ?_
      refine lv_aload_n hx hb dc_To_readWord_28 rfl (lv_at hl 1 rfl) ?_
      refine va_get (D := (dC, dI)) (ci := 11) (v := .int v5) (C := "StrataBase$Tokens") (T := tb_To) (N := 6) hx hb hT in_To hown hK hP 0 rfl rfl 3 (by decide) (hT _ wd_200) (fun _ h9 => h9) rfl dc_To_readWord_29 ?_
      obtain ⟨hv7, hw⟩ := hw
      refine va_bald hx hb hK hP 1 0 rfl rfl hv7 dc_To_readWord_32 ?_
      refine lv_topi (fun y8 ey8 => ?_)
      have hw := hw y8 ey8
      have hPc := hP.sub (ws' := []) [] rfl
      have hDc := hD.sub (ws' := []) [] (by decide) rfl
      have hKc := hK.sub (tys' := []) [] rfl
      have hFc := va_free (wc := []) hD hS hA [] rfl
      refine va_calli (va_runS (As := [.int y8]) (rest := []) ⟨hx, hb, hml, hown, hT⟩ (met_To_isWordByte l dC dI y8 H.size hw) (va_cwS 1 hT (gd_S wd_614 wd_615 wd_7 wd_616) rfl rfl rfl (by decide +kernel) ⟨Nat.le_of_ble_eq_true rfl, Nat.le_of_ble_eq_true rfl⟩) ⟨fun a U g mk q => by obtain ⟨q0, q1, qP, qK, qD⟩ := q; exact ⟨q0, q1, qP, va_K.moved (u := U) (U := U.calling g mk a) (Vm.Alike.refl U.vm) qK, qD⟩, fun U hU hW => ⟨rfl, by rw [hU], by rw [hU]; exact hPc, va_K.moved hW.alike hKc, hDc.weaken (fun _ _ _ _ => trivial)⟩⟩ rfl rfl hl.1 rfl (lv_room (Nat.le_of_ble_eq_true rfl)) dc_To_readWord_33 ⟨(Nat.le_of_ble_eq_true rfl), (Nat.le_of_ble_eq_true rfl)⟩) hS (fun q _ h => hFc q h) hFc (fun r9 _ t H1 locs ht hvm hw hB hz1 hk1 hS => ?_)
      obtain ⟨hP1, hK1, hD1⟩ := hB
      rw [ht] at hP1
      have hK1 := va_K.moved hvm.symm hK1
      obtain ⟨hP, hD⟩ := va_join (wr := [(h0, .inr (11, [.ref text_, .int kind_, .int start_, .int v5, .int value_, .int length_])), (text_, .inl (k_text, 65536, .inl F_text))]) (w1 := []) hP hD [] [0, 1] rfl rfl (by decide) (by decide) hk1 hFc hP1 hD1
      have hK := (hK.sub (tys' := [(k_text, .byte)]) [0] rfl).app hK1
      generalize H1 = H at hP hS ⊢
      have hP : va_P (dC, dI) vwCl [(h0, .inr (11, [.ref text_, .int kind_, .int start_, .int v5, .int value_, .int length_])), (text_, .inl (k_text, 65536, .inl F_text))] H := hP
      have hD : va_D A [(h0, .inr (11, [.ref text_, .int kind_, .int start_, .int v5, .int value_, .int length_])), (text_, .inl (k_text, 65536, .inl F_text))] := hD
      have hK : va_K (dC, dI) vwCl [(k_text, .byte)] s := hK
      refine lv_if_eq (tgt := 52) hx hb dc_To_readWord_36 (by decide) (fun h36 => ?_) (fun h36 => ?_)
      · have hw := hw.1 h36
        exact k6 () hw _ _ _ ⟨hK.sub [0] rfl, hP.sub [0, 1] rfl, hD.sub [0, 1] (by decide) rfl, hS, lv_sub hl [1, 0] rfl⟩
      · have hw := hw.2 h36
        refine lv_aload_n hx hb dc_To_readWord_39 rfl (lv_at hl 1 rfl) ?_
        refine lv_dup hx hb dc_To_readWord_40 rfl ?_
        refine va_get (D := (dC, dI)) (ci := 11) (v := .int v5) (C := "StrataBase$Tokens") (T := tb_To) (N := 6) hx hb hT in_To hown hK hP 0 rfl rfl 3 (by decide) (hT _ wd_200) (fun _ h9 => h9) rfl dc_To_readWord_41 ?_
        refine lv_iconst (v := 1) hx hb dc_To_readWord_44 (by decide) ?_
        refine lv_iadd hx hb dc_To_readWord_45 ?_
        refine lv_topi (fun y10 ey10 => ?_)
        have hw := hw y10 ey10
        refine va_put (D := (dC, dI)) (ci := 11) (v := .int y10) (ty := .int) (C := "StrataBase$Tokens") (T := tb_To) (N := 6) hx hb hT in_To ty_To tk_To nm_To hown hK hP hD hS 0 rfl rfl 3 (by decide) (hT _ wd_200) (fun _ h9 => h9) rfl (by decide +kernel) rfl rfl (Nat.le_of_ble_eq_true rfl) dc_To_readWord_46 (fun H locs hP hD hS => ?_)
        have hP : va_P (dC, dI) vwCl [(h0, .inr (11, [.ref text_, .int kind_, .int start_, .int y10, .int value_, .int length_])), (text_, .inl (k_text, 65536, .inl F_text))] H := hP
        have hD : va_D A [(h0, .inr (11, [.ref text_, .int kind_, .int start_, .int y10, .int value_, .int length_])), (text_, .inl (k_text, 65536, .inl F_text))] := hD
        refine lv_goto (tgt := 13) hx hb dc_To_readWord_49 (by decide) ?_
        exact ih4 y10 hw _ _ _ ⟨hK.sub [0] rfl, hP.sub [0, 1] rfl, hD.sub [0, 1] (by decide) rfl, hS, lv_sub hl [0, 1] rfl⟩
  intro x9 hw H locs ls hI
  obtain ⟨hK, hP, hD, hS, hl⟩ := hI
  unfold jw_met_To_readWord_52 at hw
  refine W.eq (g2 := F0 m 52 ls []) rfl ?_
  refine lv_iload_n hx hb dc_To_readWord_52 rfl (lv_at hl 1 rfl) ?_
  refine lv_if_eq (tgt := 75) hx hb dc_To_readWord_53 (by decide) (fun h53 => ?_) (fun h53 => ?_)
  · have hw := hw.1 h53
    refine lv_aload_n hx hb dc_To_readWord_75 rfl (lv_at hl 0 rfl) ?_
    refine lv_iconst (v := 3) hx hb dc_To_readWord_76 (by decide) ?_
    refine va_put (D := (dC, dI)) (ci := 11) (v := .int 3) (ty := .int) (C := "StrataBase$Tokens") (T := tb_To) (N := 6) hx hb hT in_To ty_To tk_To nm_To hown hK hP hD hS 0 rfl rfl 1 (by decide) (hT _ wd_196) (fun _ h9 => h9) rfl (by decide +kernel) rfl rfl (Nat.le_of_ble_eq_true rfl) dc_To_readWord_77 (fun H locs hP hD hS => ?_)
    have hP : va_P (dC, dI) vwCl [(h0, .inr (11, [.ref text_, .int 3, .int start_, .int v5, .int value_, .int length_])), (text_, .inl (k_text, 65536, .inl F_text))] H := hP
    have hD : va_D A [(h0, .inr (11, [.ref text_, .int 3, .int start_, .int v5, .int value_, .int length_])), (text_, .inl (k_text, 65536, .inl F_text))] := hD
    refine W.widen (k := 0) (n := 0) (Nat.le_of_ble_eq_true rfl) (Nat.le_of_ble_eq_true rfl) ?_
    exact W.vret hx hb hr (fun t ht hW => ⟨⟨((3 : Int32), v5), rfl, hw, by rw [ht]; exact hP, va_K.moved hW.alike hK, hD⟩, hS.F ht⟩) hS.2.2 dc_To_readWord_80
  · have hw := hw.2 h53
    refine lv_aload_n hx hb dc_To_readWord_56 rfl (lv_at hl 0 rfl) ?_
    refine lv_aload_n hx hb dc_To_readWord_57 rfl (lv_at hl 0 rfl) ?_
    have hPc := hP.sub (ws' := [(h0, .inr (11, [.ref text_, .int kind_, .int start_, .int v5, .int value_, .int length_])), (text_, .inl (k_text, 65536, .inl F_text))]) [0, 1] rfl
    have hDc := hD.sub (ws' := [(h0, .inr (11, [.ref text_, .int kind_, .int start_, .int v5, .int value_, .int length_])), (text_, .inl (k_text, 65536, .inl F_text))]) [0, 1] (by decide) rfl
    have hKc := hK.sub (tys' := [(k_text, .byte)]) [0] rfl
    have hFc := va_free (wc := [(h0, .inr (11, [.ref text_, .int kind_, .int start_, .int v5, .int value_, .int length_])), (text_, .inl (k_text, 65536, .inl F_text))]) hD hS hA [0, 1] rfl
    refine va_calli (va_runV (As := []) (rest := [.ref h0]) ⟨hx, hb, hml, hown, hT⟩ (met_To_isNot l dC dI h0 text_ kind_ start_ v5 value_ length_ F_text k_text H.size hw) (cwV 0 hT (gd_V wd_627 wd_629 sl_To_isNot wd_7 wd_630) rfl rfl rfl (by decide +kernel) ⟨Nat.le_of_ble_eq_true rfl, Nat.le_of_ble_eq_true rfl⟩) ⟨fun a U g mk q => by obtain ⟨q0, q1, qP, qK, qD⟩ := q; exact ⟨q0, q1, qP, va_K.moved (u := U) (U := U.calling g mk a) (Vm.Alike.refl U.vm) qK, qD⟩, va_recv hK hP (q0 := 0) (ci := 11) rfl rfl, fun U hU hW => ⟨rfl, by rw [hU], by rw [hU]; exact hPc, va_K.moved hW.alike hKc, hDc.weaken (fun _ _ _ _ => trivial)⟩⟩ rfl rfl hl.1 rfl (lv_room (Nat.le_of_ble_eq_true rfl)) dc_To_readWord_58 ⟨(Nat.le_of_ble_eq_true rfl), (Nat.le_of_ble_eq_true rfl)⟩) hS (fun q _ h => hFc q h) hFc (fun r11 _ t H1 locs ht hvm hw hB hz1 hk1 hS => ?_)
    obtain ⟨hP1, hK1, hD1⟩ := hB
    rw [ht] at hP1
    have hK1 := va_K.moved hvm.symm hK1
    obtain ⟨hP, hD⟩ := va_join (wr := []) (w1 := [(h0, .inr (11, [.ref text_, .int kind_, .int start_, .int v5, .int value_, .int length_])), (text_, .inl (k_text, 65536, .inl F_text))]) hP hD [0, 1] [] rfl rfl (by decide) (by decide) hk1 hFc hP1 hD1
    have hK := (hK.sub (tys' := []) [] rfl).app hK1
    generalize H1 = H at hP hS ⊢
    have hP : va_P (dC, dI) vwCl [(h0, .inr (11, [.ref text_, .int kind_, .int start_, .int v5, .int value_, .int length_])), (text_, .inl (k_text, 65536, .inl F_text))] H := hP
    have hD : va_D A [(h0, .inr (11, [.ref text_, .int kind_, .int start_, .int v5, .int value_, .int length_])), (text_, .inl (k_text, 65536, .inl F_text))] := hD
    have hK : va_K (dC, dI) vwCl [(k_text, .byte)] s := hK
    refine jn_top (pc2 := 69) (rest := [.ref h0]) (fun y12 => y12 = (if r11 = 0 then (2 : Int32) else (5 : Int32))) (fun y12 ey12 => ?_) (fun k9 => ?_)
    rotate_left
    · refine lv_if_eq (tgt := 68) hx hb dc_To_readWord_61 (by decide) (fun h61 => ?_) (fun h61 => ?_)
      · refine lv_iconst (v := 2) hx hb dc_To_readWord_68 (by decide) ?_
        exact k9 (2 : Int32) (by rw [if_pos h61])
      · refine lv_iconst (v := 5) hx hb dc_To_readWord_64 (by decide) ?_
        refine lv_goto (tgt := 69) hx hb dc_To_readWord_65 (by decide) ?_
        exact k9 (5 : Int32) (by rw [if_neg h61])
    have hw := hw y12 ey12
    refine va_put (D := (dC, dI)) (ci := 11) (v := .int y12) (ty := .int) (C := "StrataBase$Tokens") (T := tb_To) (N := 6) hx hb hT in_To ty_To tk_To nm_To hown hK hP hD hS 0 rfl rfl 1 (by decide) (hT _ wd_196) (fun _ h9 => h9) rfl (by decide +kernel) rfl rfl (Nat.le_of_ble_eq_true rfl) dc_To_readWord_69 (fun H locs hP hD hS => ?_)
    have hP : va_P (dC, dI) vwCl [(h0, .inr (11, [.ref text_, .int y12, .int start_, .int v5, .int value_, .int length_])), (text_, .inl (k_text, 65536, .inl F_text))] H := hP
    have hD : va_D A [(h0, .inr (11, [.ref text_, .int y12, .int start_, .int v5, .int value_, .int length_])), (text_, .inl (k_text, 65536, .inl F_text))] := hD
    refine lv_goto (tgt := 80) hx hb dc_To_readWord_72 (by decide) ?_
    refine W.widen (k := 0) (n := 0) (Nat.le_of_ble_eq_true rfl) (Nat.le_of_ble_eq_true rfl) ?_
    exact W.vret hx hb hr (fun t ht hW => ⟨⟨(y12, v5), rfl, hw, by rw [ht]; exact hP, va_K.moved hW.alike hK, hD⟩, hS.F ht⟩) hS.2.2 dc_To_readWord_80

def jw_met_To_readNumber_107 (post : (Int32 × Int32 × Int32) → Prop) (y3 : Int32) (v8 : Int64) (v9 : Int32) (v6 : Int32) : (Unit) → Prop
  | _ => ∀ y22 : Int64, y22 = (if y3 = 0 then v8 else (-v8)) → (∀ y23 : Int32, y23 = (if v9 ≤ v6 then (1 : Int32) else (if y22 < ((-2147483648) : Int64) then (1 : Int32) else (if (2147483647 : Int64) < y22 then (1 : Int32) else (4 : Int32)))) → (∀ y24 : Int32, y24 = y22.toInt32 → (post (y23, v9, y24))))
def lw_met_To_readNumber_41 (post : (Int32 × Int32 × Int32) → Prop) (length_ : Int32) (F_text : Nat → Int32) (y3 : Int32) (v6 : Int32) : Nat → (Int64 × Int32) → Prop
  | 0, _ => False
  | n7_ + 1, (v8, v9) => ((length_ ≤ v9 → (jw_met_To_readNumber_107 post y3 v8 v9 v6 ())) ∧ (¬ (length_ ≤ v9) → (vp_in v9 65536 ∧ (∀ y12 : Int32, y12 = F_text v9.toNatClampNeg → (wp_met_To_isDigit (fun (r13 : Int32) (_ : Unit) => (((r13 = 0 → (jw_met_To_readNumber_107 post y3 v8 v9 v6 ())) ∧ (¬ (r13 = 0) → (∀ y14 : Int64, y14 = v8 * (10 : Int64) → (vp_in v9 65536 ∧ (∀ y16 : Int32, y16 = F_text v9.toNatClampNeg → (∀ y17 : Int64, y17 = y16.toInt64 → (∀ y18 : Int64, y18 = y14 + y17 → (∀ y19 : Int64, y19 = y18 - (48 : Int64) → (∀ y20 : Int64, y20 = (if (1099511627776 : Int64) < y19 then (1099511627776 : Int64) else y19) → (∀ y21 : Int32, y21 = v9 + (1 : Int32) → (lw_met_To_readNumber_41 post length_ F_text y3 v6 n7_ (y20, y21)))))))))))))) y12)))))
def jw_met_To_readNumber_34 (post : (Int32 × Int32 × Int32) → Prop) (length_ : Int32) (F_text : Nat → Int32) (y3 : Int32) : (Int32) → Prop
  | v6 => ∃ n9 : Nat, lw_met_To_readNumber_41 post length_ F_text y3 v6 n9 ((0 : Int64), v6)
def wp_met_To_readNumber (post : (Int32 × Int32 × Int32) → Prop) (stop_ : Int32) (length_ : Int32) (F_text : Nat → Int32) : Prop := vp_in stop_ 65536 ∧ (∀ y2 : Int32, y2 = F_text stop_.toNatClampNeg → (∀ y3 : Int32, y3 = (if y2 = (45 : Int32) then (1 : Int32) else (0 : Int32)) → (((y3 = 0 → (jw_met_To_readNumber_34 post length_ F_text y3 stop_)) ∧ (¬ (y3 = 0) → (∀ y5 : Int32, y5 = stop_ + (1 : Int32) → (jw_met_To_readNumber_34 post length_ F_text y3 y5)))))))
set_option maxHeartbeats 4000000 in
set_option maxRecDepth 100000 in
theorem met_To_readNumber (l : Launch) (dC : Nat → ClassId) (dI : Nat → Nat → Nat) (h0 : Nat) (text_ : Nat) (kind_ : Int32) (start_ : Int32) (stop_ : Int32) (value_ : Int32) (length_ : Int32) (F_text : Nat → Int32) (k_text : ClassId) (sz : Nat) {post : (Int32 × Int32 × Int32) → Prop} (hw : wp_met_To_readNumber post stop_ length_ F_text) : Met l my_To_readNumber (Cond.code my_To_readNumber cd_To_readNumber 5 none :: tblG) ({ frames := 1, cells := 0, slots := 0, locals := 20 }) (va_Pc [.ref h0] (fun U => U.heap.size = sz ∧ va_P (dC, dI) vwCl [(h0, .inr (11, [.ref text_, .int kind_, .int start_, .int stop_, .int value_, .int length_])), (text_, .inl (k_text, 65536, .inl F_text))] U.heap ∧ va_K (dC, dI) vwCl [(k_text, .byte)] U ∧ va_D (fun _ => True) [(h0, .inr (11, [.ref text_, .int kind_, .int start_, .int stop_, .int value_, .int length_])), (text_, .inl (k_text, 65536, .inl F_text))])) (va_Qv post (fun (u : Int32 × Int32 × Int32) (t : State) => match u with | (o0, o1, o2) => va_P (dC, dI) vwCl [(h0, .inr (11, [.ref text_, .int o0, .int start_, .int o1, .int o2, .int length_])), (text_, .inl (k_text, 65536, .inl F_text))] t.heap ∧ va_K (dC, dI) vwCl [(k_text, .byte)] t ∧ va_D (va_A [(h0, .inr (11, [.ref text_, .int kind_, .int start_, .int stop_, .int value_, .int length_])), (text_, .inl (k_text, 65536, .inl F_text))] sz) [(h0, .inr (11, [.ref text_, .int o0, .int start_, .int o1, .int o2, .int length_])), (text_, .inl (k_text, 65536, .inl F_text))]) (va_A [(h0, .inr (11, [.ref text_, .int kind_, .int start_, .int stop_, .int value_, .int length_])), (text_, .inl (k_text, 65536, .inl F_text))] sz)) 0 0 (va_A [(h0, .inr (11, [.ref text_, .int kind_, .int start_, .int stop_, .int value_, .int length_])), (text_, .inl (k_text, 65536, .inl F_text))] sz) := by
  refine Met.ofW (cc := cd_To_readNumber) (maxL := 5) (ret := none) (by decide) rfl ?_
  intro p e s m args below meth c s₁ B hml hv
  obtain ⟨rfl, hsz, hP, hK, hD0⟩ := hv
  have hx := B.exec
  have hb := B.bytes
  have hr := B.returns
  have hT : ∀ w ∈ tblG, w.before _ s = true := fun w h => atoms_spec (ws := (Cond.code my_To_readNumber cd_To_readNumber 5 none :: tblG)) B.pre w (List.mem_cons_of_mem _ h)
  have hown : s.vm.findClass "StrataBase$Tokens" = some m.cls := findClass_of_methodNamed B.named
  have hlocks := B.notSynchronized
  subst hsz
  have hD := hD0.self (sz := s.heap.size)
  generalize hAe : va_A [(h0, .inr (11, [.ref text_, .int kind_, .int start_, .int stop_, .int value_, .int length_])), (text_, .inl (k_text, 65536, .inl F_text))] s.heap.size = A at hD ⊢
  have hA : ∀ q : Nat, s.heap.size ≤ q → A q := fun q h => by rw [← hAe]; exact Or.inr h
  have hS : va_S A s.heap s.heap [] := va_S.rf
  have hl := lv_entry ([.ref h0]) (n := 5) (Nat.le_of_ble_eq_true rfl)
  rw [lg_entry_eq]
  generalize (lg_sl ([.ref h0]) ++ List.replicate (5 - (lg_sl ([.ref h0])).length) Slot.unset).toArray = ls at hl ⊢
  have hl : lv_has ls 5 [(0, .ref h0)] := hl
  unfold wp_met_To_readNumber at hw
  refine lv_aload_n hx hb dc_To_readNumber_0 rfl (lv_at hl 0 rfl) ?_
  refine va_get (D := (dC, dI)) (ci := 11) (v := .ref text_) (C := "StrataBase$Tokens") (T := tb_To) (N := 6) hx hb hT in_To hown hK hP 0 rfl rfl 0 (by decide) (hT _ wd_194) (fun _ h9 => h9) rfl dc_To_readNumber_1 ?_
  refine lv_aload_n hx hb dc_To_readNumber_4 rfl (lv_at hl 0 rfl) ?_
  refine va_get (D := (dC, dI)) (ci := 11) (v := .int stop_) (C := "StrataBase$Tokens") (T := tb_To) (N := 6) hx hb hT in_To hown hK hP 0 rfl rfl 3 (by decide) (hT _ wd_200) (fun _ h9 => h9) rfl dc_To_readNumber_5 ?_
  obtain ⟨hv1, hw⟩ := hw
  refine va_bald hx hb hK hP 1 0 rfl rfl hv1 dc_To_readNumber_8 ?_
  refine lv_topi (fun y2 ey2 => ?_)
  have hw := hw y2 ey2
  refine lv_bipush (v := 45) hx hb dc_To_readNumber_9 (by decide) ?_
  refine jn_top (pc2 := 19) (rest := []) (fun y3 => y3 = (if y2 = (45 : Int32) then (1 : Int32) else (0 : Int32))) (fun y3 ey3 => ?_) (fun k9 => ?_)
  rotate_left
  · refine lv_icmp_ne (tgt := 18) hx hb dc_To_readNumber_11 (by decide) (fun h11 => ?_) (fun h11 => ?_)
    · refine lv_iconst (v := 0) hx hb dc_To_readNumber_18 (by decide) ?_
      exact k9 (0 : Int32) (by rw [if_neg h11])
    · refine lv_iconst (v := 1) hx hb dc_To_readNumber_14 (by decide) ?_
      refine lv_goto (tgt := 19) hx hb dc_To_readNumber_15 (by decide) ?_
      exact k9 (1 : Int32) (by rw [if_pos h11])
  have hw := hw y3 ey3
  have hzy3 : y3 = 0 ∨ y3 = 1 := by
    rw [ey3]; repeat' split
    all_goals first | exact Or.inl rfl | exact Or.inr rfl
  refine lv_istore_n (lv' := [(1, .int y3), (0, .ref h0)]) hx hb dc_To_readNumber_19 rfl hl (by decide) rfl (fun ls hl => ?_)
  refine lv_iload_n hx hb dc_To_readNumber_20 rfl (lv_at hl 0 rfl) ?_
  refine jn_st (σ := Int32) (pc2 := 34) (fun x9 => jw_met_To_readNumber_34 post length_ F_text y3 x9) (fun x9 => match x9 with | v6 => []) (fun x9 H locs ls => match x9 with | v6 => va_K (dC, dI) vwCl [(k_text, .byte)] s ∧ va_P (dC, dI) vwCl [(h0, .inr (11, [.ref text_, .int kind_, .int start_, .int v6, .int value_, .int length_])), (text_, .inl (k_text, 65536, .inl F_text))] H ∧ va_D A [(h0, .inr (11, [.ref text_, .int kind_, .int start_, .int v6, .int value_, .int length_])), (text_, .inl (k_text, 65536, .inl F_text))] ∧ va_S A s.heap H locs ∧ lv_has ls 5 [(0, .ref h0), (1, .int y3)]) ?_ (fun k4 => ?_)
  rotate_left
  · refine lv_if_eq (tgt := 34) hx hb dc_To_readNumber_21 (by decide) (fun h21 => ?_) (fun h21 => ?_)
    · have hw := hw.1 h21
      exact k4 stop_ hw _ _ _ ⟨hK.sub [0] rfl, hP.sub [0, 1] rfl, hD.sub [0, 1] (by decide) rfl, hS, lv_sub hl [1, 0] rfl⟩
    · have hw := hw.2 h21
      refine lv_aload_n hx hb dc_To_readNumber_24 rfl (lv_at hl 1 rfl) ?_
      refine lv_dup hx hb dc_To_readNumber_25 rfl ?_
      refine va_get (D := (dC, dI)) (ci := 11) (v := .int stop_) (C := "StrataBase$Tokens") (T := tb_To) (N := 6) hx hb hT in_To hown hK hP 0 rfl rfl 3 (by decide) (hT _ wd_200) (fun _ h9 => h9) rfl dc_To_readNumber_26 ?_
      refine lv_iconst (v := 1) hx hb dc_To_readNumber_29 (by decide) ?_
      refine lv_iadd hx hb dc_To_readNumber_30 ?_
      refine lv_topi (fun y5 ey5 => ?_)
      have hw := hw y5 ey5
      refine va_put (D := (dC, dI)) (ci := 11) (v := .int y5) (ty := .int) (C := "StrataBase$Tokens") (T := tb_To) (N := 6) hx hb hT in_To ty_To tk_To nm_To hown hK hP hD hS 0 rfl rfl 3 (by decide) (hT _ wd_200) (fun _ h9 => h9) rfl (by decide +kernel) rfl rfl (Nat.le_of_ble_eq_true rfl) dc_To_readNumber_31 (fun H locs hP hD hS => ?_)
      have hP : va_P (dC, dI) vwCl [(h0, .inr (11, [.ref text_, .int kind_, .int start_, .int y5, .int value_, .int length_])), (text_, .inl (k_text, 65536, .inl F_text))] H := hP
      have hD : va_D A [(h0, .inr (11, [.ref text_, .int kind_, .int start_, .int y5, .int value_, .int length_])), (text_, .inl (k_text, 65536, .inl F_text))] := hD
      exact k4 y5 hw _ _ _ ⟨hK.sub [0] rfl, hP.sub [0, 1] rfl, hD.sub [0, 1] (by decide) rfl, hS, lv_sub hl [1, 0] rfl⟩
  intro x9 hw H locs ls hI
  obtain ⟨v6, rfl⟩ : ∃ z9, z9 = x9 := ⟨_, rfl⟩
  obtain ⟨hK, hP, hD, hS, hl⟩ := hI
  unfold jw_met_To_readNumber_34 at hw
  refine W.eq (g2 := F0 m 34 ls []) rfl ?_
  refine lv_aload_n hx hb dc_To_readNumber_34 rfl (lv_at hl 0 rfl) ?_
  refine va_get (D := (dC, dI)) (ci := 11) (v := .int v6) (C := "StrataBase$Tokens") (T := tb_To) (N := 6) hx hb hT in_To hown hK hP 0 rfl rfl 3 (by decide) (hT _ wd_200) (fun _ h9 => h9) rfl dc_To_readNumber_35 ?_
  refine lv_istore_n (lv' := [(2, .int v6), (0, .ref h0), (1, .int y3)]) hx hb dc_To_readNumber_38 rfl hl (by decide) rfl (fun ls hl => ?_)
  refine lv_lconst (v := 0) hx hb dc_To_readNumber_39 rfl ?_
  refine lv_lstore_n (lv' := [(3, .long 0), (2, .int v6), (0, .ref h0), (1, .int y3)]) hx hb dc_To_readNumber_40 rfl hl (by decide) rfl (fun ls hl => ?_)
  obtain ⟨n9, hw⟩ := hw
  refine lp_fuel (σ := Int64 × Int32) _ (fun x9 H locs ls => match x9 with | (v8, v9) => va_K (dC, dI) vwCl [(k_text, .byte)] s ∧ va_P (dC, dI) vwCl [(h0, .inr (11, [.ref text_, .int kind_, .int start_, .int v9, .int value_, .int length_])), (text_, .inl (k_text, 65536, .inl F_text))] H ∧ va_D A [(h0, .inr (11, [.ref text_, .int kind_, .int start_, .int v9, .int value_, .int length_])), (text_, .inl (k_text, 65536, .inl F_text))] ∧ va_S A s.heap H locs ∧ lv_has ls 5 [(3, .long v8), (2, .int v6), (0, .ref h0), (1, .int y3)]) (fun x9 h9 => by simp only [lw_met_To_readNumber_41] at h9) ?_ hw ⟨hK.sub [0] rfl, hP.sub [0, 1] rfl, hD.sub [0, 1] (by decide) rfl, hS, lv_sub hl [0, 1, 2, 3] rfl⟩
  intro n7_ x9 hw ih7 H locs ls hI
  obtain ⟨v8, v9⟩ := x9
  obtain ⟨hK, hP, hD, hS, hl⟩ := hI
  unfold lw_met_To_readNumber_41 at hw
  refine lv_aload_n hx hb dc_To_readNumber_41 rfl (lv_at hl 2 rfl) ?_
  refine va_get (D := (dC, dI)) (ci := 11) (v := .int v9) (C := "StrataBase$Tokens") (T := tb_To) (N := 6) hx hb hT in_To hown hK hP 0 rfl rfl 3 (by decide) (hT _ wd_200) (fun _ h9 => h9) rfl dc_To_readNumber_42 ?_
  refine lv_aload_n hx hb dc_To_readNumber_45 rfl (lv_at hl 2 rfl) ?_
  refine va_get (D := (dC, dI)) (ci := 11) (v := .int length_) (C := "StrataBase$Tokens") (T := tb_To) (N := 6) hx hb hT in_To hown hK hP 0 rfl rfl 5 (by decide) (hT _ wd_204) (fun _ h9 => h9) rfl dc_To_readNumber_46 ?_
  refine jn_st (σ := Unit) (pc2 := 107) (fun x9 => jw_met_To_readNumber_107 post y3 v8 v9 v6 x9) (fun _ => []) (fun _ H locs ls => va_K (dC, dI) vwCl [(k_text, .byte)] s ∧ va_P (dC, dI) vwCl [(h0, .inr (11, [.ref text_, .int kind_, .int start_, .int v9, .int value_, .int length_])), (text_, .inl (k_text, 65536, .inl F_text))] H ∧ va_D A [(h0, .inr (11, [.ref text_, .int kind_, .int start_, .int v9, .int value_, .int length_])), (text_, .inl (k_text, 65536, .inl F_text))] ∧ va_S A s.heap H locs ∧ lv_has ls 5 [(0, .ref h0), (1, .int y3), (2, .int v6), (3, .long v8)]) ?_ (fun k10 => ?_)
  rotate_left
  · refine lv_icmp_ge (tgt := 107) hx hb dc_To_readNumber_49 (by decide) (fun h49 => ?_) (fun h49 => ?_)
    · have hw := hw.1 h49
      exact k10 () hw _ _ _ ⟨hK.sub [0] rfl, hP.sub [0, 1] rfl, hD.sub [0, 1] (by decide) rfl, hS, lv_sub hl [2, 3, 1, 0] rfl⟩
    · have hw := hw.2 h49
      refine lv_aload_n hx hb dc_To_readNumber_52 rfl (lv_at hl 2 rfl) ?_
      refine va_get (D := (dC, dI)) (ci := 11) (v := .ref text_) (C := "StrataBase$Tokens") (T := tb_To) (N := 6) hx hb hT in_To hown hK hP 0 rfl rfl 0 (by decide) (hT _ wd_194) (fun _ h9 => h9) rfl dc_To_readNumber_53 ?_
      refine lv_aload_n hx hb dc_To_readNumber_56 rfl (lv_at hl 2 rfl) ?_
      refine va_get (D := (dC, dI)) (ci := 11) (v := .int v9) (C := "StrataBase$Tokens") (T := tb_To) (N := 6) hx hb hT in_To hown hK hP 0 rfl rfl 3 (by decide) (hT _ wd_200) (fun _ h9 => h9) rfl dc_To_readNumber_57 ?_
      obtain ⟨hv11, hw⟩ := hw
      refine va_bald hx hb hK hP 1 0 rfl rfl hv11 dc_To_readNumber_60 ?_
      refine lv_topi (fun y12 ey12 => ?_)
      have hw := hw y12 ey12
      have hPc := hP.sub (ws' := []) [] rfl
      have hDc := hD.sub (ws' := []) [] (by decide) rfl
      have hKc := hK.sub (tys' := []) [] rfl
      have hFc := va_free (wc := []) hD hS hA [] rfl
      refine va_calli (va_runS (As := [.int y12]) (rest := []) ⟨hx, hb, hml, hown, hT⟩ (met_To_isDigit l dC dI y12 H.size hw) (va_cwS 1 hT (gd_S wd_620 wd_621 wd_7 wd_622) rfl rfl rfl (by decide +kernel) ⟨Nat.le_of_ble_eq_true rfl, Nat.le_of_ble_eq_true rfl⟩) ⟨fun a U g mk q => by obtain ⟨q0, q1, qP, qK, qD⟩ := q; exact ⟨q0, q1, qP, va_K.moved (u := U) (U := U.calling g mk a) (Vm.Alike.refl U.vm) qK, qD⟩, fun U hU hW => ⟨rfl, by rw [hU], by rw [hU]; exact hPc, va_K.moved hW.alike hKc, hDc.weaken (fun _ _ _ _ => trivial)⟩⟩ rfl rfl hl.1 rfl (lv_room (Nat.le_of_ble_eq_true rfl)) dc_To_readNumber_61 ⟨(Nat.le_of_ble_eq_true rfl), (Nat.le_of_ble_eq_true rfl)⟩) hS (fun q _ h => hFc q h) hFc (fun r13 _ t H1 locs ht hvm hw hB hz1 hk1 hS => ?_)
      obtain ⟨hP1, hK1, hD1⟩ := hB
      rw [ht] at hP1
      have hK1 := va_K.moved hvm.symm hK1
      obtain ⟨hP, hD⟩ := va_join (wr := [(h0, .inr (11, [.ref text_, .int kind_, .int start_, .int v9, .int value_, .int length_])), (text_, .inl (k_text, 65536, .inl F_text))]) (w1 := []) hP hD [] [0, 1] rfl rfl (by decide) (by decide) hk1 hFc hP1 hD1
      have hK := (hK.sub (tys' := [(k_text, .byte)]) [0] rfl).app hK1
      generalize H1 = H at hP hS ⊢
      have hP : va_P (dC, dI) vwCl [(h0, .inr (11, [.ref text_, .int kind_, .int start_, .int v9, .int value_, .int length_])), (text_, .inl (k_text, 65536, .inl F_text))] H := hP
      have hD : va_D A [(h0, .inr (11, [.ref text_, .int kind_, .int start_, .int v9, .int value_, .int length_])), (text_, .inl (k_text, 65536, .inl F_text))] := hD
      have hK : va_K (dC, dI) vwCl [(k_text, .byte)] s := hK
      refine lv_if_eq (tgt := 107) hx hb dc_To_readNumber_64 (by decide) (fun h64 => ?_) (fun h64 => ?_)
      · have hw := hw.1 h64
        exact k10 () hw _ _ _ ⟨hK.sub [0] rfl, hP.sub [0, 1] rfl, hD.sub [0, 1] (by decide) rfl, hS, lv_sub hl [2, 3, 1, 0] rfl⟩
      · have hw := hw.2 h64
        refine lv_lload_n hx hb dc_To_readNumber_67 rfl (lv_at hl 0 rfl) ?_
        refine lv_ldc2 (v := 10) hx hb hown (hT _ wd_635) dc_To_readNumber_68 ?_
        refine lv_lmul hx hb dc_To_readNumber_71 ?_
        refine lv_topl (fun y14 ey14 => ?_)
        have hw := hw y14 ey14
        refine lv_aload_n hx hb dc_To_readNumber_72 rfl (lv_at hl 2 rfl) ?_
        refine va_get (D := (dC, dI)) (ci := 11) (v := .ref text_) (C := "StrataBase$Tokens") (T := tb_To) (N := 6) hx hb hT in_To hown hK hP 0 rfl rfl 0 (by decide) (hT _ wd_194) (fun _ h9 => h9) rfl dc_To_readNumber_73 ?_
        refine lv_aload_n hx hb dc_To_readNumber_76 rfl (lv_at hl 2 rfl) ?_
        refine va_get (D := (dC, dI)) (ci := 11) (v := .int v9) (C := "StrataBase$Tokens") (T := tb_To) (N := 6) hx hb hT in_To hown hK hP 0 rfl rfl 3 (by decide) (hT _ wd_200) (fun _ h9 => h9) rfl dc_To_readNumber_77 ?_
        obtain ⟨hv15, hw⟩ := hw
        refine va_bald hx hb hK hP 1 0 rfl rfl hv15 dc_To_readNumber_80 ?_
        refine lv_topi (fun y16 ey16 => ?_)
        have hw := hw y16 ey16
        refine lv_i2l (v := y16.toInt64) hx hb dc_To_readNumber_81 rfl ?_
        refine lv_topl (fun y17 ey17 => ?_)
        have hw := hw y17 ey17
        refine lv_ladd hx hb dc_To_readNumber_82 ?_
        refine lv_topl (fun y18 ey18 => ?_)
        have hw := hw y18 ey18
        refine lv_ldc2 (v := 48) hx hb hown (hT _ wd_636) dc_To_readNumber_83 ?_
        refine lv_lsub hx hb dc_To_readNumber_86 ?_
        refine lv_topl (fun y19 ey19 => ?_)
        have hw := hw y19 ey19
        refine lv_ldc2 (v := 1099511627776) hx hb hown (hT _ wd_637) dc_To_readNumber_87 ?_
        refine va_mmin_long hx hb (by rw [hml]; exact hl.1.symm) hown (hT _ wd_638) (hT _ wd_639) (hT _ wd_20) (hT _ wd_640) (Nat.le_of_ble_eq_true rfl) (Nat.le_of_ble_eq_true rfl) (Nat.le_of_ble_eq_true rfl) (Nat.le_of_ble_eq_true rfl) dc_To_readNumber_90 ?_
        refine lv_topl (fun y20 ey20 => ?_)
        have hw := hw y20 ey20
        refine lv_lstore_n (lv' := [(3, .long y20), (2, .int v6), (0, .ref h0), (1, .int y3)]) hx hb dc_To_readNumber_93 rfl hl (by decide) rfl (fun ls hl => ?_)
        refine lv_aload_n hx hb dc_To_readNumber_94 rfl (lv_at hl 2 rfl) ?_
        refine lv_dup hx hb dc_To_readNumber_95 rfl ?_
        refine va_get (D := (dC, dI)) (ci := 11) (v := .int v9) (C := "StrataBase$Tokens") (T := tb_To) (N := 6) hx hb hT in_To hown hK hP 0 rfl rfl 3 (by decide) (hT _ wd_200) (fun _ h9 => h9) rfl dc_To_readNumber_96 ?_
        refine lv_iconst (v := 1) hx hb dc_To_readNumber_99 (by decide) ?_
        refine lv_iadd hx hb dc_To_readNumber_100 ?_
        refine lv_topi (fun y21 ey21 => ?_)
        have hw := hw y21 ey21
        refine va_put (D := (dC, dI)) (ci := 11) (v := .int y21) (ty := .int) (C := "StrataBase$Tokens") (T := tb_To) (N := 6) hx hb hT in_To ty_To tk_To nm_To hown hK hP hD hS 0 rfl rfl 3 (by decide) (hT _ wd_200) (fun _ h9 => h9) rfl (by decide +kernel) rfl rfl (Nat.le_of_ble_eq_true rfl) dc_To_readNumber_101 (fun H locs hP hD hS => ?_)
        have hP : va_P (dC, dI) vwCl [(h0, .inr (11, [.ref text_, .int kind_, .int start_, .int y21, .int value_, .int length_])), (text_, .inl (k_text, 65536, .inl F_text))] H := hP
        have hD : va_D A [(h0, .inr (11, [.ref text_, .int kind_, .int start_, .int y21, .int value_, .int length_])), (text_, .inl (k_text, 65536, .inl F_text))] := hD
        refine lv_goto (tgt := 41) hx hb dc_To_readNumber_104 (by decide) ?_
        exact ih7 (y20, y21) hw _ _ _ ⟨hK.sub [0] rfl, hP.sub [0, 1] rfl, hD.sub [0, 1] (by decide) rfl, hS, lv_sub hl [0, 1, 2, 3] rfl⟩
  intro x9 hw H locs ls hI
  obtain ⟨hK, hP, hD, hS, hl⟩ := hI
  unfold jw_met_To_readNumber_107 at hw
  refine W.eq (g2 := F0 m 107 ls []) rfl ?_
  refine lv_iload_n hx hb dc_To_readNumber_107 rfl (lv_at hl 1 rfl) ?_
  refine jn_topl (pc2 := 117) (rest := []) (fun y22 => y22 = (if y3 = 0 then v8 else (-v8))) (fun y22 ey22 => ?_) (fun k9 => ?_)
  rotate_left
  · refine lv_if_eq (tgt := 116) hx hb dc_To_readNumber_108 (by decide) (fun h108 => ?_) (fun h108 => ?_)
    · refine lv_lload_n hx hb dc_To_readNumber_116 rfl (lv_at hl 3 rfl) ?_
      exact k9 v8 (by rw [if_pos h108])
    · refine lv_lload_n hx hb dc_To_readNumber_111 rfl (lv_at hl 3 rfl) ?_
      refine lv_lneg hx hb dc_To_readNumber_112 ?_
      refine lv_goto (tgt := 117) hx hb dc_To_readNumber_113 (by decide) ?_
      exact k9 (-v8) (by rw [if_neg h108])
  have hw := hw y22 ey22
  refine lv_lstore_n (lv' := [(3, .long y22), (0, .ref h0), (1, .int y3), (2, .int v6)]) hx hb dc_To_readNumber_117 rfl hl (by decide) rfl (fun ls hl => ?_)
  refine lv_aload_n hx hb dc_To_readNumber_118 rfl (lv_at hl 1 rfl) ?_
  refine lv_aload_n hx hb dc_To_readNumber_119 rfl (lv_at hl 1 rfl) ?_
  refine va_get (D := (dC, dI)) (ci := 11) (v := .int v9) (C := "StrataBase$Tokens") (T := tb_To) (N := 6) hx hb hT in_To hown hK hP 0 rfl rfl 3 (by decide) (hT _ wd_200) (fun _ h9 => h9) rfl dc_To_readNumber_120 ?_
  refine lv_iload_n hx hb dc_To_readNumber_123 rfl (lv_at hl 3 rfl) ?_
  refine jn_top (pc2 := 148) (rest := [.ref h0]) (fun y23 => y23 = (if v9 ≤ v6 then (1 : Int32) else (if y22 < ((-2147483648) : Int64) then (1 : Int32) else (if (2147483647 : Int64) < y22 then (1 : Int32) else (4 : Int32))))) (fun y23 ey23 => ?_) (fun k9 => ?_)
  rotate_left
  · refine lv_icmp_le (tgt := 147) hx hb dc_To_readNumber_124 (by decide) (fun h124 => ?_) (fun h124 => ?_)
    · refine lv_iconst (v := 1) hx hb dc_To_readNumber_147 (by decide) ?_
      exact k9 (1 : Int32) (by rw [if_pos h124])
    · refine lv_lload_n hx hb dc_To_readNumber_127 rfl (lv_at hl 0 rfl) ?_
      refine lv_ldc2 (v := (-2147483648)) hx hb hown (hT _ wd_641) dc_To_readNumber_128 ?_
      refine W.lcmp hx hb dc_To_readNumber_131 ?_
      refine lv_if_lt (tgt := 147) hx hb dc_To_readNumber_132 (by decide) (fun h132 => ?_) (fun h132 => ?_)
      · have h132 : y22 < ((-2147483648) : Int64) := (lg_cmp_lt _ _).mp h132
        refine lv_iconst (v := 1) hx hb dc_To_readNumber_147 (by decide) ?_
        exact k9 (1 : Int32) (by rw [if_neg h124, if_pos h132])
      · have h132 : ¬ (y22 < ((-2147483648) : Int64)) := fun z9 => h132 ((lg_cmp_lt _ _).mpr z9)
        refine lv_lload_n hx hb dc_To_readNumber_135 rfl (lv_at hl 0 rfl) ?_
        refine lv_ldc2 (v := 2147483647) hx hb hown (hT _ wd_642) dc_To_readNumber_136 ?_
        refine W.lcmp hx hb dc_To_readNumber_139 ?_
        refine lv_if_gt (tgt := 147) hx hb dc_To_readNumber_140 (by decide) (fun h140 => ?_) (fun h140 => ?_)
        · have h140 : (2147483647 : Int64) < y22 := (lg_cmp_gt _ _).mp h140
          refine lv_iconst (v := 1) hx hb dc_To_readNumber_147 (by decide) ?_
          exact k9 (1 : Int32) (by rw [if_neg h124, if_neg h132, if_pos h140])
        · have h140 : ¬ ((2147483647 : Int64) < y22) := fun z9 => h140 ((lg_cmp_gt _ _).mpr z9)
          refine lv_iconst (v := 4) hx hb dc_To_readNumber_143 (by decide) ?_
          refine lv_goto (tgt := 148) hx hb dc_To_readNumber_144 (by decide) ?_
          exact k9 (4 : Int32) (by rw [if_neg h124, if_neg h132, if_neg h140])
  have hw := hw y23 ey23
  refine va_put (D := (dC, dI)) (ci := 11) (v := .int y23) (ty := .int) (C := "StrataBase$Tokens") (T := tb_To) (N := 6) hx hb hT in_To ty_To tk_To nm_To hown hK hP hD hS 0 rfl rfl 1 (by decide) (hT _ wd_196) (fun _ h9 => h9) rfl (by decide +kernel) rfl rfl (Nat.le_of_ble_eq_true rfl) dc_To_readNumber_148 (fun H locs hP hD hS => ?_)
  have hP : va_P (dC, dI) vwCl [(h0, .inr (11, [.ref text_, .int y23, .int start_, .int v9, .int value_, .int length_])), (text_, .inl (k_text, 65536, .inl F_text))] H := hP
  have hD : va_D A [(h0, .inr (11, [.ref text_, .int y23, .int start_, .int v9, .int value_, .int length_])), (text_, .inl (k_text, 65536, .inl F_text))] := hD
  refine lv_aload_n hx hb dc_To_readNumber_151 rfl (lv_at hl 1 rfl) ?_
  refine lv_lload_n hx hb dc_To_readNumber_152 rfl (lv_at hl 0 rfl) ?_
  refine lv_l2i (v := y22.toInt32) hx hb dc_To_readNumber_153 rfl ?_
  refine lv_topi (fun y24 ey24 => ?_)
  have hw := hw y24 ey24
  refine va_put (D := (dC, dI)) (ci := 11) (v := .int y24) (ty := .int) (C := "StrataBase$Tokens") (T := tb_To) (N := 6) hx hb hT in_To ty_To tk_To nm_To hown hK hP hD hS 0 rfl rfl 4 (by decide) (hT _ wd_202) (fun _ h9 => h9) rfl (by decide +kernel) rfl rfl (Nat.le_of_ble_eq_true rfl) dc_To_readNumber_154 (fun H locs hP hD hS => ?_)
  have hP : va_P (dC, dI) vwCl [(h0, .inr (11, [.ref text_, .int y23, .int start_, .int v9, .int y24, .int length_])), (text_, .inl (k_text, 65536, .inl F_text))] H := hP
  have hD : va_D A [(h0, .inr (11, [.ref text_, .int y23, .int start_, .int v9, .int y24, .int length_])), (text_, .inl (k_text, 65536, .inl F_text))] := hD
  refine W.widen (k := 0) (n := 0) (Nat.le_of_ble_eq_true rfl) (Nat.le_of_ble_eq_true rfl) ?_
  exact W.vret hx hb hr (fun t ht hW => ⟨⟨(y23, v9, y24), rfl, hw, by rw [ht]; exact hP, va_K.moved hW.alike hK, hD⟩, hS.F ht⟩) hS.2.2 dc_To_readNumber_157

def wp_met_To_takes (post : Int32 → Int32 → Prop) (a0 : Int32) (stop_ : Int32) (length_ : Int32) (F_text : Nat → Int32) : Prop := (((length_ ≤ stop_ → (True)) ∧ (¬ (length_ ≤ stop_) → (vp_in stop_ 65536 ∧ (True))))) ∧ (∀ y1 : Int32, y1 = (if length_ ≤ stop_ then (0 : Int32) else (if (F_text stop_.toNatClampNeg) = a0 then (1 : Int32) else (0 : Int32))) → (((y1 = 0 → (post y1 stop_)) ∧ (¬ (y1 = 0) → (∀ y3 : Int32, y3 = stop_ + (1 : Int32) → (post y1 y3))))))
set_option maxHeartbeats 4000000 in
set_option maxRecDepth 100000 in
theorem met_To_takes (l : Launch) (dC : Nat → ClassId) (dI : Nat → Nat → Nat) (h0 : Nat) (text_ : Nat) (a0 : Int32) (kind_ : Int32) (start_ : Int32) (stop_ : Int32) (value_ : Int32) (length_ : Int32) (F_text : Nat → Int32) (k_text : ClassId) (sz : Nat) {post : Int32 → Int32 → Prop} (hw : wp_met_To_takes post a0 stop_ length_ F_text) : Met l my_To_takes (Cond.code my_To_takes cd_To_takes 3 (some (.boolean)) :: tblG) ({ frames := 0, cells := 0, slots := 0, locals := 0 }) (va_Pc [.ref h0, .int a0] (fun U => U.heap.size = sz ∧ va_P (dC, dI) vwCl [(h0, .inr (11, [.ref text_, .int kind_, .int start_, .int stop_, .int value_, .int length_])), (text_, .inl (k_text, 65536, .inl F_text))] U.heap ∧ va_K (dC, dI) vwCl [(k_text, .byte)] U ∧ va_D (fun _ => True) [(h0, .inr (11, [.ref text_, .int kind_, .int start_, .int stop_, .int value_, .int length_])), (text_, .inl (k_text, 65536, .inl F_text))])) (va_Qi post (fun (u : Int32) (t : State) => match u with | o0 => va_P (dC, dI) vwCl [(h0, .inr (11, [.ref text_, .int kind_, .int start_, .int o0, .int value_, .int length_])), (text_, .inl (k_text, 65536, .inl F_text))] t.heap ∧ va_K (dC, dI) vwCl [(k_text, .byte)] t ∧ va_D (va_A [(h0, .inr (11, [.ref text_, .int kind_, .int start_, .int stop_, .int value_, .int length_])), (text_, .inl (k_text, 65536, .inl F_text))] sz) [(h0, .inr (11, [.ref text_, .int kind_, .int start_, .int o0, .int value_, .int length_])), (text_, .inl (k_text, 65536, .inl F_text))]) (va_A [(h0, .inr (11, [.ref text_, .int kind_, .int start_, .int stop_, .int value_, .int length_])), (text_, .inl (k_text, 65536, .inl F_text))] sz)) 0 0 (va_A [(h0, .inr (11, [.ref text_, .int kind_, .int start_, .int stop_, .int value_, .int length_])), (text_, .inl (k_text, 65536, .inl F_text))] sz) := by
  refine Met.ofW (cc := cd_To_takes) (maxL := 3) (ret := (some (.boolean))) (by decide) rfl ?_
  intro p e s m args below meth c s₁ B hml hv
  obtain ⟨rfl, hsz, hP, hK, hD0⟩ := hv
  have hx := B.exec
  have hb := B.bytes
  have hr := B.returns
  have hT : ∀ w ∈ tblG, w.before _ s = true := fun w h => atoms_spec (ws := (Cond.code my_To_takes cd_To_takes 3 (some (.boolean)) :: tblG)) B.pre w (List.mem_cons_of_mem _ h)
  have hown : s.vm.findClass "StrataBase$Tokens" = some m.cls := findClass_of_methodNamed B.named
  have hlocks := B.notSynchronized
  subst hsz
  have hD := hD0.self (sz := s.heap.size)
  generalize hAe : va_A [(h0, .inr (11, [.ref text_, .int kind_, .int start_, .int stop_, .int value_, .int length_])), (text_, .inl (k_text, 65536, .inl F_text))] s.heap.size = A at hD ⊢
  have hA : ∀ q : Nat, s.heap.size ≤ q → A q := fun q h => by rw [← hAe]; exact Or.inr h
  have hS : va_S A s.heap s.heap [] := va_S.rf
  have hl := lv_entry ([.ref h0, .int a0]) (n := 3) (Nat.le_of_ble_eq_true rfl)
  rw [lg_entry_eq]
  generalize (lg_sl ([.ref h0, .int a0]) ++ List.replicate (3 - (lg_sl ([.ref h0, .int a0])).length) Slot.unset).toArray = ls at hl ⊢
  have hl : lv_has ls 3 [(0, .ref h0), (1, .int a0)] := hl
  unfold wp_met_To_takes at hw
  refine lv_aload_n hx hb dc_To_takes_0 rfl (lv_at hl 0 rfl) ?_
  refine va_get (D := (dC, dI)) (ci := 11) (v := .int stop_) (C := "StrataBase$Tokens") (T := tb_To) (N := 6) hx hb hT in_To hown hK hP 0 rfl rfl 3 (by decide) (hT _ wd_200) (fun _ h9 => h9) rfl dc_To_takes_1 ?_
  refine lv_aload_n hx hb dc_To_takes_4 rfl (lv_at hl 0 rfl) ?_
  refine va_get (D := (dC, dI)) (ci := 11) (v := .int length_) (C := "StrataBase$Tokens") (T := tb_To) (N := 6) hx hb hT in_To hown hK hP 0 rfl rfl 5 (by decide) (hT _ wd_204) (fun _ h9 => h9) rfl dc_To_takes_5 ?_
  obtain ⟨hob, hw⟩ := hw
  refine jn_top (pc2 := 29) (rest := []) (fun y1 => y1 = (if length_ ≤ stop_ then (0 : Int32) else (if (F_text stop_.toNatClampNeg) = a0 then (1 : Int32) else (0 : Int32)))) (fun y1 ey1 => ?_) (fun k9 => ?_)
  rotate_left
  · refine lv_icmp_ge (tgt := 28) hx hb dc_To_takes_8 (by decide) (fun h8 => ?_) (fun h8 => ?_)
    · have hob := hob.1 h8
      refine lv_iconst (v := 0) hx hb dc_To_takes_28 (by decide) ?_
      exact k9 (0 : Int32) (by rw [if_pos h8])
    · have hob := hob.2 h8
      refine lv_aload_n hx hb dc_To_takes_11 rfl (lv_at hl 0 rfl) ?_
      refine va_get (D := (dC, dI)) (ci := 11) (v := .ref text_) (C := "StrataBase$Tokens") (T := tb_To) (N := 6) hx hb hT in_To hown hK hP 0 rfl rfl 0 (by decide) (hT _ wd_194) (fun _ h9 => h9) rfl dc_To_takes_12 ?_
      refine lv_aload_n hx hb dc_To_takes_15 rfl (lv_at hl 0 rfl) ?_
      refine va_get (D := (dC, dI)) (ci := 11) (v := .int stop_) (C := "StrataBase$Tokens") (T := tb_To) (N := 6) hx hb hT in_To hown hK hP 0 rfl rfl 3 (by decide) (hT _ wd_200) (fun _ h9 => h9) rfl dc_To_takes_16 ?_
      obtain ⟨hv2, hob⟩ := hob
      refine va_bald hx hb hK hP 1 0 rfl rfl hv2 dc_To_takes_19 ?_
      refine lv_iload_n hx hb dc_To_takes_20 rfl (lv_at hl 1 rfl) ?_
      refine lv_icmp_ne (tgt := 28) hx hb dc_To_takes_21 (by decide) (fun h21 => ?_) (fun h21 => ?_)
      · refine lv_iconst (v := 0) hx hb dc_To_takes_28 (by decide) ?_
        exact k9 (0 : Int32) (by rw [if_neg h8, if_neg h21])
      · refine lv_iconst (v := 1) hx hb dc_To_takes_24 (by decide) ?_
        refine lv_goto (tgt := 29) hx hb dc_To_takes_25 (by decide) ?_
        exact k9 (1 : Int32) (by rw [if_neg h8, if_pos h21])
  have hw := hw y1 ey1
  have hzy1 : y1 = 0 ∨ y1 = 1 := by
    rw [ey1]; repeat' split
    all_goals first | exact Or.inl rfl | exact Or.inr rfl
  refine lv_istore_n (lv' := [(2, .int y1), (0, .ref h0), (1, .int a0)]) hx hb dc_To_takes_29 rfl hl (by decide) rfl (fun ls hl => ?_)
  refine lv_iload_n hx hb dc_To_takes_30 rfl (lv_at hl 0 rfl) ?_
  refine lv_if_eq (tgt := 44) hx hb dc_To_takes_31 (by decide) (fun h31 => ?_) (fun h31 => ?_)
  · have hw := hw.1 h31
    refine lv_iload_n hx hb dc_To_takes_44 rfl (lv_at hl 0 rfl) ?_
    refine W.widen (k := 0) (n := 0) (Nat.le_of_ble_eq_true rfl) (Nat.le_of_ble_eq_true rfl) ?_
    exact W.zret (v := y1) hx hb hr (nz_n hzy1) (fun t ht hW => ⟨⟨y1, stop_, rfl, hw, by rw [ht]; exact hP, va_K.moved hW.alike hK, hD⟩, hS.F ht⟩) hS.2.2 dc_To_takes_45
  · have hw := hw.2 h31
    refine lv_aload_n hx hb dc_To_takes_34 rfl (lv_at hl 1 rfl) ?_
    refine lv_dup hx hb dc_To_takes_35 rfl ?_
    refine va_get (D := (dC, dI)) (ci := 11) (v := .int stop_) (C := "StrataBase$Tokens") (T := tb_To) (N := 6) hx hb hT in_To hown hK hP 0 rfl rfl 3 (by decide) (hT _ wd_200) (fun _ h9 => h9) rfl dc_To_takes_36 ?_
    refine lv_iconst (v := 1) hx hb dc_To_takes_39 (by decide) ?_
    refine lv_iadd hx hb dc_To_takes_40 ?_
    refine lv_topi (fun y3 ey3 => ?_)
    have hw := hw y3 ey3
    refine va_put (D := (dC, dI)) (ci := 11) (v := .int y3) (ty := .int) (C := "StrataBase$Tokens") (T := tb_To) (N := 6) hx hb hT in_To ty_To tk_To nm_To hown hK hP hD hS 0 rfl rfl 3 (by decide) (hT _ wd_200) (fun _ h9 => h9) rfl (by decide +kernel) rfl rfl (Nat.le_of_ble_eq_true rfl) dc_To_takes_41 (fun H locs hP hD hS => ?_)
    have hP : va_P (dC, dI) vwCl [(h0, .inr (11, [.ref text_, .int kind_, .int start_, .int y3, .int value_, .int length_])), (text_, .inl (k_text, 65536, .inl F_text))] H := hP
    have hD : va_D A [(h0, .inr (11, [.ref text_, .int kind_, .int start_, .int y3, .int value_, .int length_])), (text_, .inl (k_text, 65536, .inl F_text))] := hD
    refine lv_iload_n hx hb dc_To_takes_44 rfl (lv_at hl 0 rfl) ?_
    refine W.widen (k := 0) (n := 0) (Nat.le_of_ble_eq_true rfl) (Nat.le_of_ble_eq_true rfl) ?_
    exact W.zret (v := y1) hx hb hr (nz_n hzy1) (fun t ht hW => ⟨⟨y1, y3, rfl, hw, by rw [ht]; exact hP, va_K.moved hW.alike hK, hD⟩, hS.F ht⟩) hS.2.2 dc_To_takes_45

def wp_met_To_readSign (post : (Int32 × Int32) → Prop) (stop_ : Int32) (length_ : Int32) (F_text : Nat → Int32) : Prop := vp_in stop_ 65536 ∧ (∀ y2 : Int32, y2 = F_text stop_.toNatClampNeg → (∀ y3 : Int32, y3 = stop_ + (1 : Int32) → (((y2 = 33 → (wp_met_To_takes (fun (r5 : Int32) (o4 : Int32) => (∀ y6 : Int32, y6 = (if r5 = 0 then (1 : Int32) else (12 : Int32)) → (post (y6, o4)))) (61 : Int32) y3 length_ F_text)) ∧ (¬ y2 = 33 → ((y2 = 34 → (post ((1 : Int32), y3))) ∧ (¬ y2 = 34 → ((y2 = 35 → (post ((1 : Int32), y3))) ∧ (¬ y2 = 35 → ((y2 = 36 → (post ((1 : Int32), y3))) ∧ (¬ y2 = 36 → ((y2 = 37 → (post ((1 : Int32), y3))) ∧ (¬ y2 = 37 → ((y2 = 38 → (post ((1 : Int32), y3))) ∧ (¬ y2 = 38 → ((y2 = 39 → (post ((1 : Int32), y3))) ∧ (¬ y2 = 39 → ((y2 = 40 → (post ((6 : Int32), y3))) ∧ (¬ y2 = 40 → ((y2 = 41 → (post ((7 : Int32), y3))) ∧ (¬ y2 = 41 → ((y2 = 42 → (post ((1 : Int32), y3))) ∧ (¬ y2 = 42 → ((y2 = 43 → (post ((1 : Int32), y3))) ∧ (¬ y2 = 43 → ((y2 = 44 → (post ((8 : Int32), y3))) ∧ (¬ y2 = 44 → ((y2 = 45 → (post ((1 : Int32), y3))) ∧ (¬ y2 = 45 → ((y2 = 46 → (post ((9 : Int32), y3))) ∧ (¬ y2 = 46 → ((y2 = 47 → (post ((1 : Int32), y3))) ∧ (¬ y2 = 47 → ((y2 = 48 → (post ((1 : Int32), y3))) ∧ (¬ y2 = 48 → ((y2 = 49 → (post ((1 : Int32), y3))) ∧ (¬ y2 = 49 → ((y2 = 50 → (post ((1 : Int32), y3))) ∧ (¬ y2 = 50 → ((y2 = 51 → (post ((1 : Int32), y3))) ∧ (¬ y2 = 51 → ((y2 = 52 → (post ((1 : Int32), y3))) ∧ (¬ y2 = 52 → ((y2 = 53 → (post ((1 : Int32), y3))) ∧ (¬ y2 = 53 → ((y2 = 54 → (post ((1 : Int32), y3))) ∧ (¬ y2 = 54 → ((y2 = 55 → (post ((1 : Int32), y3))) ∧ (¬ y2 = 55 → ((y2 = 56 → (post ((1 : Int32), y3))) ∧ (¬ y2 = 56 → ((y2 = 57 → (post ((1 : Int32), y3))) ∧ (¬ y2 = 57 → ((y2 = 58 → (wp_met_To_takes (fun (r8 : Int32) (o7 : Int32) => (∀ y9 : Int32, y9 = (if r8 = 0 then (1 : Int32) else (10 : Int32)) → (post (y9, o7)))) (45 : Int32) y3 length_ F_text)) ∧ (¬ y2 = 58 → ((y2 = 59 → (post ((1 : Int32), y3))) ∧ (¬ y2 = 59 → ((y2 = 60 → (wp_met_To_takes (fun (r11 : Int32) (o10 : Int32) => (∀ y12 : Int32, y12 = (if r11 = 0 then (13 : Int32) else (14 : Int32)) → (post (y12, o10)))) (61 : Int32) y3 length_ F_text)) ∧ (¬ y2 = 60 → ((y2 = 61 → (post ((11 : Int32), y3))) ∧ (¬ y2 = 61 → ((y2 = 62 → (wp_met_To_takes (fun (r14 : Int32) (o13 : Int32) => (∀ y15 : Int32, y15 = (if r14 = 0 then (15 : Int32) else (16 : Int32)) → (post (y15, o13)))) (61 : Int32) y3 length_ F_text)) ∧ (¬ y2 = 62 → post ((1 : Int32), y3))))))))))))))))))))))))))))))))))))))))))))))))))))))))))))))))
set_option maxHeartbeats 4000000 in
set_option maxRecDepth 100000 in
theorem met_To_readSign (l : Launch) (dC : Nat → ClassId) (dI : Nat → Nat → Nat) (h0 : Nat) (text_ : Nat) (kind_ : Int32) (start_ : Int32) (stop_ : Int32) (value_ : Int32) (length_ : Int32) (F_text : Nat → Int32) (k_text : ClassId) (sz : Nat) {post : (Int32 × Int32) → Prop} (hw : wp_met_To_readSign post stop_ length_ F_text) : Met l my_To_readSign (Cond.code my_To_readSign cd_To_readSign 2 none :: tblG) ({ frames := 1, cells := 0, slots := 0, locals := 22 }) (va_Pc [.ref h0] (fun U => U.heap.size = sz ∧ va_P (dC, dI) vwCl [(h0, .inr (11, [.ref text_, .int kind_, .int start_, .int stop_, .int value_, .int length_])), (text_, .inl (k_text, 65536, .inl F_text))] U.heap ∧ va_K (dC, dI) vwCl [(k_text, .byte)] U ∧ va_D (fun _ => True) [(h0, .inr (11, [.ref text_, .int kind_, .int start_, .int stop_, .int value_, .int length_])), (text_, .inl (k_text, 65536, .inl F_text))])) (va_Qv post (fun (u : Int32 × Int32) (t : State) => match u with | (o0, o1) => va_P (dC, dI) vwCl [(h0, .inr (11, [.ref text_, .int o0, .int start_, .int o1, .int value_, .int length_])), (text_, .inl (k_text, 65536, .inl F_text))] t.heap ∧ va_K (dC, dI) vwCl [(k_text, .byte)] t ∧ va_D (va_A [(h0, .inr (11, [.ref text_, .int kind_, .int start_, .int stop_, .int value_, .int length_])), (text_, .inl (k_text, 65536, .inl F_text))] sz) [(h0, .inr (11, [.ref text_, .int o0, .int start_, .int o1, .int value_, .int length_])), (text_, .inl (k_text, 65536, .inl F_text))]) (va_A [(h0, .inr (11, [.ref text_, .int kind_, .int start_, .int stop_, .int value_, .int length_])), (text_, .inl (k_text, 65536, .inl F_text))] sz)) 0 0 (va_A [(h0, .inr (11, [.ref text_, .int kind_, .int start_, .int stop_, .int value_, .int length_])), (text_, .inl (k_text, 65536, .inl F_text))] sz) := by
  refine Met.ofW (cc := cd_To_readSign) (maxL := 2) (ret := none) (by decide) rfl ?_
  intro p e s m args below meth c s₁ B hml hv
  obtain ⟨rfl, hsz, hP, hK, hD0⟩ := hv
  have hx := B.exec
  have hb := B.bytes
  have hr := B.returns
  have hT : ∀ w ∈ tblG, w.before _ s = true := fun w h => atoms_spec (ws := (Cond.code my_To_readSign cd_To_readSign 2 none :: tblG)) B.pre w (List.mem_cons_of_mem _ h)
  have hown : s.vm.findClass "StrataBase$Tokens" = some m.cls := findClass_of_methodNamed B.named
  have hlocks := B.notSynchronized
  subst hsz
  have hD := hD0.self (sz := s.heap.size)
  generalize hAe : va_A [(h0, .inr (11, [.ref text_, .int kind_, .int start_, .int stop_, .int value_, .int length_])), (text_, .inl (k_text, 65536, .inl F_text))] s.heap.size = A at hD ⊢
  have hA : ∀ q : Nat, s.heap.size ≤ q → A q := fun q h => by rw [← hAe]; exact Or.inr h
  have hS : va_S A s.heap s.heap [] := va_S.rf
  have hl := lv_entry ([.ref h0]) (n := 2) (Nat.le_of_ble_eq_true rfl)
  rw [lg_entry_eq]
  generalize (lg_sl ([.ref h0]) ++ List.replicate (2 - (lg_sl ([.ref h0])).length) Slot.unset).toArray = ls at hl ⊢
  have hl : lv_has ls 2 [(0, .ref h0)] := hl
  unfold wp_met_To_readSign at hw
  refine lv_aload_n hx hb dc_To_readSign_0 rfl (lv_at hl 0 rfl) ?_
  refine va_get (D := (dC, dI)) (ci := 11) (v := .ref text_) (C := "StrataBase$Tokens") (T := tb_To) (N := 6) hx hb hT in_To hown hK hP 0 rfl rfl 0 (by decide) (hT _ wd_194) (fun _ h9 => h9) rfl dc_To_readSign_1 ?_
  refine lv_aload_n hx hb dc_To_readSign_4 rfl (lv_at hl 0 rfl) ?_
  refine va_get (D := (dC, dI)) (ci := 11) (v := .int stop_) (C := "StrataBase$Tokens") (T := tb_To) (N := 6) hx hb hT in_To hown hK hP 0 rfl rfl 3 (by decide) (hT _ wd_200) (fun _ h9 => h9) rfl dc_To_readSign_5 ?_
  obtain ⟨hv1, hw⟩ := hw
  refine va_bald hx hb hK hP 1 0 rfl rfl hv1 dc_To_readSign_8 ?_
  refine lv_topi (fun y2 ey2 => ?_)
  have hw := hw y2 ey2
  refine lv_istore_n (lv' := [(1, .int y2), (0, .ref h0)]) hx hb dc_To_readSign_9 rfl hl (by decide) rfl (fun ls hl => ?_)
  refine lv_aload_n hx hb dc_To_readSign_10 rfl (lv_at hl 1 rfl) ?_
  refine lv_dup hx hb dc_To_readSign_11 rfl ?_
  refine va_get (D := (dC, dI)) (ci := 11) (v := .int stop_) (C := "StrataBase$Tokens") (T := tb_To) (N := 6) hx hb hT in_To hown hK hP 0 rfl rfl 3 (by decide) (hT _ wd_200) (fun _ h9 => h9) rfl dc_To_readSign_12 ?_
  refine lv_iconst (v := 1) hx hb dc_To_readSign_15 (by decide) ?_
  refine lv_iadd hx hb dc_To_readSign_16 ?_
  refine lv_topi (fun y3 ey3 => ?_)
  have hw := hw y3 ey3
  refine va_put (D := (dC, dI)) (ci := 11) (v := .int y3) (ty := .int) (C := "StrataBase$Tokens") (T := tb_To) (N := 6) hx hb hT in_To ty_To tk_To nm_To hown hK hP hD hS 0 rfl rfl 3 (by decide) (hT _ wd_200) (fun _ h9 => h9) rfl (by decide +kernel) rfl rfl (Nat.le_of_ble_eq_true rfl) dc_To_readSign_17 (fun H locs hP hD hS => ?_)
  have hP : va_P (dC, dI) vwCl [(h0, .inr (11, [.ref text_, .int kind_, .int start_, .int y3, .int value_, .int length_])), (text_, .inl (k_text, 65536, .inl F_text))] H := hP
  have hD : va_D A [(h0, .inr (11, [.ref text_, .int kind_, .int start_, .int y3, .int value_, .int length_])), (text_, .inl (k_text, 65536, .inl F_text))] := hD
  refine lv_iload_n hx hb dc_To_readSign_20 rfl (lv_at hl 0 rfl) ?_
  rcases Decidable.em (y2 = 33) with hc21_33 | hc21_33
  · have hw := hw.1 hc21_33
    refine lv_tableIn (off := 202) (tgt := 223) hx hb dc_To_readSign_21 (by rw [hc21_33]; decide) (by rw [hc21_33]; decide) (by rw [hc21_33]; decide) (by decide) ?_
    refine lv_aload_n hx hb dc_To_readSign_223 rfl (lv_at hl 1 rfl) ?_
    refine lv_aload_n hx hb dc_To_readSign_224 rfl (lv_at hl 1 rfl) ?_
    refine lv_bipush (v := 61) hx hb dc_To_readSign_225 (by decide) ?_
    have hPc := hP.sub (ws' := [(h0, .inr (11, [.ref text_, .int kind_, .int start_, .int y3, .int value_, .int length_])), (text_, .inl (k_text, 65536, .inl F_text))]) [0, 1] rfl
    have hDc := hD.sub (ws' := [(h0, .inr (11, [.ref text_, .int kind_, .int start_, .int y3, .int value_, .int length_])), (text_, .inl (k_text, 65536, .inl F_text))]) [0, 1] (by decide) rfl
    have hKc := hK.sub (tys' := [(k_text, .byte)]) [0] rfl
    have hFc := va_free (wc := [(h0, .inr (11, [.ref text_, .int kind_, .int start_, .int y3, .int value_, .int length_])), (text_, .inl (k_text, 65536, .inl F_text))]) hD hS hA [0, 1] rfl
    refine va_calli (va_runV (As := [.int 61]) (rest := [.ref h0]) ⟨hx, hb, hml, hown, hT⟩ (met_To_takes l dC dI h0 text_ (61 : Int32) kind_ start_ y3 value_ length_ F_text k_text H.size hw) (cwV 1 hT (gd_V wd_647 wd_649 sl_To_takes wd_7 wd_650) rfl rfl rfl (by decide +kernel) ⟨Nat.le_of_ble_eq_true rfl, Nat.le_of_ble_eq_true rfl⟩) ⟨fun a U g mk q => by obtain ⟨q0, q1, qP, qK, qD⟩ := q; exact ⟨q0, q1, qP, va_K.moved (u := U) (U := U.calling g mk a) (Vm.Alike.refl U.vm) qK, qD⟩, va_recv hK hP (q0 := 0) (ci := 11) rfl rfl, fun U hU hW => ⟨rfl, by rw [hU], by rw [hU]; exact hPc, va_K.moved hW.alike hKc, hDc.weaken (fun _ _ _ _ => trivial)⟩⟩ rfl rfl hl.1 rfl (lv_room (Nat.le_of_ble_eq_true rfl)) dc_To_readSign_227 ⟨(Nat.le_of_ble_eq_true rfl), (Nat.le_of_ble_eq_true rfl)⟩) hS (fun q _ h => hFc q h) hFc (fun r5 o4 t H1 locs ht hvm hw hB hz1 hk1 hS => ?_)
    obtain ⟨hP1, hK1, hD1⟩ := hB
    rw [ht] at hP1
    have hK1 := va_K.moved hvm.symm hK1
    obtain ⟨hP, hD⟩ := va_join (wr := []) (w1 := [(h0, .inr (11, [.ref text_, .int kind_, .int start_, .int o4, .int value_, .int length_])), (text_, .inl (k_text, 65536, .inl F_text))]) hP hD [0, 1] [] rfl rfl (by decide) (by decide) hk1 hFc hP1 hD1
    have hK := (hK.sub (tys' := []) [] rfl).app hK1
    generalize H1 = H at hP hS ⊢
    have hP : va_P (dC, dI) vwCl [(h0, .inr (11, [.ref text_, .int kind_, .int start_, .int o4, .int value_, .int length_])), (text_, .inl (k_text, 65536, .inl F_text))] H := hP
    have hD : va_D A [(h0, .inr (11, [.ref text_, .int kind_, .int start_, .int o4, .int value_, .int length_])), (text_, .inl (k_text, 65536, .inl F_text))] := hD
    have hK : va_K (dC, dI) vwCl [(k_text, .byte)] s := hK
    refine jn_top (pc2 := 239) (rest := [.ref h0]) (fun y6 => y6 = (if r5 = 0 then (1 : Int32) else (12 : Int32))) (fun y6 ey6 => ?_) (fun k9 => ?_)
    rotate_left
    · refine lv_if_eq (tgt := 238) hx hb dc_To_readSign_230 (by decide) (fun h230 => ?_) (fun h230 => ?_)
      · refine lv_iconst (v := 1) hx hb dc_To_readSign_238 (by decide) ?_
        exact k9 (1 : Int32) (by rw [if_pos h230])
      · refine lv_bipush (v := 12) hx hb dc_To_readSign_233 (by decide) ?_
        refine lv_goto (tgt := 239) hx hb dc_To_readSign_235 (by decide) ?_
        exact k9 (12 : Int32) (by rw [if_neg h230])
    have hw := hw y6 ey6
    refine va_put (D := (dC, dI)) (ci := 11) (v := .int y6) (ty := .int) (C := "StrataBase$Tokens") (T := tb_To) (N := 6) hx hb hT in_To ty_To tk_To nm_To hown hK hP hD hS 0 rfl rfl 1 (by decide) (hT _ wd_196) (fun _ h9 => h9) rfl (by decide +kernel) rfl rfl (Nat.le_of_ble_eq_true rfl) dc_To_readSign_239 (fun H locs hP hD hS => ?_)
    have hP : va_P (dC, dI) vwCl [(h0, .inr (11, [.ref text_, .int y6, .int start_, .int o4, .int value_, .int length_])), (text_, .inl (k_text, 65536, .inl F_text))] H := hP
    have hD : va_D A [(h0, .inr (11, [.ref text_, .int y6, .int start_, .int o4, .int value_, .int length_])), (text_, .inl (k_text, 65536, .inl F_text))] := hD
    refine lv_goto (tgt := 296) hx hb dc_To_readSign_242 (by decide) ?_
    refine W.widen (k := 0) (n := 0) (Nat.le_of_ble_eq_true rfl) (Nat.le_of_ble_eq_true rfl) ?_
    exact W.vret hx hb hr (fun t ht hW => ⟨⟨(y6, o4), rfl, hw, by rw [ht]; exact hP, va_K.moved hW.alike hK, hD⟩, hS.F ht⟩) hS.2.2 dc_To_readSign_296
  have hw := hw.2 hc21_33
  rcases Decidable.em (y2 = 34) with hc21_34 | hc21_34
  · have hw := hw.1 hc21_34
    refine lv_tableIn (off := 270) (tgt := 291) hx hb dc_To_readSign_21 (by rw [hc21_34]; decide) (by rw [hc21_34]; decide) (by rw [hc21_34]; decide) (by decide) ?_
    refine lv_aload_n hx hb dc_To_readSign_291 rfl (lv_at hl 1 rfl) ?_
    refine lv_iconst (v := 1) hx hb dc_To_readSign_292 (by decide) ?_
    refine va_put (D := (dC, dI)) (ci := 11) (v := .int 1) (ty := .int) (C := "StrataBase$Tokens") (T := tb_To) (N := 6) hx hb hT in_To ty_To tk_To nm_To hown hK hP hD hS 0 rfl rfl 1 (by decide) (hT _ wd_196) (fun _ h9 => h9) rfl (by decide +kernel) rfl rfl (Nat.le_of_ble_eq_true rfl) dc_To_readSign_293 (fun H locs hP hD hS => ?_)
    have hP : va_P (dC, dI) vwCl [(h0, .inr (11, [.ref text_, .int 1, .int start_, .int y3, .int value_, .int length_])), (text_, .inl (k_text, 65536, .inl F_text))] H := hP
    have hD : va_D A [(h0, .inr (11, [.ref text_, .int 1, .int start_, .int y3, .int value_, .int length_])), (text_, .inl (k_text, 65536, .inl F_text))] := hD
    refine W.widen (k := 0) (n := 0) (Nat.le_of_ble_eq_true rfl) (Nat.le_of_ble_eq_true rfl) ?_
    exact W.vret hx hb hr (fun t ht hW => ⟨⟨((1 : Int32), y3), rfl, hw, by rw [ht]; exact hP, va_K.moved hW.alike hK, hD⟩, hS.F ht⟩) hS.2.2 dc_To_readSign_296
  have hw := hw.2 hc21_34
  rcases Decidable.em (y2 = 35) with hc21_35 | hc21_35
  · have hw := hw.1 hc21_35
    refine lv_tableIn (off := 270) (tgt := 291) hx hb dc_To_readSign_21 (by rw [hc21_35]; decide) (by rw [hc21_35]; decide) (by rw [hc21_35]; decide) (by decide) ?_
    refine lv_aload_n hx hb dc_To_readSign_291 rfl (lv_at hl 1 rfl) ?_
    refine lv_iconst (v := 1) hx hb dc_To_readSign_292 (by decide) ?_
    refine va_put (D := (dC, dI)) (ci := 11) (v := .int 1) (ty := .int) (C := "StrataBase$Tokens") (T := tb_To) (N := 6) hx hb hT in_To ty_To tk_To nm_To hown hK hP hD hS 0 rfl rfl 1 (by decide) (hT _ wd_196) (fun _ h9 => h9) rfl (by decide +kernel) rfl rfl (Nat.le_of_ble_eq_true rfl) dc_To_readSign_293 (fun H locs hP hD hS => ?_)
    have hP : va_P (dC, dI) vwCl [(h0, .inr (11, [.ref text_, .int 1, .int start_, .int y3, .int value_, .int length_])), (text_, .inl (k_text, 65536, .inl F_text))] H := hP
    have hD : va_D A [(h0, .inr (11, [.ref text_, .int 1, .int start_, .int y3, .int value_, .int length_])), (text_, .inl (k_text, 65536, .inl F_text))] := hD
    refine W.widen (k := 0) (n := 0) (Nat.le_of_ble_eq_true rfl) (Nat.le_of_ble_eq_true rfl) ?_
    exact W.vret hx hb hr (fun t ht hW => ⟨⟨((1 : Int32), y3), rfl, hw, by rw [ht]; exact hP, va_K.moved hW.alike hK, hD⟩, hS.F ht⟩) hS.2.2 dc_To_readSign_296
  have hw := hw.2 hc21_35
  rcases Decidable.em (y2 = 36) with hc21_36 | hc21_36
  · have hw := hw.1 hc21_36
    refine lv_tableIn (off := 270) (tgt := 291) hx hb dc_To_readSign_21 (by rw [hc21_36]; decide) (by rw [hc21_36]; decide) (by rw [hc21_36]; decide) (by decide) ?_
    refine lv_aload_n hx hb dc_To_readSign_291 rfl (lv_at hl 1 rfl) ?_
    refine lv_iconst (v := 1) hx hb dc_To_readSign_292 (by decide) ?_
    refine va_put (D := (dC, dI)) (ci := 11) (v := .int 1) (ty := .int) (C := "StrataBase$Tokens") (T := tb_To) (N := 6) hx hb hT in_To ty_To tk_To nm_To hown hK hP hD hS 0 rfl rfl 1 (by decide) (hT _ wd_196) (fun _ h9 => h9) rfl (by decide +kernel) rfl rfl (Nat.le_of_ble_eq_true rfl) dc_To_readSign_293 (fun H locs hP hD hS => ?_)
    have hP : va_P (dC, dI) vwCl [(h0, .inr (11, [.ref text_, .int 1, .int start_, .int y3, .int value_, .int length_])), (text_, .inl (k_text, 65536, .inl F_text))] H := hP
    have hD : va_D A [(h0, .inr (11, [.ref text_, .int 1, .int start_, .int y3, .int value_, .int length_])), (text_, .inl (k_text, 65536, .inl F_text))] := hD
    refine W.widen (k := 0) (n := 0) (Nat.le_of_ble_eq_true rfl) (Nat.le_of_ble_eq_true rfl) ?_
    exact W.vret hx hb hr (fun t ht hW => ⟨⟨((1 : Int32), y3), rfl, hw, by rw [ht]; exact hP, va_K.moved hW.alike hK, hD⟩, hS.F ht⟩) hS.2.2 dc_To_readSign_296
  have hw := hw.2 hc21_36
  rcases Decidable.em (y2 = 37) with hc21_37 | hc21_37
  · have hw := hw.1 hc21_37
    refine lv_tableIn (off := 270) (tgt := 291) hx hb dc_To_readSign_21 (by rw [hc21_37]; decide) (by rw [hc21_37]; decide) (by rw [hc21_37]; decide) (by decide) ?_
    refine lv_aload_n hx hb dc_To_readSign_291 rfl (lv_at hl 1 rfl) ?_
    refine lv_iconst (v := 1) hx hb dc_To_readSign_292 (by decide) ?_
    refine va_put (D := (dC, dI)) (ci := 11) (v := .int 1) (ty := .int) (C := "StrataBase$Tokens") (T := tb_To) (N := 6) hx hb hT in_To ty_To tk_To nm_To hown hK hP hD hS 0 rfl rfl 1 (by decide) (hT _ wd_196) (fun _ h9 => h9) rfl (by decide +kernel) rfl rfl (Nat.le_of_ble_eq_true rfl) dc_To_readSign_293 (fun H locs hP hD hS => ?_)
    have hP : va_P (dC, dI) vwCl [(h0, .inr (11, [.ref text_, .int 1, .int start_, .int y3, .int value_, .int length_])), (text_, .inl (k_text, 65536, .inl F_text))] H := hP
    have hD : va_D A [(h0, .inr (11, [.ref text_, .int 1, .int start_, .int y3, .int value_, .int length_])), (text_, .inl (k_text, 65536, .inl F_text))] := hD
    refine W.widen (k := 0) (n := 0) (Nat.le_of_ble_eq_true rfl) (Nat.le_of_ble_eq_true rfl) ?_
    exact W.vret hx hb hr (fun t ht hW => ⟨⟨((1 : Int32), y3), rfl, hw, by rw [ht]; exact hP, va_K.moved hW.alike hK, hD⟩, hS.F ht⟩) hS.2.2 dc_To_readSign_296
  have hw := hw.2 hc21_37
  rcases Decidable.em (y2 = 38) with hc21_38 | hc21_38
  · have hw := hw.1 hc21_38
    refine lv_tableIn (off := 270) (tgt := 291) hx hb dc_To_readSign_21 (by rw [hc21_38]; decide) (by rw [hc21_38]; decide) (by rw [hc21_38]; decide) (by decide) ?_
    refine lv_aload_n hx hb dc_To_readSign_291 rfl (lv_at hl 1 rfl) ?_
    refine lv_iconst (v := 1) hx hb dc_To_readSign_292 (by decide) ?_
    refine va_put (D := (dC, dI)) (ci := 11) (v := .int 1) (ty := .int) (C := "StrataBase$Tokens") (T := tb_To) (N := 6) hx hb hT in_To ty_To tk_To nm_To hown hK hP hD hS 0 rfl rfl 1 (by decide) (hT _ wd_196) (fun _ h9 => h9) rfl (by decide +kernel) rfl rfl (Nat.le_of_ble_eq_true rfl) dc_To_readSign_293 (fun H locs hP hD hS => ?_)
    have hP : va_P (dC, dI) vwCl [(h0, .inr (11, [.ref text_, .int 1, .int start_, .int y3, .int value_, .int length_])), (text_, .inl (k_text, 65536, .inl F_text))] H := hP
    have hD : va_D A [(h0, .inr (11, [.ref text_, .int 1, .int start_, .int y3, .int value_, .int length_])), (text_, .inl (k_text, 65536, .inl F_text))] := hD
    refine W.widen (k := 0) (n := 0) (Nat.le_of_ble_eq_true rfl) (Nat.le_of_ble_eq_true rfl) ?_
    exact W.vret hx hb hr (fun t ht hW => ⟨⟨((1 : Int32), y3), rfl, hw, by rw [ht]; exact hP, va_K.moved hW.alike hK, hD⟩, hS.F ht⟩) hS.2.2 dc_To_readSign_296
  have hw := hw.2 hc21_38
  rcases Decidable.em (y2 = 39) with hc21_39 | hc21_39
  · have hw := hw.1 hc21_39
    refine lv_tableIn (off := 270) (tgt := 291) hx hb dc_To_readSign_21 (by rw [hc21_39]; decide) (by rw [hc21_39]; decide) (by rw [hc21_39]; decide) (by decide) ?_
    refine lv_aload_n hx hb dc_To_readSign_291 rfl (lv_at hl 1 rfl) ?_
    refine lv_iconst (v := 1) hx hb dc_To_readSign_292 (by decide) ?_
    refine va_put (D := (dC, dI)) (ci := 11) (v := .int 1) (ty := .int) (C := "StrataBase$Tokens") (T := tb_To) (N := 6) hx hb hT in_To ty_To tk_To nm_To hown hK hP hD hS 0 rfl rfl 1 (by decide) (hT _ wd_196) (fun _ h9 => h9) rfl (by decide +kernel) rfl rfl (Nat.le_of_ble_eq_true rfl) dc_To_readSign_293 (fun H locs hP hD hS => ?_)
    have hP : va_P (dC, dI) vwCl [(h0, .inr (11, [.ref text_, .int 1, .int start_, .int y3, .int value_, .int length_])), (text_, .inl (k_text, 65536, .inl F_text))] H := hP
    have hD : va_D A [(h0, .inr (11, [.ref text_, .int 1, .int start_, .int y3, .int value_, .int length_])), (text_, .inl (k_text, 65536, .inl F_text))] := hD
    refine W.widen (k := 0) (n := 0) (Nat.le_of_ble_eq_true rfl) (Nat.le_of_ble_eq_true rfl) ?_
    exact W.vret hx hb hr (fun t ht hW => ⟨⟨((1 : Int32), y3), rfl, hw, by rw [ht]; exact hP, va_K.moved hW.alike hK, hD⟩, hS.F ht⟩) hS.2.2 dc_To_readSign_296
  have hw := hw.2 hc21_39
  rcases Decidable.em (y2 = 40) with hc21_40 | hc21_40
  · have hw := hw.1 hc21_40
    refine lv_tableIn (off := 135) (tgt := 156) hx hb dc_To_readSign_21 (by rw [hc21_40]; decide) (by rw [hc21_40]; decide) (by rw [hc21_40]; decide) (by decide) ?_
    refine lv_aload_n hx hb dc_To_readSign_156 rfl (lv_at hl 1 rfl) ?_
    refine lv_bipush (v := 6) hx hb dc_To_readSign_157 (by decide) ?_
    refine va_put (D := (dC, dI)) (ci := 11) (v := .int 6) (ty := .int) (C := "StrataBase$Tokens") (T := tb_To) (N := 6) hx hb hT in_To ty_To tk_To nm_To hown hK hP hD hS 0 rfl rfl 1 (by decide) (hT _ wd_196) (fun _ h9 => h9) rfl (by decide +kernel) rfl rfl (Nat.le_of_ble_eq_true rfl) dc_To_readSign_159 (fun H locs hP hD hS => ?_)
    have hP : va_P (dC, dI) vwCl [(h0, .inr (11, [.ref text_, .int 6, .int start_, .int y3, .int value_, .int length_])), (text_, .inl (k_text, 65536, .inl F_text))] H := hP
    have hD : va_D A [(h0, .inr (11, [.ref text_, .int 6, .int start_, .int y3, .int value_, .int length_])), (text_, .inl (k_text, 65536, .inl F_text))] := hD
    refine lv_goto (tgt := 296) hx hb dc_To_readSign_162 (by decide) ?_
    refine W.widen (k := 0) (n := 0) (Nat.le_of_ble_eq_true rfl) (Nat.le_of_ble_eq_true rfl) ?_
    exact W.vret hx hb hr (fun t ht hW => ⟨⟨((6 : Int32), y3), rfl, hw, by rw [ht]; exact hP, va_K.moved hW.alike hK, hD⟩, hS.F ht⟩) hS.2.2 dc_To_readSign_296
  have hw := hw.2 hc21_40
  rcases Decidable.em (y2 = 41) with hc21_41 | hc21_41
  · have hw := hw.1 hc21_41
    refine lv_tableIn (off := 144) (tgt := 165) hx hb dc_To_readSign_21 (by rw [hc21_41]; decide) (by rw [hc21_41]; decide) (by rw [hc21_41]; decide) (by decide) ?_
    refine lv_aload_n hx hb dc_To_readSign_165 rfl (lv_at hl 1 rfl) ?_
    refine lv_bipush (v := 7) hx hb dc_To_readSign_166 (by decide) ?_
    refine va_put (D := (dC, dI)) (ci := 11) (v := .int 7) (ty := .int) (C := "StrataBase$Tokens") (T := tb_To) (N := 6) hx hb hT in_To ty_To tk_To nm_To hown hK hP hD hS 0 rfl rfl 1 (by decide) (hT _ wd_196) (fun _ h9 => h9) rfl (by decide +kernel) rfl rfl (Nat.le_of_ble_eq_true rfl) dc_To_readSign_168 (fun H locs hP hD hS => ?_)
    have hP : va_P (dC, dI) vwCl [(h0, .inr (11, [.ref text_, .int 7, .int start_, .int y3, .int value_, .int length_])), (text_, .inl (k_text, 65536, .inl F_text))] H := hP
    have hD : va_D A [(h0, .inr (11, [.ref text_, .int 7, .int start_, .int y3, .int value_, .int length_])), (text_, .inl (k_text, 65536, .inl F_text))] := hD
    refine lv_goto (tgt := 296) hx hb dc_To_readSign_171 (by decide) ?_
    refine W.widen (k := 0) (n := 0) (Nat.le_of_ble_eq_true rfl) (Nat.le_of_ble_eq_true rfl) ?_
    exact W.vret hx hb hr (fun t ht hW => ⟨⟨((7 : Int32), y3), rfl, hw, by rw [ht]; exact hP, va_K.moved hW.alike hK, hD⟩, hS.F ht⟩) hS.2.2 dc_To_readSign_296
  have hw := hw.2 hc21_41
  rcases Decidable.em (y2 = 42) with hc21_42 | hc21_42
  · have hw := hw.1 hc21_42
    refine lv_tableIn (off := 270) (tgt := 291) hx hb dc_To_readSign_21 (by rw [hc21_42]; decide) (by rw [hc21_42]; decide) (by rw [hc21_42]; decide) (by decide) ?_
    refine lv_aload_n hx hb dc_To_readSign_291 rfl (lv_at hl 1 rfl) ?_
    refine lv_iconst (v := 1) hx hb dc_To_readSign_292 (by decide) ?_
    refine va_put (D := (dC, dI)) (ci := 11) (v := .int 1) (ty := .int) (C := "StrataBase$Tokens") (T := tb_To) (N := 6) hx hb hT in_To ty_To tk_To nm_To hown hK hP hD hS 0 rfl rfl 1 (by decide) (hT _ wd_196) (fun _ h9 => h9) rfl (by decide +kernel) rfl rfl (Nat.le_of_ble_eq_true rfl) dc_To_readSign_293 (fun H locs hP hD hS => ?_)
    have hP : va_P (dC, dI) vwCl [(h0, .inr (11, [.ref text_, .int 1, .int start_, .int y3, .int value_, .int length_])), (text_, .inl (k_text, 65536, .inl F_text))] H := hP
    have hD : va_D A [(h0, .inr (11, [.ref text_, .int 1, .int start_, .int y3, .int value_, .int length_])), (text_, .inl (k_text, 65536, .inl F_text))] := hD
    refine W.widen (k := 0) (n := 0) (Nat.le_of_ble_eq_true rfl) (Nat.le_of_ble_eq_true rfl) ?_
    exact W.vret hx hb hr (fun t ht hW => ⟨⟨((1 : Int32), y3), rfl, hw, by rw [ht]; exact hP, va_K.moved hW.alike hK, hD⟩, hS.F ht⟩) hS.2.2 dc_To_readSign_296
  have hw := hw.2 hc21_42
  rcases Decidable.em (y2 = 43) with hc21_43 | hc21_43
  · have hw := hw.1 hc21_43
    refine lv_tableIn (off := 270) (tgt := 291) hx hb dc_To_readSign_21 (by rw [hc21_43]; decide) (by rw [hc21_43]; decide) (by rw [hc21_43]; decide) (by decide) ?_
    refine lv_aload_n hx hb dc_To_readSign_291 rfl (lv_at hl 1 rfl) ?_
    refine lv_iconst (v := 1) hx hb dc_To_readSign_292 (by decide) ?_
    refine va_put (D := (dC, dI)) (ci := 11) (v := .int 1) (ty := .int) (C := "StrataBase$Tokens") (T := tb_To) (N := 6) hx hb hT in_To ty_To tk_To nm_To hown hK hP hD hS 0 rfl rfl 1 (by decide) (hT _ wd_196) (fun _ h9 => h9) rfl (by decide +kernel) rfl rfl (Nat.le_of_ble_eq_true rfl) dc_To_readSign_293 (fun H locs hP hD hS => ?_)
    have hP : va_P (dC, dI) vwCl [(h0, .inr (11, [.ref text_, .int 1, .int start_, .int y3, .int value_, .int length_])), (text_, .inl (k_text, 65536, .inl F_text))] H := hP
    have hD : va_D A [(h0, .inr (11, [.ref text_, .int 1, .int start_, .int y3, .int value_, .int length_])), (text_, .inl (k_text, 65536, .inl F_text))] := hD
    refine W.widen (k := 0) (n := 0) (Nat.le_of_ble_eq_true rfl) (Nat.le_of_ble_eq_true rfl) ?_
    exact W.vret hx hb hr (fun t ht hW => ⟨⟨((1 : Int32), y3), rfl, hw, by rw [ht]; exact hP, va_K.moved hW.alike hK, hD⟩, hS.F ht⟩) hS.2.2 dc_To_readSign_296
  have hw := hw.2 hc21_43
  rcases Decidable.em (y2 = 44) with hc21_44 | hc21_44
  · have hw := hw.1 hc21_44
    refine lv_tableIn (off := 153) (tgt := 174) hx hb dc_To_readSign_21 (by rw [hc21_44]; decide) (by rw [hc21_44]; decide) (by rw [hc21_44]; decide) (by decide) ?_
    refine lv_aload_n hx hb dc_To_readSign_174 rfl (lv_at hl 1 rfl) ?_
    refine lv_bipush (v := 8) hx hb dc_To_readSign_175 (by decide) ?_
    refine va_put (D := (dC, dI)) (ci := 11) (v := .int 8) (ty := .int) (C := "StrataBase$Tokens") (T := tb_To) (N := 6) hx hb hT in_To ty_To tk_To nm_To hown hK hP hD hS 0 rfl rfl 1 (by decide) (hT _ wd_196) (fun _ h9 => h9) rfl (by decide +kernel) rfl rfl (Nat.le_of_ble_eq_true rfl) dc_To_readSign_177 (fun H locs hP hD hS => ?_)
    have hP : va_P (dC, dI) vwCl [(h0, .inr (11, [.ref text_, .int 8, .int start_, .int y3, .int value_, .int length_])), (text_, .inl (k_text, 65536, .inl F_text))] H := hP
    have hD : va_D A [(h0, .inr (11, [.ref text_, .int 8, .int start_, .int y3, .int value_, .int length_])), (text_, .inl (k_text, 65536, .inl F_text))] := hD
    refine lv_goto (tgt := 296) hx hb dc_To_readSign_180 (by decide) ?_
    refine W.widen (k := 0) (n := 0) (Nat.le_of_ble_eq_true rfl) (Nat.le_of_ble_eq_true rfl) ?_
    exact W.vret hx hb hr (fun t ht hW => ⟨⟨((8 : Int32), y3), rfl, hw, by rw [ht]; exact hP, va_K.moved hW.alike hK, hD⟩, hS.F ht⟩) hS.2.2 dc_To_readSign_296
  have hw := hw.2 hc21_44
  rcases Decidable.em (y2 = 45) with hc21_45 | hc21_45
  · have hw := hw.1 hc21_45
    refine lv_tableIn (off := 270) (tgt := 291) hx hb dc_To_readSign_21 (by rw [hc21_45]; decide) (by rw [hc21_45]; decide) (by rw [hc21_45]; decide) (by decide) ?_
    refine lv_aload_n hx hb dc_To_readSign_291 rfl (lv_at hl 1 rfl) ?_
    refine lv_iconst (v := 1) hx hb dc_To_readSign_292 (by decide) ?_
    refine va_put (D := (dC, dI)) (ci := 11) (v := .int 1) (ty := .int) (C := "StrataBase$Tokens") (T := tb_To) (N := 6) hx hb hT in_To ty_To tk_To nm_To hown hK hP hD hS 0 rfl rfl 1 (by decide) (hT _ wd_196) (fun _ h9 => h9) rfl (by decide +kernel) rfl rfl (Nat.le_of_ble_eq_true rfl) dc_To_readSign_293 (fun H locs hP hD hS => ?_)
    have hP : va_P (dC, dI) vwCl [(h0, .inr (11, [.ref text_, .int 1, .int start_, .int y3, .int value_, .int length_])), (text_, .inl (k_text, 65536, .inl F_text))] H := hP
    have hD : va_D A [(h0, .inr (11, [.ref text_, .int 1, .int start_, .int y3, .int value_, .int length_])), (text_, .inl (k_text, 65536, .inl F_text))] := hD
    refine W.widen (k := 0) (n := 0) (Nat.le_of_ble_eq_true rfl) (Nat.le_of_ble_eq_true rfl) ?_
    exact W.vret hx hb hr (fun t ht hW => ⟨⟨((1 : Int32), y3), rfl, hw, by rw [ht]; exact hP, va_K.moved hW.alike hK, hD⟩, hS.F ht⟩) hS.2.2 dc_To_readSign_296
  have hw := hw.2 hc21_45
  rcases Decidable.em (y2 = 46) with hc21_46 | hc21_46
  · have hw := hw.1 hc21_46
    refine lv_tableIn (off := 162) (tgt := 183) hx hb dc_To_readSign_21 (by rw [hc21_46]; decide) (by rw [hc21_46]; decide) (by rw [hc21_46]; decide) (by decide) ?_
    refine lv_aload_n hx hb dc_To_readSign_183 rfl (lv_at hl 1 rfl) ?_
    refine lv_bipush (v := 9) hx hb dc_To_readSign_184 (by decide) ?_
    refine va_put (D := (dC, dI)) (ci := 11) (v := .int 9) (ty := .int) (C := "StrataBase$Tokens") (T := tb_To) (N := 6) hx hb hT in_To ty_To tk_To nm_To hown hK hP hD hS 0 rfl rfl 1 (by decide) (hT _ wd_196) (fun _ h9 => h9) rfl (by decide +kernel) rfl rfl (Nat.le_of_ble_eq_true rfl) dc_To_readSign_186 (fun H locs hP hD hS => ?_)
    have hP : va_P (dC, dI) vwCl [(h0, .inr (11, [.ref text_, .int 9, .int start_, .int y3, .int value_, .int length_])), (text_, .inl (k_text, 65536, .inl F_text))] H := hP
    have hD : va_D A [(h0, .inr (11, [.ref text_, .int 9, .int start_, .int y3, .int value_, .int length_])), (text_, .inl (k_text, 65536, .inl F_text))] := hD
    refine lv_goto (tgt := 296) hx hb dc_To_readSign_189 (by decide) ?_
    refine W.widen (k := 0) (n := 0) (Nat.le_of_ble_eq_true rfl) (Nat.le_of_ble_eq_true rfl) ?_
    exact W.vret hx hb hr (fun t ht hW => ⟨⟨((9 : Int32), y3), rfl, hw, by rw [ht]; exact hP, va_K.moved hW.alike hK, hD⟩, hS.F ht⟩) hS.2.2 dc_To_readSign_296
  have hw := hw.2 hc21_46
  rcases Decidable.em (y2 = 47) with hc21_47 | hc21_47
  · have hw := hw.1 hc21_47
    refine lv_tableIn (off := 270) (tgt := 291) hx hb dc_To_readSign_21 (by rw [hc21_47]; decide) (by rw [hc21_47]; decide) (by rw [hc21_47]; decide) (by decide) ?_
    refine lv_aload_n hx hb dc_To_readSign_291 rfl (lv_at hl 1 rfl) ?_
    refine lv_iconst (v := 1) hx hb dc_To_readSign_292 (by decide) ?_
    refine va_put (D := (dC, dI)) (ci := 11) (v := .int 1) (ty := .int) (C := "StrataBase$Tokens") (T := tb_To) (N := 6) hx hb hT in_To ty_To tk_To nm_To hown hK hP hD hS 0 rfl rfl 1 (by decide) (hT _ wd_196) (fun _ h9 => h9) rfl (by decide +kernel) rfl rfl (Nat.le_of_ble_eq_true rfl) dc_To_readSign_293 (fun H locs hP hD hS => ?_)
    have hP : va_P (dC, dI) vwCl [(h0, .inr (11, [.ref text_, .int 1, .int start_, .int y3, .int value_, .int length_])), (text_, .inl (k_text, 65536, .inl F_text))] H := hP
    have hD : va_D A [(h0, .inr (11, [.ref text_, .int 1, .int start_, .int y3, .int value_, .int length_])), (text_, .inl (k_text, 65536, .inl F_text))] := hD
    refine W.widen (k := 0) (n := 0) (Nat.le_of_ble_eq_true rfl) (Nat.le_of_ble_eq_true rfl) ?_
    exact W.vret hx hb hr (fun t ht hW => ⟨⟨((1 : Int32), y3), rfl, hw, by rw [ht]; exact hP, va_K.moved hW.alike hK, hD⟩, hS.F ht⟩) hS.2.2 dc_To_readSign_296
  have hw := hw.2 hc21_47
  rcases Decidable.em (y2 = 48) with hc21_48 | hc21_48
  · have hw := hw.1 hc21_48
    refine lv_tableIn (off := 270) (tgt := 291) hx hb dc_To_readSign_21 (by rw [hc21_48]; decide) (by rw [hc21_48]; decide) (by rw [hc21_48]; decide) (by decide) ?_
    refine lv_aload_n hx hb dc_To_readSign_291 rfl (lv_at hl 1 rfl) ?_
    refine lv_iconst (v := 1) hx hb dc_To_readSign_292 (by decide) ?_
    refine va_put (D := (dC, dI)) (ci := 11) (v := .int 1) (ty := .int) (C := "StrataBase$Tokens") (T := tb_To) (N := 6) hx hb hT in_To ty_To tk_To nm_To hown hK hP hD hS 0 rfl rfl 1 (by decide) (hT _ wd_196) (fun _ h9 => h9) rfl (by decide +kernel) rfl rfl (Nat.le_of_ble_eq_true rfl) dc_To_readSign_293 (fun H locs hP hD hS => ?_)
    have hP : va_P (dC, dI) vwCl [(h0, .inr (11, [.ref text_, .int 1, .int start_, .int y3, .int value_, .int length_])), (text_, .inl (k_text, 65536, .inl F_text))] H := hP
    have hD : va_D A [(h0, .inr (11, [.ref text_, .int 1, .int start_, .int y3, .int value_, .int length_])), (text_, .inl (k_text, 65536, .inl F_text))] := hD
    refine W.widen (k := 0) (n := 0) (Nat.le_of_ble_eq_true rfl) (Nat.le_of_ble_eq_true rfl) ?_
    exact W.vret hx hb hr (fun t ht hW => ⟨⟨((1 : Int32), y3), rfl, hw, by rw [ht]; exact hP, va_K.moved hW.alike hK, hD⟩, hS.F ht⟩) hS.2.2 dc_To_readSign_296
  have hw := hw.2 hc21_48
  rcases Decidable.em (y2 = 49) with hc21_49 | hc21_49
  · have hw := hw.1 hc21_49
    refine lv_tableIn (off := 270) (tgt := 291) hx hb dc_To_readSign_21 (by rw [hc21_49]; decide) (by rw [hc21_49]; decide) (by rw [hc21_49]; decide) (by decide) ?_
    refine lv_aload_n hx hb dc_To_readSign_291 rfl (lv_at hl 1 rfl) ?_
    refine lv_iconst (v := 1) hx hb dc_To_readSign_292 (by decide) ?_
    refine va_put (D := (dC, dI)) (ci := 11) (v := .int 1) (ty := .int) (C := "StrataBase$Tokens") (T := tb_To) (N := 6) hx hb hT in_To ty_To tk_To nm_To hown hK hP hD hS 0 rfl rfl 1 (by decide) (hT _ wd_196) (fun _ h9 => h9) rfl (by decide +kernel) rfl rfl (Nat.le_of_ble_eq_true rfl) dc_To_readSign_293 (fun H locs hP hD hS => ?_)
    have hP : va_P (dC, dI) vwCl [(h0, .inr (11, [.ref text_, .int 1, .int start_, .int y3, .int value_, .int length_])), (text_, .inl (k_text, 65536, .inl F_text))] H := hP
    have hD : va_D A [(h0, .inr (11, [.ref text_, .int 1, .int start_, .int y3, .int value_, .int length_])), (text_, .inl (k_text, 65536, .inl F_text))] := hD
    refine W.widen (k := 0) (n := 0) (Nat.le_of_ble_eq_true rfl) (Nat.le_of_ble_eq_true rfl) ?_
    exact W.vret hx hb hr (fun t ht hW => ⟨⟨((1 : Int32), y3), rfl, hw, by rw [ht]; exact hP, va_K.moved hW.alike hK, hD⟩, hS.F ht⟩) hS.2.2 dc_To_readSign_296
  have hw := hw.2 hc21_49
  rcases Decidable.em (y2 = 50) with hc21_50 | hc21_50
  · have hw := hw.1 hc21_50
    refine lv_tableIn (off := 270) (tgt := 291) hx hb dc_To_readSign_21 (by rw [hc21_50]; decide) (by rw [hc21_50]; decide) (by rw [hc21_50]; decide) (by decide) ?_
    refine lv_aload_n hx hb dc_To_readSign_291 rfl (lv_at hl 1 rfl) ?_
    refine lv_iconst (v := 1) hx hb dc_To_readSign_292 (by decide) ?_
    refine va_put (D := (dC, dI)) (ci := 11) (v := .int 1) (ty := .int) (C := "StrataBase$Tokens") (T := tb_To) (N := 6) hx hb hT in_To ty_To tk_To nm_To hown hK hP hD hS 0 rfl rfl 1 (by decide) (hT _ wd_196) (fun _ h9 => h9) rfl (by decide +kernel) rfl rfl (Nat.le_of_ble_eq_true rfl) dc_To_readSign_293 (fun H locs hP hD hS => ?_)
    have hP : va_P (dC, dI) vwCl [(h0, .inr (11, [.ref text_, .int 1, .int start_, .int y3, .int value_, .int length_])), (text_, .inl (k_text, 65536, .inl F_text))] H := hP
    have hD : va_D A [(h0, .inr (11, [.ref text_, .int 1, .int start_, .int y3, .int value_, .int length_])), (text_, .inl (k_text, 65536, .inl F_text))] := hD
    refine W.widen (k := 0) (n := 0) (Nat.le_of_ble_eq_true rfl) (Nat.le_of_ble_eq_true rfl) ?_
    exact W.vret hx hb hr (fun t ht hW => ⟨⟨((1 : Int32), y3), rfl, hw, by rw [ht]; exact hP, va_K.moved hW.alike hK, hD⟩, hS.F ht⟩) hS.2.2 dc_To_readSign_296
  have hw := hw.2 hc21_50
  rcases Decidable.em (y2 = 51) with hc21_51 | hc21_51
  · have hw := hw.1 hc21_51
    refine lv_tableIn (off := 270) (tgt := 291) hx hb dc_To_readSign_21 (by rw [hc21_51]; decide) (by rw [hc21_51]; decide) (by rw [hc21_51]; decide) (by decide) ?_
    refine lv_aload_n hx hb dc_To_readSign_291 rfl (lv_at hl 1 rfl) ?_
    refine lv_iconst (v := 1) hx hb dc_To_readSign_292 (by decide) ?_
    refine va_put (D := (dC, dI)) (ci := 11) (v := .int 1) (ty := .int) (C := "StrataBase$Tokens") (T := tb_To) (N := 6) hx hb hT in_To ty_To tk_To nm_To hown hK hP hD hS 0 rfl rfl 1 (by decide) (hT _ wd_196) (fun _ h9 => h9) rfl (by decide +kernel) rfl rfl (Nat.le_of_ble_eq_true rfl) dc_To_readSign_293 (fun H locs hP hD hS => ?_)
    have hP : va_P (dC, dI) vwCl [(h0, .inr (11, [.ref text_, .int 1, .int start_, .int y3, .int value_, .int length_])), (text_, .inl (k_text, 65536, .inl F_text))] H := hP
    have hD : va_D A [(h0, .inr (11, [.ref text_, .int 1, .int start_, .int y3, .int value_, .int length_])), (text_, .inl (k_text, 65536, .inl F_text))] := hD
    refine W.widen (k := 0) (n := 0) (Nat.le_of_ble_eq_true rfl) (Nat.le_of_ble_eq_true rfl) ?_
    exact W.vret hx hb hr (fun t ht hW => ⟨⟨((1 : Int32), y3), rfl, hw, by rw [ht]; exact hP, va_K.moved hW.alike hK, hD⟩, hS.F ht⟩) hS.2.2 dc_To_readSign_296
  have hw := hw.2 hc21_51
  rcases Decidable.em (y2 = 52) with hc21_52 | hc21_52
  · have hw := hw.1 hc21_52
    refine lv_tableIn (off := 270) (tgt := 291) hx hb dc_To_readSign_21 (by rw [hc21_52]; decide) (by rw [hc21_52]; decide) (by rw [hc21_52]; decide) (by decide) ?_
    refine lv_aload_n hx hb dc_To_readSign_291 rfl (lv_at hl 1 rfl) ?_
    refine lv_iconst (v := 1) hx hb dc_To_readSign_292 (by decide) ?_
    refine va_put (D := (dC, dI)) (ci := 11) (v := .int 1) (ty := .int) (C := "StrataBase$Tokens") (T := tb_To) (N := 6) hx hb hT in_To ty_To tk_To nm_To hown hK hP hD hS 0 rfl rfl 1 (by decide) (hT _ wd_196) (fun _ h9 => h9) rfl (by decide +kernel) rfl rfl (Nat.le_of_ble_eq_true rfl) dc_To_readSign_293 (fun H locs hP hD hS => ?_)
    have hP : va_P (dC, dI) vwCl [(h0, .inr (11, [.ref text_, .int 1, .int start_, .int y3, .int value_, .int length_])), (text_, .inl (k_text, 65536, .inl F_text))] H := hP
    have hD : va_D A [(h0, .inr (11, [.ref text_, .int 1, .int start_, .int y3, .int value_, .int length_])), (text_, .inl (k_text, 65536, .inl F_text))] := hD
    refine W.widen (k := 0) (n := 0) (Nat.le_of_ble_eq_true rfl) (Nat.le_of_ble_eq_true rfl) ?_
    exact W.vret hx hb hr (fun t ht hW => ⟨⟨((1 : Int32), y3), rfl, hw, by rw [ht]; exact hP, va_K.moved hW.alike hK, hD⟩, hS.F ht⟩) hS.2.2 dc_To_readSign_296
  have hw := hw.2 hc21_52
  rcases Decidable.em (y2 = 53) with hc21_53 | hc21_53
  · have hw := hw.1 hc21_53
    refine lv_tableIn (off := 270) (tgt := 291) hx hb dc_To_readSign_21 (by rw [hc21_53]; decide) (by rw [hc21_53]; decide) (by rw [hc21_53]; decide) (by decide) ?_
    refine lv_aload_n hx hb dc_To_readSign_291 rfl (lv_at hl 1 rfl) ?_
    refine lv_iconst (v := 1) hx hb dc_To_readSign_292 (by decide) ?_
    refine va_put (D := (dC, dI)) (ci := 11) (v := .int 1) (ty := .int) (C := "StrataBase$Tokens") (T := tb_To) (N := 6) hx hb hT in_To ty_To tk_To nm_To hown hK hP hD hS 0 rfl rfl 1 (by decide) (hT _ wd_196) (fun _ h9 => h9) rfl (by decide +kernel) rfl rfl (Nat.le_of_ble_eq_true rfl) dc_To_readSign_293 (fun H locs hP hD hS => ?_)
    have hP : va_P (dC, dI) vwCl [(h0, .inr (11, [.ref text_, .int 1, .int start_, .int y3, .int value_, .int length_])), (text_, .inl (k_text, 65536, .inl F_text))] H := hP
    have hD : va_D A [(h0, .inr (11, [.ref text_, .int 1, .int start_, .int y3, .int value_, .int length_])), (text_, .inl (k_text, 65536, .inl F_text))] := hD
    refine W.widen (k := 0) (n := 0) (Nat.le_of_ble_eq_true rfl) (Nat.le_of_ble_eq_true rfl) ?_
    exact W.vret hx hb hr (fun t ht hW => ⟨⟨((1 : Int32), y3), rfl, hw, by rw [ht]; exact hP, va_K.moved hW.alike hK, hD⟩, hS.F ht⟩) hS.2.2 dc_To_readSign_296
  have hw := hw.2 hc21_53
  rcases Decidable.em (y2 = 54) with hc21_54 | hc21_54
  · have hw := hw.1 hc21_54
    refine lv_tableIn (off := 270) (tgt := 291) hx hb dc_To_readSign_21 (by rw [hc21_54]; decide) (by rw [hc21_54]; decide) (by rw [hc21_54]; decide) (by decide) ?_
    refine lv_aload_n hx hb dc_To_readSign_291 rfl (lv_at hl 1 rfl) ?_
    refine lv_iconst (v := 1) hx hb dc_To_readSign_292 (by decide) ?_
    refine va_put (D := (dC, dI)) (ci := 11) (v := .int 1) (ty := .int) (C := "StrataBase$Tokens") (T := tb_To) (N := 6) hx hb hT in_To ty_To tk_To nm_To hown hK hP hD hS 0 rfl rfl 1 (by decide) (hT _ wd_196) (fun _ h9 => h9) rfl (by decide +kernel) rfl rfl (Nat.le_of_ble_eq_true rfl) dc_To_readSign_293 (fun H locs hP hD hS => ?_)
    have hP : va_P (dC, dI) vwCl [(h0, .inr (11, [.ref text_, .int 1, .int start_, .int y3, .int value_, .int length_])), (text_, .inl (k_text, 65536, .inl F_text))] H := hP
    have hD : va_D A [(h0, .inr (11, [.ref text_, .int 1, .int start_, .int y3, .int value_, .int length_])), (text_, .inl (k_text, 65536, .inl F_text))] := hD
    refine W.widen (k := 0) (n := 0) (Nat.le_of_ble_eq_true rfl) (Nat.le_of_ble_eq_true rfl) ?_
    exact W.vret hx hb hr (fun t ht hW => ⟨⟨((1 : Int32), y3), rfl, hw, by rw [ht]; exact hP, va_K.moved hW.alike hK, hD⟩, hS.F ht⟩) hS.2.2 dc_To_readSign_296
  have hw := hw.2 hc21_54
  rcases Decidable.em (y2 = 55) with hc21_55 | hc21_55
  · have hw := hw.1 hc21_55
    refine lv_tableIn (off := 270) (tgt := 291) hx hb dc_To_readSign_21 (by rw [hc21_55]; decide) (by rw [hc21_55]; decide) (by rw [hc21_55]; decide) (by decide) ?_
    refine lv_aload_n hx hb dc_To_readSign_291 rfl (lv_at hl 1 rfl) ?_
    refine lv_iconst (v := 1) hx hb dc_To_readSign_292 (by decide) ?_
    refine va_put (D := (dC, dI)) (ci := 11) (v := .int 1) (ty := .int) (C := "StrataBase$Tokens") (T := tb_To) (N := 6) hx hb hT in_To ty_To tk_To nm_To hown hK hP hD hS 0 rfl rfl 1 (by decide) (hT _ wd_196) (fun _ h9 => h9) rfl (by decide +kernel) rfl rfl (Nat.le_of_ble_eq_true rfl) dc_To_readSign_293 (fun H locs hP hD hS => ?_)
    have hP : va_P (dC, dI) vwCl [(h0, .inr (11, [.ref text_, .int 1, .int start_, .int y3, .int value_, .int length_])), (text_, .inl (k_text, 65536, .inl F_text))] H := hP
    have hD : va_D A [(h0, .inr (11, [.ref text_, .int 1, .int start_, .int y3, .int value_, .int length_])), (text_, .inl (k_text, 65536, .inl F_text))] := hD
    refine W.widen (k := 0) (n := 0) (Nat.le_of_ble_eq_true rfl) (Nat.le_of_ble_eq_true rfl) ?_
    exact W.vret hx hb hr (fun t ht hW => ⟨⟨((1 : Int32), y3), rfl, hw, by rw [ht]; exact hP, va_K.moved hW.alike hK, hD⟩, hS.F ht⟩) hS.2.2 dc_To_readSign_296
  have hw := hw.2 hc21_55
  rcases Decidable.em (y2 = 56) with hc21_56 | hc21_56
  · have hw := hw.1 hc21_56
    refine lv_tableIn (off := 270) (tgt := 291) hx hb dc_To_readSign_21 (by rw [hc21_56]; decide) (by rw [hc21_56]; decide) (by rw [hc21_56]; decide) (by decide) ?_
    refine lv_aload_n hx hb dc_To_readSign_291 rfl (lv_at hl 1 rfl) ?_
    refine lv_iconst (v := 1) hx hb dc_To_readSign_292 (by decide) ?_
    refine va_put (D := (dC, dI)) (ci := 11) (v := .int 1) (ty := .int) (C := "StrataBase$Tokens") (T := tb_To) (N := 6) hx hb hT in_To ty_To tk_To nm_To hown hK hP hD hS 0 rfl rfl 1 (by decide) (hT _ wd_196) (fun _ h9 => h9) rfl (by decide +kernel) rfl rfl (Nat.le_of_ble_eq_true rfl) dc_To_readSign_293 (fun H locs hP hD hS => ?_)
    have hP : va_P (dC, dI) vwCl [(h0, .inr (11, [.ref text_, .int 1, .int start_, .int y3, .int value_, .int length_])), (text_, .inl (k_text, 65536, .inl F_text))] H := hP
    have hD : va_D A [(h0, .inr (11, [.ref text_, .int 1, .int start_, .int y3, .int value_, .int length_])), (text_, .inl (k_text, 65536, .inl F_text))] := hD
    refine W.widen (k := 0) (n := 0) (Nat.le_of_ble_eq_true rfl) (Nat.le_of_ble_eq_true rfl) ?_
    exact W.vret hx hb hr (fun t ht hW => ⟨⟨((1 : Int32), y3), rfl, hw, by rw [ht]; exact hP, va_K.moved hW.alike hK, hD⟩, hS.F ht⟩) hS.2.2 dc_To_readSign_296
  have hw := hw.2 hc21_56
  rcases Decidable.em (y2 = 57) with hc21_57 | hc21_57
  · have hw := hw.1 hc21_57
    refine lv_tableIn (off := 270) (tgt := 291) hx hb dc_To_readSign_21 (by rw [hc21_57]; decide) (by rw [hc21_57]; decide) (by rw [hc21_57]; decide) (by decide) ?_
    refine lv_aload_n hx hb dc_To_readSign_291 rfl (lv_at hl 1 rfl) ?_
    refine lv_iconst (v := 1) hx hb dc_To_readSign_292 (by decide) ?_
    refine va_put (D := (dC, dI)) (ci := 11) (v := .int 1) (ty := .int) (C := "StrataBase$Tokens") (T := tb_To) (N := 6) hx hb hT in_To ty_To tk_To nm_To hown hK hP hD hS 0 rfl rfl 1 (by decide) (hT _ wd_196) (fun _ h9 => h9) rfl (by decide +kernel) rfl rfl (Nat.le_of_ble_eq_true rfl) dc_To_readSign_293 (fun H locs hP hD hS => ?_)
    have hP : va_P (dC, dI) vwCl [(h0, .inr (11, [.ref text_, .int 1, .int start_, .int y3, .int value_, .int length_])), (text_, .inl (k_text, 65536, .inl F_text))] H := hP
    have hD : va_D A [(h0, .inr (11, [.ref text_, .int 1, .int start_, .int y3, .int value_, .int length_])), (text_, .inl (k_text, 65536, .inl F_text))] := hD
    refine W.widen (k := 0) (n := 0) (Nat.le_of_ble_eq_true rfl) (Nat.le_of_ble_eq_true rfl) ?_
    exact W.vret hx hb hr (fun t ht hW => ⟨⟨((1 : Int32), y3), rfl, hw, by rw [ht]; exact hP, va_K.moved hW.alike hK, hD⟩, hS.F ht⟩) hS.2.2 dc_To_readSign_296
  have hw := hw.2 hc21_57
  rcases Decidable.em (y2 = 58) with hc21_58 | hc21_58
  · have hw := hw.1 hc21_58
    refine lv_tableIn (off := 180) (tgt := 201) hx hb dc_To_readSign_21 (by rw [hc21_58]; decide) (by rw [hc21_58]; decide) (by rw [hc21_58]; decide) (by decide) ?_
    refine lv_aload_n hx hb dc_To_readSign_201 rfl (lv_at hl 1 rfl) ?_
    refine lv_aload_n hx hb dc_To_readSign_202 rfl (lv_at hl 1 rfl) ?_
    refine lv_bipush (v := 45) hx hb dc_To_readSign_203 (by decide) ?_
    have hPc := hP.sub (ws' := [(h0, .inr (11, [.ref text_, .int kind_, .int start_, .int y3, .int value_, .int length_])), (text_, .inl (k_text, 65536, .inl F_text))]) [0, 1] rfl
    have hDc := hD.sub (ws' := [(h0, .inr (11, [.ref text_, .int kind_, .int start_, .int y3, .int value_, .int length_])), (text_, .inl (k_text, 65536, .inl F_text))]) [0, 1] (by decide) rfl
    have hKc := hK.sub (tys' := [(k_text, .byte)]) [0] rfl
    have hFc := va_free (wc := [(h0, .inr (11, [.ref text_, .int kind_, .int start_, .int y3, .int value_, .int length_])), (text_, .inl (k_text, 65536, .inl F_text))]) hD hS hA [0, 1] rfl
    refine va_calli (va_runV (As := [.int 45]) (rest := [.ref h0]) ⟨hx, hb, hml, hown, hT⟩ (met_To_takes l dC dI h0 text_ (45 : Int32) kind_ start_ y3 value_ length_ F_text k_text H.size hw) (cwV 1 hT (gd_V wd_647 wd_649 sl_To_takes wd_7 wd_650) rfl rfl rfl (by decide +kernel) ⟨Nat.le_of_ble_eq_true rfl, Nat.le_of_ble_eq_true rfl⟩) ⟨fun a U g mk q => by obtain ⟨q0, q1, qP, qK, qD⟩ := q; exact ⟨q0, q1, qP, va_K.moved (u := U) (U := U.calling g mk a) (Vm.Alike.refl U.vm) qK, qD⟩, va_recv hK hP (q0 := 0) (ci := 11) rfl rfl, fun U hU hW => ⟨rfl, by rw [hU], by rw [hU]; exact hPc, va_K.moved hW.alike hKc, hDc.weaken (fun _ _ _ _ => trivial)⟩⟩ rfl rfl hl.1 rfl (lv_room (Nat.le_of_ble_eq_true rfl)) dc_To_readSign_205 ⟨(Nat.le_of_ble_eq_true rfl), (Nat.le_of_ble_eq_true rfl)⟩) hS (fun q _ h => hFc q h) hFc (fun r8 o7 t H1 locs ht hvm hw hB hz1 hk1 hS => ?_)
    obtain ⟨hP1, hK1, hD1⟩ := hB
    rw [ht] at hP1
    have hK1 := va_K.moved hvm.symm hK1
    obtain ⟨hP, hD⟩ := va_join (wr := []) (w1 := [(h0, .inr (11, [.ref text_, .int kind_, .int start_, .int o7, .int value_, .int length_])), (text_, .inl (k_text, 65536, .inl F_text))]) hP hD [0, 1] [] rfl rfl (by decide) (by decide) hk1 hFc hP1 hD1
    have hK := (hK.sub (tys' := []) [] rfl).app hK1
    generalize H1 = H at hP hS ⊢
    have hP : va_P (dC, dI) vwCl [(h0, .inr (11, [.ref text_, .int kind_, .int start_, .int o7, .int value_, .int length_])), (text_, .inl (k_text, 65536, .inl F_text))] H := hP
    have hD : va_D A [(h0, .inr (11, [.ref text_, .int kind_, .int start_, .int o7, .int value_, .int length_])), (text_, .inl (k_text, 65536, .inl F_text))] := hD
    have hK : va_K (dC, dI) vwCl [(k_text, .byte)] s := hK
    refine jn_top (pc2 := 217) (rest := [.ref h0]) (fun y9 => y9 = (if r8 = 0 then (1 : Int32) else (10 : Int32))) (fun y9 ey9 => ?_) (fun k9 => ?_)
    rotate_left
    · refine lv_if_eq (tgt := 216) hx hb dc_To_readSign_208 (by decide) (fun h208 => ?_) (fun h208 => ?_)
      · refine lv_iconst (v := 1) hx hb dc_To_readSign_216 (by decide) ?_
        exact k9 (1 : Int32) (by rw [if_pos h208])
      · refine lv_bipush (v := 10) hx hb dc_To_readSign_211 (by decide) ?_
        refine lv_goto (tgt := 217) hx hb dc_To_readSign_213 (by decide) ?_
        exact k9 (10 : Int32) (by rw [if_neg h208])
    have hw := hw y9 ey9
    refine va_put (D := (dC, dI)) (ci := 11) (v := .int y9) (ty := .int) (C := "StrataBase$Tokens") (T := tb_To) (N := 6) hx hb hT in_To ty_To tk_To nm_To hown hK hP hD hS 0 rfl rfl 1 (by decide) (hT _ wd_196) (fun _ h9 => h9) rfl (by decide +kernel) rfl rfl (Nat.le_of_ble_eq_true rfl) dc_To_readSign_217 (fun H locs hP hD hS => ?_)
    have hP : va_P (dC, dI) vwCl [(h0, .inr (11, [.ref text_, .int y9, .int start_, .int o7, .int value_, .int length_])), (text_, .inl (k_text, 65536, .inl F_text))] H := hP
    have hD : va_D A [(h0, .inr (11, [.ref text_, .int y9, .int start_, .int o7, .int value_, .int length_])), (text_, .inl (k_text, 65536, .inl F_text))] := hD
    refine lv_goto (tgt := 296) hx hb dc_To_readSign_220 (by decide) ?_
    refine W.widen (k := 0) (n := 0) (Nat.le_of_ble_eq_true rfl) (Nat.le_of_ble_eq_true rfl) ?_
    exact W.vret hx hb hr (fun t ht hW => ⟨⟨(y9, o7), rfl, hw, by rw [ht]; exact hP, va_K.moved hW.alike hK, hD⟩, hS.F ht⟩) hS.2.2 dc_To_readSign_296
  have hw := hw.2 hc21_58
  rcases Decidable.em (y2 = 59) with hc21_59 | hc21_59
  · have hw := hw.1 hc21_59
    refine lv_tableIn (off := 270) (tgt := 291) hx hb dc_To_readSign_21 (by rw [hc21_59]; decide) (by rw [hc21_59]; decide) (by rw [hc21_59]; decide) (by decide) ?_
    refine lv_aload_n hx hb dc_To_readSign_291 rfl (lv_at hl 1 rfl) ?_
    refine lv_iconst (v := 1) hx hb dc_To_readSign_292 (by decide) ?_
    refine va_put (D := (dC, dI)) (ci := 11) (v := .int 1) (ty := .int) (C := "StrataBase$Tokens") (T := tb_To) (N := 6) hx hb hT in_To ty_To tk_To nm_To hown hK hP hD hS 0 rfl rfl 1 (by decide) (hT _ wd_196) (fun _ h9 => h9) rfl (by decide +kernel) rfl rfl (Nat.le_of_ble_eq_true rfl) dc_To_readSign_293 (fun H locs hP hD hS => ?_)
    have hP : va_P (dC, dI) vwCl [(h0, .inr (11, [.ref text_, .int 1, .int start_, .int y3, .int value_, .int length_])), (text_, .inl (k_text, 65536, .inl F_text))] H := hP
    have hD : va_D A [(h0, .inr (11, [.ref text_, .int 1, .int start_, .int y3, .int value_, .int length_])), (text_, .inl (k_text, 65536, .inl F_text))] := hD
    refine W.widen (k := 0) (n := 0) (Nat.le_of_ble_eq_true rfl) (Nat.le_of_ble_eq_true rfl) ?_
    exact W.vret hx hb hr (fun t ht hW => ⟨⟨((1 : Int32), y3), rfl, hw, by rw [ht]; exact hP, va_K.moved hW.alike hK, hD⟩, hS.F ht⟩) hS.2.2 dc_To_readSign_296
  have hw := hw.2 hc21_59
  rcases Decidable.em (y2 = 60) with hc21_60 | hc21_60
  · have hw := hw.1 hc21_60
    refine lv_tableIn (off := 224) (tgt := 245) hx hb dc_To_readSign_21 (by rw [hc21_60]; decide) (by rw [hc21_60]; decide) (by rw [hc21_60]; decide) (by decide) ?_
    refine lv_aload_n hx hb dc_To_readSign_245 rfl (lv_at hl 1 rfl) ?_
    refine lv_aload_n hx hb dc_To_readSign_246 rfl (lv_at hl 1 rfl) ?_
    refine lv_bipush (v := 61) hx hb dc_To_readSign_247 (by decide) ?_
    have hPc := hP.sub (ws' := [(h0, .inr (11, [.ref text_, .int kind_, .int start_, .int y3, .int value_, .int length_])), (text_, .inl (k_text, 65536, .inl F_text))]) [0, 1] rfl
    have hDc := hD.sub (ws' := [(h0, .inr (11, [.ref text_, .int kind_, .int start_, .int y3, .int value_, .int length_])), (text_, .inl (k_text, 65536, .inl F_text))]) [0, 1] (by decide) rfl
    have hKc := hK.sub (tys' := [(k_text, .byte)]) [0] rfl
    have hFc := va_free (wc := [(h0, .inr (11, [.ref text_, .int kind_, .int start_, .int y3, .int value_, .int length_])), (text_, .inl (k_text, 65536, .inl F_text))]) hD hS hA [0, 1] rfl
    refine va_calli (va_runV (As := [.int 61]) (rest := [.ref h0]) ⟨hx, hb, hml, hown, hT⟩ (met_To_takes l dC dI h0 text_ (61 : Int32) kind_ start_ y3 value_ length_ F_text k_text H.size hw) (cwV 1 hT (gd_V wd_647 wd_649 sl_To_takes wd_7 wd_650) rfl rfl rfl (by decide +kernel) ⟨Nat.le_of_ble_eq_true rfl, Nat.le_of_ble_eq_true rfl⟩) ⟨fun a U g mk q => by obtain ⟨q0, q1, qP, qK, qD⟩ := q; exact ⟨q0, q1, qP, va_K.moved (u := U) (U := U.calling g mk a) (Vm.Alike.refl U.vm) qK, qD⟩, va_recv hK hP (q0 := 0) (ci := 11) rfl rfl, fun U hU hW => ⟨rfl, by rw [hU], by rw [hU]; exact hPc, va_K.moved hW.alike hKc, hDc.weaken (fun _ _ _ _ => trivial)⟩⟩ rfl rfl hl.1 rfl (lv_room (Nat.le_of_ble_eq_true rfl)) dc_To_readSign_249 ⟨(Nat.le_of_ble_eq_true rfl), (Nat.le_of_ble_eq_true rfl)⟩) hS (fun q _ h => hFc q h) hFc (fun r11 o10 t H1 locs ht hvm hw hB hz1 hk1 hS => ?_)
    obtain ⟨hP1, hK1, hD1⟩ := hB
    rw [ht] at hP1
    have hK1 := va_K.moved hvm.symm hK1
    obtain ⟨hP, hD⟩ := va_join (wr := []) (w1 := [(h0, .inr (11, [.ref text_, .int kind_, .int start_, .int o10, .int value_, .int length_])), (text_, .inl (k_text, 65536, .inl F_text))]) hP hD [0, 1] [] rfl rfl (by decide) (by decide) hk1 hFc hP1 hD1
    have hK := (hK.sub (tys' := []) [] rfl).app hK1
    generalize H1 = H at hP hS ⊢
    have hP : va_P (dC, dI) vwCl [(h0, .inr (11, [.ref text_, .int kind_, .int start_, .int o10, .int value_, .int length_])), (text_, .inl (k_text, 65536, .inl F_text))] H := hP
    have hD : va_D A [(h0, .inr (11, [.ref text_, .int kind_, .int start_, .int o10, .int value_, .int length_])), (text_, .inl (k_text, 65536, .inl F_text))] := hD
    have hK : va_K (dC, dI) vwCl [(k_text, .byte)] s := hK
    refine jn_top (pc2 := 262) (rest := [.ref h0]) (fun y12 => y12 = (if r11 = 0 then (13 : Int32) else (14 : Int32))) (fun y12 ey12 => ?_) (fun k9 => ?_)
    rotate_left
    · refine lv_if_eq (tgt := 260) hx hb dc_To_readSign_252 (by decide) (fun h252 => ?_) (fun h252 => ?_)
      · refine lv_bipush (v := 13) hx hb dc_To_readSign_260 (by decide) ?_
        exact k9 (13 : Int32) (by rw [if_pos h252])
      · refine lv_bipush (v := 14) hx hb dc_To_readSign_255 (by decide) ?_
        refine lv_goto (tgt := 262) hx hb dc_To_readSign_257 (by decide) ?_
        exact k9 (14 : Int32) (by rw [if_neg h252])
    have hw := hw y12 ey12
    refine va_put (D := (dC, dI)) (ci := 11) (v := .int y12) (ty := .int) (C := "StrataBase$Tokens") (T := tb_To) (N := 6) hx hb hT in_To ty_To tk_To nm_To hown hK hP hD hS 0 rfl rfl 1 (by decide) (hT _ wd_196) (fun _ h9 => h9) rfl (by decide +kernel) rfl rfl (Nat.le_of_ble_eq_true rfl) dc_To_readSign_262 (fun H locs hP hD hS => ?_)
    have hP : va_P (dC, dI) vwCl [(h0, .inr (11, [.ref text_, .int y12, .int start_, .int o10, .int value_, .int length_])), (text_, .inl (k_text, 65536, .inl F_text))] H := hP
    have hD : va_D A [(h0, .inr (11, [.ref text_, .int y12, .int start_, .int o10, .int value_, .int length_])), (text_, .inl (k_text, 65536, .inl F_text))] := hD
    refine lv_goto (tgt := 296) hx hb dc_To_readSign_265 (by decide) ?_
    refine W.widen (k := 0) (n := 0) (Nat.le_of_ble_eq_true rfl) (Nat.le_of_ble_eq_true rfl) ?_
    exact W.vret hx hb hr (fun t ht hW => ⟨⟨(y12, o10), rfl, hw, by rw [ht]; exact hP, va_K.moved hW.alike hK, hD⟩, hS.F ht⟩) hS.2.2 dc_To_readSign_296
  have hw := hw.2 hc21_60
  rcases Decidable.em (y2 = 61) with hc21_61 | hc21_61
  · have hw := hw.1 hc21_61
    refine lv_tableIn (off := 171) (tgt := 192) hx hb dc_To_readSign_21 (by rw [hc21_61]; decide) (by rw [hc21_61]; decide) (by rw [hc21_61]; decide) (by decide) ?_
    refine lv_aload_n hx hb dc_To_readSign_192 rfl (lv_at hl 1 rfl) ?_
    refine lv_bipush (v := 11) hx hb dc_To_readSign_193 (by decide) ?_
    refine va_put (D := (dC, dI)) (ci := 11) (v := .int 11) (ty := .int) (C := "StrataBase$Tokens") (T := tb_To) (N := 6) hx hb hT in_To ty_To tk_To nm_To hown hK hP hD hS 0 rfl rfl 1 (by decide) (hT _ wd_196) (fun _ h9 => h9) rfl (by decide +kernel) rfl rfl (Nat.le_of_ble_eq_true rfl) dc_To_readSign_195 (fun H locs hP hD hS => ?_)
    have hP : va_P (dC, dI) vwCl [(h0, .inr (11, [.ref text_, .int 11, .int start_, .int y3, .int value_, .int length_])), (text_, .inl (k_text, 65536, .inl F_text))] H := hP
    have hD : va_D A [(h0, .inr (11, [.ref text_, .int 11, .int start_, .int y3, .int value_, .int length_])), (text_, .inl (k_text, 65536, .inl F_text))] := hD
    refine lv_goto (tgt := 296) hx hb dc_To_readSign_198 (by decide) ?_
    refine W.widen (k := 0) (n := 0) (Nat.le_of_ble_eq_true rfl) (Nat.le_of_ble_eq_true rfl) ?_
    exact W.vret hx hb hr (fun t ht hW => ⟨⟨((11 : Int32), y3), rfl, hw, by rw [ht]; exact hP, va_K.moved hW.alike hK, hD⟩, hS.F ht⟩) hS.2.2 dc_To_readSign_296
  have hw := hw.2 hc21_61
  rcases Decidable.em (y2 = 62) with hc21_62 | hc21_62
  · have hw := hw.1 hc21_62
    refine lv_tableIn (off := 247) (tgt := 268) hx hb dc_To_readSign_21 (by rw [hc21_62]; decide) (by rw [hc21_62]; decide) (by rw [hc21_62]; decide) (by decide) ?_
    refine lv_aload_n hx hb dc_To_readSign_268 rfl (lv_at hl 1 rfl) ?_
    refine lv_aload_n hx hb dc_To_readSign_269 rfl (lv_at hl 1 rfl) ?_
    refine lv_bipush (v := 61) hx hb dc_To_readSign_270 (by decide) ?_
    have hPc := hP.sub (ws' := [(h0, .inr (11, [.ref text_, .int kind_, .int start_, .int y3, .int value_, .int length_])), (text_, .inl (k_text, 65536, .inl F_text))]) [0, 1] rfl
    have hDc := hD.sub (ws' := [(h0, .inr (11, [.ref text_, .int kind_, .int start_, .int y3, .int value_, .int length_])), (text_, .inl (k_text, 65536, .inl F_text))]) [0, 1] (by decide) rfl
    have hKc := hK.sub (tys' := [(k_text, .byte)]) [0] rfl
    have hFc := va_free (wc := [(h0, .inr (11, [.ref text_, .int kind_, .int start_, .int y3, .int value_, .int length_])), (text_, .inl (k_text, 65536, .inl F_text))]) hD hS hA [0, 1] rfl
    refine va_calli (va_runV (As := [.int 61]) (rest := [.ref h0]) ⟨hx, hb, hml, hown, hT⟩ (met_To_takes l dC dI h0 text_ (61 : Int32) kind_ start_ y3 value_ length_ F_text k_text H.size hw) (cwV 1 hT (gd_V wd_647 wd_649 sl_To_takes wd_7 wd_650) rfl rfl rfl (by decide +kernel) ⟨Nat.le_of_ble_eq_true rfl, Nat.le_of_ble_eq_true rfl⟩) ⟨fun a U g mk q => by obtain ⟨q0, q1, qP, qK, qD⟩ := q; exact ⟨q0, q1, qP, va_K.moved (u := U) (U := U.calling g mk a) (Vm.Alike.refl U.vm) qK, qD⟩, va_recv hK hP (q0 := 0) (ci := 11) rfl rfl, fun U hU hW => ⟨rfl, by rw [hU], by rw [hU]; exact hPc, va_K.moved hW.alike hKc, hDc.weaken (fun _ _ _ _ => trivial)⟩⟩ rfl rfl hl.1 rfl (lv_room (Nat.le_of_ble_eq_true rfl)) dc_To_readSign_272 ⟨(Nat.le_of_ble_eq_true rfl), (Nat.le_of_ble_eq_true rfl)⟩) hS (fun q _ h => hFc q h) hFc (fun r14 o13 t H1 locs ht hvm hw hB hz1 hk1 hS => ?_)
    obtain ⟨hP1, hK1, hD1⟩ := hB
    rw [ht] at hP1
    have hK1 := va_K.moved hvm.symm hK1
    obtain ⟨hP, hD⟩ := va_join (wr := []) (w1 := [(h0, .inr (11, [.ref text_, .int kind_, .int start_, .int o13, .int value_, .int length_])), (text_, .inl (k_text, 65536, .inl F_text))]) hP hD [0, 1] [] rfl rfl (by decide) (by decide) hk1 hFc hP1 hD1
    have hK := (hK.sub (tys' := []) [] rfl).app hK1
    generalize H1 = H at hP hS ⊢
    have hP : va_P (dC, dI) vwCl [(h0, .inr (11, [.ref text_, .int kind_, .int start_, .int o13, .int value_, .int length_])), (text_, .inl (k_text, 65536, .inl F_text))] H := hP
    have hD : va_D A [(h0, .inr (11, [.ref text_, .int kind_, .int start_, .int o13, .int value_, .int length_])), (text_, .inl (k_text, 65536, .inl F_text))] := hD
    have hK : va_K (dC, dI) vwCl [(k_text, .byte)] s := hK
    refine jn_top (pc2 := 285) (rest := [.ref h0]) (fun y15 => y15 = (if r14 = 0 then (15 : Int32) else (16 : Int32))) (fun y15 ey15 => ?_) (fun k9 => ?_)
    rotate_left
    · refine lv_if_eq (tgt := 283) hx hb dc_To_readSign_275 (by decide) (fun h275 => ?_) (fun h275 => ?_)
      · refine lv_bipush (v := 15) hx hb dc_To_readSign_283 (by decide) ?_
        exact k9 (15 : Int32) (by rw [if_pos h275])
      · refine lv_bipush (v := 16) hx hb dc_To_readSign_278 (by decide) ?_
        refine lv_goto (tgt := 285) hx hb dc_To_readSign_280 (by decide) ?_
        exact k9 (16 : Int32) (by rw [if_neg h275])
    have hw := hw y15 ey15
    refine va_put (D := (dC, dI)) (ci := 11) (v := .int y15) (ty := .int) (C := "StrataBase$Tokens") (T := tb_To) (N := 6) hx hb hT in_To ty_To tk_To nm_To hown hK hP hD hS 0 rfl rfl 1 (by decide) (hT _ wd_196) (fun _ h9 => h9) rfl (by decide +kernel) rfl rfl (Nat.le_of_ble_eq_true rfl) dc_To_readSign_285 (fun H locs hP hD hS => ?_)
    have hP : va_P (dC, dI) vwCl [(h0, .inr (11, [.ref text_, .int y15, .int start_, .int o13, .int value_, .int length_])), (text_, .inl (k_text, 65536, .inl F_text))] H := hP
    have hD : va_D A [(h0, .inr (11, [.ref text_, .int y15, .int start_, .int o13, .int value_, .int length_])), (text_, .inl (k_text, 65536, .inl F_text))] := hD
    refine lv_goto (tgt := 296) hx hb dc_To_readSign_288 (by decide) ?_
    refine W.widen (k := 0) (n := 0) (Nat.le_of_ble_eq_true rfl) (Nat.le_of_ble_eq_true rfl) ?_
    exact W.vret hx hb hr (fun t ht hW => ⟨⟨(y15, o13), rfl, hw, by rw [ht]; exact hP, va_K.moved hW.alike hK, hD⟩, hS.F ht⟩) hS.2.2 dc_To_readSign_296
  have hw := hw.2 hc21_62
  have hc21_33 := sw_ne (k := 33) hc21_33 (by decide)
  have hc21_34 := sw_ne (k := 34) hc21_34 (by decide)
  have hc21_35 := sw_ne (k := 35) hc21_35 (by decide)
  have hc21_36 := sw_ne (k := 36) hc21_36 (by decide)
  have hc21_37 := sw_ne (k := 37) hc21_37 (by decide)
  have hc21_38 := sw_ne (k := 38) hc21_38 (by decide)
  have hc21_39 := sw_ne (k := 39) hc21_39 (by decide)
  have hc21_40 := sw_ne (k := 40) hc21_40 (by decide)
  have hc21_41 := sw_ne (k := 41) hc21_41 (by decide)
  have hc21_42 := sw_ne (k := 42) hc21_42 (by decide)
  have hc21_43 := sw_ne (k := 43) hc21_43 (by decide)
  have hc21_44 := sw_ne (k := 44) hc21_44 (by decide)
  have hc21_45 := sw_ne (k := 45) hc21_45 (by decide)
  have hc21_46 := sw_ne (k := 46) hc21_46 (by decide)
  have hc21_47 := sw_ne (k := 47) hc21_47 (by decide)
  have hc21_48 := sw_ne (k := 48) hc21_48 (by decide)
  have hc21_49 := sw_ne (k := 49) hc21_49 (by decide)
  have hc21_50 := sw_ne (k := 50) hc21_50 (by decide)
  have hc21_51 := sw_ne (k := 51) hc21_51 (by decide)
  have hc21_52 := sw_ne (k := 52) hc21_52 (by decide)
  have hc21_53 := sw_ne (k := 53) hc21_53 (by decide)
  have hc21_54 := sw_ne (k := 54) hc21_54 (by decide)
  have hc21_55 := sw_ne (k := 55) hc21_55 (by decide)
  have hc21_56 := sw_ne (k := 56) hc21_56 (by decide)
  have hc21_57 := sw_ne (k := 57) hc21_57 (by decide)
  have hc21_58 := sw_ne (k := 58) hc21_58 (by decide)
  have hc21_59 := sw_ne (k := 59) hc21_59 (by decide)
  have hc21_60 := sw_ne (k := 60) hc21_60 (by decide)
  have hc21_61 := sw_ne (k := 61) hc21_61 (by decide)
  have hc21_62 := sw_ne (k := 62) hc21_62 (by decide)
  refine lv_tableOut (tgt := 291) hx hb dc_To_readSign_21 (by omega) (by decide) ?_
  refine lv_aload_n hx hb dc_To_readSign_291 rfl (lv_at hl 1 rfl) ?_
  refine lv_iconst (v := 1) hx hb dc_To_readSign_292 (by decide) ?_
  refine va_put (D := (dC, dI)) (ci := 11) (v := .int 1) (ty := .int) (C := "StrataBase$Tokens") (T := tb_To) (N := 6) hx hb hT in_To ty_To tk_To nm_To hown hK hP hD hS 0 rfl rfl 1 (by decide) (hT _ wd_196) (fun _ h9 => h9) rfl (by decide +kernel) rfl rfl (Nat.le_of_ble_eq_true rfl) dc_To_readSign_293 (fun H locs hP hD hS => ?_)
  have hP : va_P (dC, dI) vwCl [(h0, .inr (11, [.ref text_, .int 1, .int start_, .int y3, .int value_, .int length_])), (text_, .inl (k_text, 65536, .inl F_text))] H := hP
  have hD : va_D A [(h0, .inr (11, [.ref text_, .int 1, .int start_, .int y3, .int value_, .int length_])), (text_, .inl (k_text, 65536, .inl F_text))] := hD
  refine W.widen (k := 0) (n := 0) (Nat.le_of_ble_eq_true rfl) (Nat.le_of_ble_eq_true rfl) ?_
  exact W.vret hx hb hr (fun t ht hW => ⟨⟨((1 : Int32), y3), rfl, hw, by rw [ht]; exact hP, va_K.moved hW.alike hK, hD⟩, hS.F ht⟩) hS.2.2 dc_To_readSign_296

def jw_met_To_next_102 (post : (Int32 × Int32 × Int32 × Int32) → Prop) (o1 : Int32) (length_ : Int32) (F_text : Nat → Int32) : (Unit) → Prop
  | _ => wp_met_To_readNumber (fun (u9 : Int32 × Int32 × Int32) => match u9 with | (o22, o23, o24) => (post (o22, o1, o23, o24))) o1 length_ F_text
def jw_met_To_next_73 (post : (Int32 × Int32 × Int32 × Int32) → Prop) (o1 : Int32) (F_text : Nat → Int32) (length_ : Int32) : (Unit) → Prop
  | _ => vp_in o1 65536 ∧ (∀ y14 : Int32, y14 = F_text o1.toNatClampNeg → (wp_met_To_isDigit (fun (r15 : Int32) (_ : Unit) => (((r15 = 0 → (vp_in o1 65536 ∧ (∀ y18 : Int32, y18 = F_text o1.toNatClampNeg → (((y18 = (45 : Int32) → (jw_met_To_next_102 post o1 length_ F_text ())) ∧ (¬ (y18 = (45 : Int32)) → (wp_met_To_readSign (fun (u9 : Int32 × Int32) => match u9 with | (o19, o20) => (post (o19, o1, o20, (0 : Int32)))) o1 length_ F_text))))))) ∧ (¬ (r15 = 0) → (jw_met_To_next_102 post o1 length_ F_text ()))))) y14))
def wp_met_To_next (post : (Int32 × Int32 × Int32 × Int32) → Prop) (stop_ : Int32) (length_ : Int32) (F_text : Nat → Int32) : Prop := wp_met_To_skipBlanks (fun (o1 : Int32) => (((o1 < length_ → (vp_in o1 65536 ∧ (∀ y4 : Int32, y4 = F_text o1.toNatClampNeg → (wp_met_To_isWordByte (fun (r5 : Int32) (_ : Unit) => (((r5 = 0 → (jw_met_To_next_73 post o1 F_text length_ ())) ∧ (¬ (r5 = 0) → (vp_in o1 65536 ∧ (∀ y8 : Int32, y8 = F_text o1.toNatClampNeg → (wp_met_To_isDigit (fun (r9 : Int32) (_ : Unit) => (((r9 = 0 → (wp_met_To_readWord (fun (u9 : Int32 × Int32) => match u9 with | (o10, o11) => (post (o10, o1, o11, (0 : Int32)))) o1 o1 length_ F_text)) ∧ (¬ (r9 = 0) → (jw_met_To_next_73 post o1 F_text length_ ()))))) y8))))))) y4)))) ∧ (¬ (o1 < length_) → (post ((0 : Int32), o1, o1, (0 : Int32))))))) stop_ length_ F_text
set_option maxHeartbeats 4000000 in
set_option maxRecDepth 100000 in
theorem met_To_next (l : Launch) (dC : Nat → ClassId) (dI : Nat → Nat → Nat) (h0 : Nat) (text_ : Nat) (kind_ : Int32) (start_ : Int32) (stop_ : Int32) (value_ : Int32) (length_ : Int32) (F_text : Nat → Int32) (k_text : ClassId) (sz : Nat) {post : (Int32 × Int32 × Int32 × Int32) → Prop} (hw : wp_met_To_next post stop_ length_ F_text) : Met l my_To_next (Cond.code my_To_next cd_To_next 1 none :: tblG) ({ frames := 3, cells := 0, slots := 0, locals := 61 }) (va_Pc [.ref h0] (fun U => U.heap.size = sz ∧ va_P (dC, dI) vwCl [(h0, .inr (11, [.ref text_, .int kind_, .int start_, .int stop_, .int value_, .int length_])), (text_, .inl (k_text, 65536, .inl F_text))] U.heap ∧ va_K (dC, dI) vwCl [(k_text, .byte)] U ∧ va_D (fun _ => True) [(h0, .inr (11, [.ref text_, .int kind_, .int start_, .int stop_, .int value_, .int length_])), (text_, .inl (k_text, 65536, .inl F_text))])) (va_Qv post (fun (u : Int32 × Int32 × Int32 × Int32) (t : State) => match u with | (o0, o1, o2, o3) => va_P (dC, dI) vwCl [(h0, .inr (11, [.ref text_, .int o0, .int o1, .int o2, .int o3, .int length_])), (text_, .inl (k_text, 65536, .inl F_text))] t.heap ∧ va_K (dC, dI) vwCl [(k_text, .byte)] t ∧ va_D (va_A [(h0, .inr (11, [.ref text_, .int kind_, .int start_, .int stop_, .int value_, .int length_])), (text_, .inl (k_text, 65536, .inl F_text))] sz) [(h0, .inr (11, [.ref text_, .int o0, .int o1, .int o2, .int o3, .int length_])), (text_, .inl (k_text, 65536, .inl F_text))]) (va_A [(h0, .inr (11, [.ref text_, .int kind_, .int start_, .int stop_, .int value_, .int length_])), (text_, .inl (k_text, 65536, .inl F_text))] sz)) 0 0 (va_A [(h0, .inr (11, [.ref text_, .int kind_, .int start_, .int stop_, .int value_, .int length_])), (text_, .inl (k_text, 65536, .inl F_text))] sz) := by
  refine Met.ofW (cc := cd_To_next) (maxL := 1) (ret := none) (by decide) rfl ?_
  intro p e s m args below meth c s₁ B hml hv
  obtain ⟨rfl, hsz, hP, hK, hD0⟩ := hv
  have hx := B.exec
  have hb := B.bytes
  have hr := B.returns
  have hT : ∀ w ∈ tblG, w.before _ s = true := fun w h => atoms_spec (ws := (Cond.code my_To_next cd_To_next 1 none :: tblG)) B.pre w (List.mem_cons_of_mem _ h)
  have hown : s.vm.findClass "StrataBase$Tokens" = some m.cls := findClass_of_methodNamed B.named
  have hlocks := B.notSynchronized
  subst hsz
  have hD := hD0.self (sz := s.heap.size)
  generalize hAe : va_A [(h0, .inr (11, [.ref text_, .int kind_, .int start_, .int stop_, .int value_, .int length_])), (text_, .inl (k_text, 65536, .inl F_text))] s.heap.size = A at hD ⊢
  have hA : ∀ q : Nat, s.heap.size ≤ q → A q := fun q h => by rw [← hAe]; exact Or.inr h
  have hS : va_S A s.heap s.heap [] := va_S.rf
  have hl := lv_entry ([.ref h0]) (n := 1) (Nat.le_of_ble_eq_true rfl)
  rw [lg_entry_eq]
  generalize (lg_sl ([.ref h0]) ++ List.replicate (1 - (lg_sl ([.ref h0])).length) Slot.unset).toArray = ls at hl ⊢
  have hl : lv_has ls 1 [(0, .ref h0)] := hl
  unfold wp_met_To_next at hw
  refine lv_aload_n hx hb dc_To_next_0 rfl (lv_at hl 0 rfl) ?_
  have hPc := hP.sub (ws' := [(h0, .inr (11, [.ref text_, .int kind_, .int start_, .int stop_, .int value_, .int length_])), (text_, .inl (k_text, 65536, .inl F_text))]) [0, 1] rfl
  have hDc := hD.sub (ws' := [(h0, .inr (11, [.ref text_, .int kind_, .int start_, .int stop_, .int value_, .int length_])), (text_, .inl (k_text, 65536, .inl F_text))]) [0, 1] (by decide) rfl
  have hKc := hK.sub (tys' := [(k_text, .byte)]) [0] rfl
  have hFc := va_free (wc := [(h0, .inr (11, [.ref text_, .int kind_, .int start_, .int stop_, .int value_, .int length_])), (text_, .inl (k_text, 65536, .inl F_text))]) hD hS hA [0, 1] rfl
  refine va_callv (va_runV (As := []) (rest := []) ⟨hx, hb, hml, hown, hT⟩ (met_To_skipBlanks l dC dI h0 text_ kind_ start_ stop_ value_ length_ F_text k_text s.heap.size hw) (cwV 0 hT (gd_V wd_607 wd_609 sl_To_skipBlanks wd_7 wd_610) rfl rfl rfl (by decide +kernel) ⟨Nat.le_of_ble_eq_true rfl, Nat.le_of_ble_eq_true rfl⟩) ⟨fun a U g mk q => by obtain ⟨q0, q1, qP, qK, qD⟩ := q; exact ⟨q0, q1, qP, va_K.moved (u := U) (U := U.calling g mk a) (Vm.Alike.refl U.vm) qK, qD⟩, va_recv hK hP (q0 := 0) (ci := 11) rfl rfl, fun U hU hW => ⟨rfl, by rw [hU], by rw [hU]; exact hPc, va_K.moved hW.alike hKc, hDc.weaken (fun _ _ _ _ => trivial)⟩⟩ rfl rfl hl.1 rfl (lv_room (Nat.le_of_ble_eq_true rfl)) dc_To_next_1 ⟨(Nat.le_of_ble_eq_true rfl), (Nat.le_of_ble_eq_true rfl)⟩) hS (fun q _ h => hFc q h) hFc (fun o1 t H1 locs ht hvm hw hB hz1 hk1 hS => ?_)
  obtain ⟨hP1, hK1, hD1⟩ := hB
  rw [ht] at hP1
  have hK1 := va_K.moved hvm.symm hK1
  obtain ⟨hP, hD⟩ := va_join (wr := []) (w1 := [(h0, .inr (11, [.ref text_, .int kind_, .int start_, .int o1, .int value_, .int length_])), (text_, .inl (k_text, 65536, .inl F_text))]) hP hD [0, 1] [] rfl rfl (by decide) (by decide) hk1 hFc hP1 hD1
  have hK := (hK.sub (tys' := []) [] rfl).app hK1
  generalize H1 = H at hP hS ⊢
  have hP : va_P (dC, dI) vwCl [(h0, .inr (11, [.ref text_, .int kind_, .int start_, .int o1, .int value_, .int length_])), (text_, .inl (k_text, 65536, .inl F_text))] H := hP
  have hD : va_D A [(h0, .inr (11, [.ref text_, .int kind_, .int start_, .int o1, .int value_, .int length_])), (text_, .inl (k_text, 65536, .inl F_text))] := hD
  have hK : va_K (dC, dI) vwCl [(k_text, .byte)] s := hK
  refine lv_aload_n hx hb dc_To_next_4 rfl (lv_at hl 0 rfl) ?_
  refine lv_aload_n hx hb dc_To_next_5 rfl (lv_at hl 0 rfl) ?_
  refine va_get (D := (dC, dI)) (ci := 11) (v := .int o1) (C := "StrataBase$Tokens") (T := tb_To) (N := 6) hx hb hT in_To hown hK hP 0 rfl rfl 3 (by decide) (hT _ wd_200) (fun _ h9 => h9) rfl dc_To_next_6 ?_
  refine va_put (D := (dC, dI)) (ci := 11) (v := .int o1) (ty := .int) (C := "StrataBase$Tokens") (T := tb_To) (N := 6) hx hb hT in_To ty_To tk_To nm_To hown hK hP hD hS 0 rfl rfl 2 (by decide) (hT _ wd_198) (fun _ h9 => h9) rfl (by decide +kernel) rfl rfl (Nat.le_of_ble_eq_true rfl) dc_To_next_9 (fun H locs hP hD hS => ?_)
  have hP : va_P (dC, dI) vwCl [(h0, .inr (11, [.ref text_, .int kind_, .int o1, .int o1, .int value_, .int length_])), (text_, .inl (k_text, 65536, .inl F_text))] H := hP
  have hD : va_D A [(h0, .inr (11, [.ref text_, .int kind_, .int o1, .int o1, .int value_, .int length_])), (text_, .inl (k_text, 65536, .inl F_text))] := hD
  refine lv_aload_n hx hb dc_To_next_12 rfl (lv_at hl 0 rfl) ?_
  refine lv_iconst (v := 0) hx hb dc_To_next_13 (by decide) ?_
  refine va_put (D := (dC, dI)) (ci := 11) (v := .int 0) (ty := .int) (C := "StrataBase$Tokens") (T := tb_To) (N := 6) hx hb hT in_To ty_To tk_To nm_To hown hK hP hD hS 0 rfl rfl 4 (by decide) (hT _ wd_202) (fun _ h9 => h9) rfl (by decide +kernel) rfl rfl (Nat.le_of_ble_eq_true rfl) dc_To_next_14 (fun H locs hP hD hS => ?_)
  have hP : va_P (dC, dI) vwCl [(h0, .inr (11, [.ref text_, .int kind_, .int o1, .int o1, .int 0, .int length_])), (text_, .inl (k_text, 65536, .inl F_text))] H := hP
  have hD : va_D A [(h0, .inr (11, [.ref text_, .int kind_, .int o1, .int o1, .int 0, .int length_])), (text_, .inl (k_text, 65536, .inl F_text))] := hD
  refine lv_aload_n hx hb dc_To_next_17 rfl (lv_at hl 0 rfl) ?_
  refine va_get (D := (dC, dI)) (ci := 11) (v := .int o1) (C := "StrataBase$Tokens") (T := tb_To) (N := 6) hx hb hT in_To hown hK hP 0 rfl rfl 3 (by decide) (hT _ wd_200) (fun _ h9 => h9) rfl dc_To_next_18 ?_
  refine lv_aload_n hx hb dc_To_next_21 rfl (lv_at hl 0 rfl) ?_
  refine va_get (D := (dC, dI)) (ci := 11) (v := .int length_) (C := "StrataBase$Tokens") (T := tb_To) (N := 6) hx hb hT in_To hown hK hP 0 rfl rfl 5 (by decide) (hT _ wd_204) (fun _ h9 => h9) rfl dc_To_next_22 ?_
  refine lv_icmp_lt (tgt := 36) hx hb dc_To_next_25 (by decide) (fun h25 => ?_) (fun h25 => ?_)
  · have hw := hw.1 h25
    refine lv_aload_n hx hb dc_To_next_36 rfl (lv_at hl 0 rfl) ?_
    refine va_get (D := (dC, dI)) (ci := 11) (v := .ref text_) (C := "StrataBase$Tokens") (T := tb_To) (N := 6) hx hb hT in_To hown hK hP 0 rfl rfl 0 (by decide) (hT _ wd_194) (fun _ h9 => h9) rfl dc_To_next_37 ?_
    refine lv_aload_n hx hb dc_To_next_40 rfl (lv_at hl 0 rfl) ?_
    refine va_get (D := (dC, dI)) (ci := 11) (v := .int o1) (C := "StrataBase$Tokens") (T := tb_To) (N := 6) hx hb hT in_To hown hK hP 0 rfl rfl 3 (by decide) (hT _ wd_200) (fun _ h9 => h9) rfl dc_To_next_41 ?_
    obtain ⟨hv3, hw⟩ := hw
    refine va_bald hx hb hK hP 1 0 rfl rfl hv3 dc_To_next_44 ?_
    refine lv_topi (fun y4 ey4 => ?_)
    have hw := hw y4 ey4
    have hPc := hP.sub (ws' := []) [] rfl
    have hDc := hD.sub (ws' := []) [] (by decide) rfl
    have hKc := hK.sub (tys' := []) [] rfl
    have hFc := va_free (wc := []) hD hS hA [] rfl
    refine va_calli (va_runS (As := [.int y4]) (rest := []) ⟨hx, hb, hml, hown, hT⟩ (met_To_isWordByte l dC dI y4 H.size hw) (va_cwS 1 hT (gd_S wd_614 wd_615 wd_7 wd_616) rfl rfl rfl (by decide +kernel) ⟨Nat.le_of_ble_eq_true rfl, Nat.le_of_ble_eq_true rfl⟩) ⟨fun a U g mk q => by obtain ⟨q0, q1, qP, qK, qD⟩ := q; exact ⟨q0, q1, qP, va_K.moved (u := U) (U := U.calling g mk a) (Vm.Alike.refl U.vm) qK, qD⟩, fun U hU hW => ⟨rfl, by rw [hU], by rw [hU]; exact hPc, va_K.moved hW.alike hKc, hDc.weaken (fun _ _ _ _ => trivial)⟩⟩ rfl rfl hl.1 rfl (lv_room (Nat.le_of_ble_eq_true rfl)) dc_To_next_45 ⟨(Nat.le_of_ble_eq_true rfl), (Nat.le_of_ble_eq_true rfl)⟩) hS (fun q _ h => hFc q h) hFc (fun r5 _ t H1 locs ht hvm hw hB hz1 hk1 hS => ?_)
    obtain ⟨hP1, hK1, hD1⟩ := hB
    rw [ht] at hP1
    have hK1 := va_K.moved hvm.symm hK1
    obtain ⟨hP, hD⟩ := va_join (wr := [(h0, .inr (11, [.ref text_, .int kind_, .int o1, .int o1, .int 0, .int length_])), (text_, .inl (k_text, 65536, .inl F_text))]) (w1 := []) hP hD [] [0, 1] rfl rfl (by decide) (by decide) hk1 hFc hP1 hD1
    have hK := (hK.sub (tys' := [(k_text, .byte)]) [0] rfl).app hK1
    generalize H1 = H at hP hS ⊢
    have hP : va_P (dC, dI) vwCl [(h0, .inr (11, [.ref text_, .int kind_, .int o1, .int o1, .int 0, .int length_])), (text_, .inl (k_text, 65536, .inl F_text))] H := hP
    have hD : va_D A [(h0, .inr (11, [.ref text_, .int kind_, .int o1, .int o1, .int 0, .int length_])), (text_, .inl (k_text, 65536, .inl F_text))] := hD
    have hK : va_K (dC, dI) vwCl [(k_text, .byte)] s := hK
    refine jn_st (σ := Unit) (pc2 := 73) (fun x9 => jw_met_To_next_73 post o1 F_text length_ x9) (fun _ => []) (fun _ H locs ls => va_K (dC, dI) vwCl [(k_text, .byte)] s ∧ va_P (dC, dI) vwCl [(h0, .inr (11, [.ref text_, .int kind_, .int o1, .int o1, .int 0, .int length_])), (text_, .inl (k_text, 65536, .inl F_text))] H ∧ va_D A [(h0, .inr (11, [.ref text_, .int kind_, .int o1, .int o1, .int 0, .int length_])), (text_, .inl (k_text, 65536, .inl F_text))] ∧ va_S A s.heap H locs ∧ lv_has ls 1 [(0, .ref h0)]) ?_ (fun k6 => ?_)
    rotate_left
    · refine lv_if_eq (tgt := 73) hx hb dc_To_next_48 (by decide) (fun h48 => ?_) (fun h48 => ?_)
      · have hw := hw.1 h48
        exact k6 () hw _ _ _ ⟨hK.sub [0] rfl, hP.sub [0, 1] rfl, hD.sub [0, 1] (by decide) rfl, hS, lv_sub hl [0] rfl⟩
      · have hw := hw.2 h48
        refine lv_aload_n hx hb dc_To_next_51 rfl (lv_at hl 0 rfl) ?_
        refine va_get (D := (dC, dI)) (ci := 11) (v := .ref text_) (C := "StrataBase$Tokens") (T := tb_To) (N := 6) hx hb hT in_To hown hK hP 0 rfl rfl 0 (by decide) (hT _ wd_194) (fun _ h9 => h9) rfl dc_To_next_52 ?_
        refine lv_aload_n hx hb dc_To_next_55 rfl (lv_at hl 0 rfl) ?_
        refine va_get (D := (dC, dI)) (ci := 11) (v := .int o1) (C := "StrataBase$Tokens") (T := tb_To) (N := 6) hx hb hT in_To hown hK hP 0 rfl rfl 3 (by decide) (hT _ wd_200) (fun _ h9 => h9) rfl dc_To_next_56 ?_
        obtain ⟨hv7, hw⟩ := hw
        refine va_bald hx hb hK hP 1 0 rfl rfl hv7 dc_To_next_59 ?_
        refine lv_topi (fun y8 ey8 => ?_)
        have hw := hw y8 ey8
        have hPc := hP.sub (ws' := []) [] rfl
        have hDc := hD.sub (ws' := []) [] (by decide) rfl
        have hKc := hK.sub (tys' := []) [] rfl
        have hFc := va_free (wc := []) hD hS hA [] rfl
        refine va_calli (va_runS (As := [.int y8]) (rest := []) ⟨hx, hb, hml, hown, hT⟩ (met_To_isDigit l dC dI y8 H.size hw) (va_cwS 1 hT (gd_S wd_620 wd_621 wd_7 wd_622) rfl rfl rfl (by decide +kernel) ⟨Nat.le_of_ble_eq_true rfl, Nat.le_of_ble_eq_true rfl⟩) ⟨fun a U g mk q => by obtain ⟨q0, q1, qP, qK, qD⟩ := q; exact ⟨q0, q1, qP, va_K.moved (u := U) (U := U.calling g mk a) (Vm.Alike.refl U.vm) qK, qD⟩, fun U hU hW => ⟨rfl, by rw [hU], by rw [hU]; exact hPc, va_K.moved hW.alike hKc, hDc.weaken (fun _ _ _ _ => trivial)⟩⟩ rfl rfl hl.1 rfl (lv_room (Nat.le_of_ble_eq_true rfl)) dc_To_next_60 ⟨(Nat.le_of_ble_eq_true rfl), (Nat.le_of_ble_eq_true rfl)⟩) hS (fun q _ h => hFc q h) hFc (fun r9 _ t H1 locs ht hvm hw hB hz1 hk1 hS => ?_)
        obtain ⟨hP1, hK1, hD1⟩ := hB
        rw [ht] at hP1
        have hK1 := va_K.moved hvm.symm hK1
        obtain ⟨hP, hD⟩ := va_join (wr := [(h0, .inr (11, [.ref text_, .int kind_, .int o1, .int o1, .int 0, .int length_])), (text_, .inl (k_text, 65536, .inl F_text))]) (w1 := []) hP hD [] [0, 1] rfl rfl (by decide) (by decide) hk1 hFc hP1 hD1
        have hK := (hK.sub (tys' := [(k_text, .byte)]) [0] rfl).app hK1
        generalize H1 = H at hP hS ⊢
        have hP : va_P (dC, dI) vwCl [(h0, .inr (11, [.ref text_, .int kind_, .int o1, .int o1, .int 0, .int length_])), (text_, .inl (k_text, 65536, .inl F_text))] H := hP
        have hD : va_D A [(h0, .inr (11, [.ref text_, .int kind_, .int o1, .int o1, .int 0, .int length_])), (text_, .inl (k_text, 65536, .inl F_text))] := hD
        have hK : va_K (dC, dI) vwCl [(k_text, .byte)] s := hK
        refine lv_if_ne (tgt := 73) hx hb dc_To_next_63 (by decide) (fun h63 => ?_) (fun h63 => ?_)
        · have hw := hw.2 h63
          exact k6 () hw _ _ _ ⟨hK.sub [0] rfl, hP.sub [0, 1] rfl, hD.sub [0, 1] (by decide) rfl, hS, lv_sub hl [0] rfl⟩
        · have hw := hw.1 h63
          refine lv_aload_n hx hb dc_To_next_66 rfl (lv_at hl 0 rfl) ?_
          have hPc := hP.sub (ws' := [(h0, .inr (11, [.ref text_, .int kind_, .int o1, .int o1, .int 0, .int length_])), (text_, .inl (k_text, 65536, .inl F_text))]) [0, 1] rfl
          have hDc := hD.sub (ws' := [(h0, .inr (11, [.ref text_, .int kind_, .int o1, .int o1, .int 0, .int length_])), (text_, .inl (k_text, 65536, .inl F_text))]) [0, 1] (by decide) rfl
          have hKc := hK.sub (tys' := [(k_text, .byte)]) [0] rfl
          have hFc := va_free (wc := [(h0, .inr (11, [.ref text_, .int kind_, .int o1, .int o1, .int 0, .int length_])), (text_, .inl (k_text, 65536, .inl F_text))]) hD hS hA [0, 1] rfl
          refine va_callv (va_runV (As := []) (rest := []) ⟨hx, hb, hml, hown, hT⟩ (met_To_readWord l dC dI h0 text_ kind_ o1 o1 (0 : Int32) length_ F_text k_text H.size hw) (cwV 0 hT (gd_V wd_623 wd_625 sl_To_readWord wd_7 wd_626) rfl rfl rfl (by decide +kernel) ⟨Nat.le_of_ble_eq_true rfl, Nat.le_of_ble_eq_true rfl⟩) ⟨fun a U g mk q => by obtain ⟨q0, q1, qP, qK, qD⟩ := q; exact ⟨q0, q1, qP, va_K.moved (u := U) (U := U.calling g mk a) (Vm.Alike.refl U.vm) qK, qD⟩, va_recv hK hP (q0 := 0) (ci := 11) rfl rfl, fun U hU hW => ⟨rfl, by rw [hU], by rw [hU]; exact hPc, va_K.moved hW.alike hKc, hDc.weaken (fun _ _ _ _ => trivial)⟩⟩ rfl rfl hl.1 rfl (lv_room (Nat.le_of_ble_eq_true rfl)) dc_To_next_67 ⟨(Nat.le_of_ble_eq_true rfl), (Nat.le_of_ble_eq_true rfl)⟩) hS (fun q _ h => hFc q h) hFc (fun u9 t H1 locs ht hvm hw hB hz1 hk1 hS => ?_)
          obtain ⟨o10, o11⟩ := u9
          obtain ⟨hP1, hK1, hD1⟩ := hB
          rw [ht] at hP1
          have hK1 := va_K.moved hvm.symm hK1
          obtain ⟨hP, hD⟩ := va_join (wr := []) (w1 := [(h0, .inr (11, [.ref text_, .int o10, .int o1, .int o11, .int 0, .int length_])), (text_, .inl (k_text, 65536, .inl F_text))]) hP hD [0, 1] [] rfl rfl (by decide) (by decide) hk1 hFc hP1 hD1
          have hK := (hK.sub (tys' := []) [] rfl).app hK1
          generalize H1 = H at hP hS ⊢
          have hP : va_P (dC, dI) vwCl [(h0, .inr (11, [.ref text_, .int o10, .int o1, .int o11, .int 0, .int length_])), (text_, .inl (k_text, 65536, .inl F_text))] H := hP
          have hD : va_D A [(h0, .inr (11, [.ref text_, .int o10, .int o1, .int o11, .int 0, .int length_])), (text_, .inl (k_text, 65536, .inl F_text))] := hD
          have hK : va_K (dC, dI) vwCl [(k_text, .byte)] s := hK
          refine lv_goto (tgt := 113) hx hb dc_To_next_70 (by decide) ?_
          refine W.widen (k := 0) (n := 0) (Nat.le_of_ble_eq_true rfl) (Nat.le_of_ble_eq_true rfl) ?_
          exact W.vret hx hb hr (fun t ht hW => ⟨⟨(o10, o1, o11, (0 : Int32)), rfl, hw, by rw [ht]; exact hP, va_K.moved hW.alike hK, hD⟩, hS.F ht⟩) hS.2.2 dc_To_next_113
    intro x9 hw H locs ls hI
    obtain ⟨hK, hP, hD, hS, hl⟩ := hI
    unfold jw_met_To_next_73 at hw
    refine W.eq (g2 := F0 m 73 ls []) rfl ?_
    refine lv_aload_n hx hb dc_To_next_73 rfl (lv_at hl 0 rfl) ?_
    refine va_get (D := (dC, dI)) (ci := 11) (v := .ref text_) (C := "StrataBase$Tokens") (T := tb_To) (N := 6) hx hb hT in_To hown hK hP 0 rfl rfl 0 (by decide) (hT _ wd_194) (fun _ h9 => h9) rfl dc_To_next_74 ?_
    refine lv_aload_n hx hb dc_To_next_77 rfl (lv_at hl 0 rfl) ?_
    refine va_get (D := (dC, dI)) (ci := 11) (v := .int o1) (C := "StrataBase$Tokens") (T := tb_To) (N := 6) hx hb hT in_To hown hK hP 0 rfl rfl 3 (by decide) (hT _ wd_200) (fun _ h9 => h9) rfl dc_To_next_78 ?_
    obtain ⟨hv13, hw⟩ := hw
    refine va_bald hx hb hK hP 1 0 rfl rfl hv13 dc_To_next_81 ?_
    refine lv_topi (fun y14 ey14 => ?_)
    have hw := hw y14 ey14
    have hPc := hP.sub (ws' := []) [] rfl
    have hDc := hD.sub (ws' := []) [] (by decide) rfl
    have hKc := hK.sub (tys' := []) [] rfl
    have hFc := va_free (wc := []) hD hS hA [] rfl
    refine va_calli (va_runS (As := [.int y14]) (rest := []) ⟨hx, hb, hml, hown, hT⟩ (met_To_isDigit l dC dI y14 H.size hw) (va_cwS 1 hT (gd_S wd_620 wd_621 wd_7 wd_622) rfl rfl rfl (by decide +kernel) ⟨Nat.le_of_ble_eq_true rfl, Nat.le_of_ble_eq_true rfl⟩) ⟨fun a U g mk q => by obtain ⟨q0, q1, qP, qK, qD⟩ := q; exact ⟨q0, q1, qP, va_K.moved (u := U) (U := U.calling g mk a) (Vm.Alike.refl U.vm) qK, qD⟩, fun U hU hW => ⟨rfl, by rw [hU], by rw [hU]; exact hPc, va_K.moved hW.alike hKc, hDc.weaken (fun _ _ _ _ => trivial)⟩⟩ rfl rfl hl.1 rfl (lv_room (Nat.le_of_ble_eq_true rfl)) dc_To_next_82 ⟨(Nat.le_of_ble_eq_true rfl), (Nat.le_of_ble_eq_true rfl)⟩) hS (fun q _ h => hFc q h) hFc (fun r15 _ t H1 locs ht hvm hw hB hz1 hk1 hS => ?_)
    obtain ⟨hP1, hK1, hD1⟩ := hB
    rw [ht] at hP1
    have hK1 := va_K.moved hvm.symm hK1
    obtain ⟨hP, hD⟩ := va_join (wr := [(h0, .inr (11, [.ref text_, .int kind_, .int o1, .int o1, .int 0, .int length_])), (text_, .inl (k_text, 65536, .inl F_text))]) (w1 := []) hP hD [] [0, 1] rfl rfl (by decide) (by decide) hk1 hFc hP1 hD1
    have hK := (hK.sub (tys' := [(k_text, .byte)]) [0] rfl).app hK1
    generalize H1 = H at hP hS ⊢
    have hP : va_P (dC, dI) vwCl [(h0, .inr (11, [.ref text_, .int kind_, .int o1, .int o1, .int 0, .int length_])), (text_, .inl (k_text, 65536, .inl F_text))] H := hP
    have hD : va_D A [(h0, .inr (11, [.ref text_, .int kind_, .int o1, .int o1, .int 0, .int length_])), (text_, .inl (k_text, 65536, .inl F_text))] := hD
    have hK : va_K (dC, dI) vwCl [(k_text, .byte)] s := hK
    refine jn_st (σ := Unit) (pc2 := 102) (fun x9 => jw_met_To_next_102 post o1 length_ F_text x9) (fun _ => []) (fun _ H locs ls => va_K (dC, dI) vwCl [(k_text, .byte)] s ∧ va_P (dC, dI) vwCl [(h0, .inr (11, [.ref text_, .int kind_, .int o1, .int o1, .int 0, .int length_])), (text_, .inl (k_text, 65536, .inl F_text))] H ∧ va_D A [(h0, .inr (11, [.ref text_, .int kind_, .int o1, .int o1, .int 0, .int length_])), (text_, .inl (k_text, 65536, .inl F_text))] ∧ va_S A s.heap H locs ∧ lv_has ls 1 [(0, .ref h0)]) ?_ (fun k16 => ?_)
    rotate_left
    · refine lv_if_ne (tgt := 102) hx hb dc_To_next_85 (by decide) (fun h85 => ?_) (fun h85 => ?_)
      · have hw := hw.2 h85
        exact k16 () hw _ _ _ ⟨hK.sub [0] rfl, hP.sub [0, 1] rfl, hD.sub [0, 1] (by decide) rfl, hS, lv_sub hl [0] rfl⟩
      · have hw := hw.1 h85
        refine lv_aload_n hx hb dc_To_next_88 rfl (lv_at hl 0 rfl) ?_
        refine va_get (D := (dC, dI)) (ci := 11) (v := .ref text_) (C := "StrataBase$Tokens") (T := tb_To) (N := 6) hx hb hT in_To hown hK hP 0 rfl rfl 0 (by decide) (hT _ wd_194) (fun _ h9 => h9) rfl dc_To_next_89 ?_
        refine lv_aload_n hx hb dc_To_next_92 rfl (lv_at hl 0 rfl) ?_
        refine va_get (D := (dC, dI)) (ci := 11) (v := .int o1) (C := "StrataBase$Tokens") (T := tb_To) (N := 6) hx hb hT in_To hown hK hP 0 rfl rfl 3 (by decide) (hT _ wd_200) (fun _ h9 => h9) rfl dc_To_next_93 ?_
        obtain ⟨hv17, hw⟩ := hw
        refine va_bald hx hb hK hP 1 0 rfl rfl hv17 dc_To_next_96 ?_
        refine lv_topi (fun y18 ey18 => ?_)
        have hw := hw y18 ey18
        refine lv_bipush (v := 45) hx hb dc_To_next_97 (by decide) ?_
        refine lv_icmp_ne (tgt := 109) hx hb dc_To_next_99 (by decide) (fun h99 => ?_) (fun h99 => ?_)
        · have hw := hw.2 h99
          refine lv_aload_n hx hb dc_To_next_109 rfl (lv_at hl 0 rfl) ?_
          have hPc := hP.sub (ws' := [(h0, .inr (11, [.ref text_, .int kind_, .int o1, .int o1, .int 0, .int length_])), (text_, .inl (k_text, 65536, .inl F_text))]) [0, 1] rfl
          have hDc := hD.sub (ws' := [(h0, .inr (11, [.ref text_, .int kind_, .int o1, .int o1, .int 0, .int length_])), (text_, .inl (k_text, 65536, .inl F_text))]) [0, 1] (by decide) rfl
          have hKc := hK.sub (tys' := [(k_text, .byte)]) [0] rfl
          have hFc := va_free (wc := [(h0, .inr (11, [.ref text_, .int kind_, .int o1, .int o1, .int 0, .int length_])), (text_, .inl (k_text, 65536, .inl F_text))]) hD hS hA [0, 1] rfl
          refine va_callv (va_runV (As := []) (rest := []) ⟨hx, hb, hml, hown, hT⟩ (met_To_readSign l dC dI h0 text_ kind_ o1 o1 (0 : Int32) length_ F_text k_text H.size hw) (cwV 0 hT (gd_V wd_643 wd_645 sl_To_readSign wd_7 wd_646) rfl rfl rfl (by decide +kernel) ⟨Nat.le_of_ble_eq_true rfl, Nat.le_of_ble_eq_true rfl⟩) ⟨fun a U g mk q => by obtain ⟨q0, q1, qP, qK, qD⟩ := q; exact ⟨q0, q1, qP, va_K.moved (u := U) (U := U.calling g mk a) (Vm.Alike.refl U.vm) qK, qD⟩, va_recv hK hP (q0 := 0) (ci := 11) rfl rfl, fun U hU hW => ⟨rfl, by rw [hU], by rw [hU]; exact hPc, va_K.moved hW.alike hKc, hDc.weaken (fun _ _ _ _ => trivial)⟩⟩ rfl rfl hl.1 rfl (lv_room (Nat.le_of_ble_eq_true rfl)) dc_To_next_110 ⟨(Nat.le_of_ble_eq_true rfl), (Nat.le_of_ble_eq_true rfl)⟩) hS (fun q _ h => hFc q h) hFc (fun u9 t H1 locs ht hvm hw hB hz1 hk1 hS => ?_)
          obtain ⟨o19, o20⟩ := u9
          obtain ⟨hP1, hK1, hD1⟩ := hB
          rw [ht] at hP1
          have hK1 := va_K.moved hvm.symm hK1
          obtain ⟨hP, hD⟩ := va_join (wr := []) (w1 := [(h0, .inr (11, [.ref text_, .int o19, .int o1, .int o20, .int 0, .int length_])), (text_, .inl (k_text, 65536, .inl F_text))]) hP hD [0, 1] [] rfl rfl (by decide) (by decide) hk1 hFc hP1 hD1
          have hK := (hK.sub (tys' := []) [] rfl).app hK1
          generalize H1 = H at hP hS ⊢
          have hP : va_P (dC, dI) vwCl [(h0, .inr (11, [.ref text_, .int o19, .int o1, .int o20, .int 0, .int length_])), (text_, .inl (k_text, 65536, .inl F_text))] H := hP
          have hD : va_D A [(h0, .inr (11, [.ref text_, .int o19, .int o1, .int o20, .int 0, .int length_])), (text_, .inl (k_text, 65536, .inl F_text))] := hD
          have hK : va_K (dC, dI) vwCl [(k_text, .byte)] s := hK
          refine W.widen (k := 0) (n := 0) (Nat.le_of_ble_eq_true rfl) (Nat.le_of_ble_eq_true rfl) ?_
          exact W.vret hx hb hr (fun t ht hW => ⟨⟨(o19, o1, o20, (0 : Int32)), rfl, hw, by rw [ht]; exact hP, va_K.moved hW.alike hK, hD⟩, hS.F ht⟩) hS.2.2 dc_To_next_113
        · have hw := hw.1 h99
          exact k16 () hw _ _ _ ⟨hK.sub [0] rfl, hP.sub [0, 1] rfl, hD.sub [0, 1] (by decide) rfl, hS, lv_sub hl [0] rfl⟩
    intro x9 hw H locs ls hI
    obtain ⟨hK, hP, hD, hS, hl⟩ := hI
    unfold jw_met_To_next_102 at hw
    refine W.eq (g2 := F0 m 102 ls []) rfl ?_
    refine lv_aload_n hx hb dc_To_next_102 rfl (lv_at hl 0 rfl) ?_
    have hPc := hP.sub (ws' := [(h0, .inr (11, [.ref text_, .int kind_, .int o1, .int o1, .int 0, .int length_])), (text_, .inl (k_text, 65536, .inl F_text))]) [0, 1] rfl
    have hDc := hD.sub (ws' := [(h0, .inr (11, [.ref text_, .int kind_, .int o1, .int o1, .int 0, .int length_])), (text_, .inl (k_text, 65536, .inl F_text))]) [0, 1] (by decide) rfl
    have hKc := hK.sub (tys' := [(k_text, .byte)]) [0] rfl
    have hFc := va_free (wc := [(h0, .inr (11, [.ref text_, .int kind_, .int o1, .int o1, .int 0, .int length_])), (text_, .inl (k_text, 65536, .inl F_text))]) hD hS hA [0, 1] rfl
    refine va_callv (va_runV (As := []) (rest := []) ⟨hx, hb, hml, hown, hT⟩ (met_To_readNumber l dC dI h0 text_ kind_ o1 o1 (0 : Int32) length_ F_text k_text H.size hw) (cwV 0 hT (gd_V wd_631 wd_633 sl_To_readNumber wd_7 wd_634) rfl rfl rfl (by decide +kernel) ⟨Nat.le_of_ble_eq_true rfl, Nat.le_of_ble_eq_true rfl⟩) ⟨fun a U g mk q => by obtain ⟨q0, q1, qP, qK, qD⟩ := q; exact ⟨q0, q1, qP, va_K.moved (u := U) (U := U.calling g mk a) (Vm.Alike.refl U.vm) qK, qD⟩, va_recv hK hP (q0 := 0) (ci := 11) rfl rfl, fun U hU hW => ⟨rfl, by rw [hU], by rw [hU]; exact hPc, va_K.moved hW.alike hKc, hDc.weaken (fun _ _ _ _ => trivial)⟩⟩ rfl rfl hl.1 rfl (lv_room (Nat.le_of_ble_eq_true rfl)) dc_To_next_103 ⟨(Nat.le_of_ble_eq_true rfl), (Nat.le_of_ble_eq_true rfl)⟩) hS (fun q _ h => hFc q h) hFc (fun u9 t H1 locs ht hvm hw hB hz1 hk1 hS => ?_)
    obtain ⟨o22, o23, o24⟩ := u9
    obtain ⟨hP1, hK1, hD1⟩ := hB
    rw [ht] at hP1
    have hK1 := va_K.moved hvm.symm hK1
    obtain ⟨hP, hD⟩ := va_join (wr := []) (w1 := [(h0, .inr (11, [.ref text_, .int o22, .int o1, .int o23, .int o24, .int length_])), (text_, .inl (k_text, 65536, .inl F_text))]) hP hD [0, 1] [] rfl rfl (by decide) (by decide) hk1 hFc hP1 hD1
    have hK := (hK.sub (tys' := []) [] rfl).app hK1
    generalize H1 = H at hP hS ⊢
    have hP : va_P (dC, dI) vwCl [(h0, .inr (11, [.ref text_, .int o22, .int o1, .int o23, .int o24, .int length_])), (text_, .inl (k_text, 65536, .inl F_text))] H := hP
    have hD : va_D A [(h0, .inr (11, [.ref text_, .int o22, .int o1, .int o23, .int o24, .int length_])), (text_, .inl (k_text, 65536, .inl F_text))] := hD
    have hK : va_K (dC, dI) vwCl [(k_text, .byte)] s := hK
    refine lv_goto (tgt := 113) hx hb dc_To_next_106 (by decide) ?_
    refine W.widen (k := 0) (n := 0) (Nat.le_of_ble_eq_true rfl) (Nat.le_of_ble_eq_true rfl) ?_
    exact W.vret hx hb hr (fun t ht hW => ⟨⟨(o22, o1, o23, o24), rfl, hw, by rw [ht]; exact hP, va_K.moved hW.alike hK, hD⟩, hS.F ht⟩) hS.2.2 dc_To_next_113
  · have hw := hw.2 h25
    refine lv_aload_n hx hb dc_To_next_28 rfl (lv_at hl 0 rfl) ?_
    refine lv_iconst (v := 0) hx hb dc_To_next_29 (by decide) ?_
    refine va_put (D := (dC, dI)) (ci := 11) (v := .int 0) (ty := .int) (C := "StrataBase$Tokens") (T := tb_To) (N := 6) hx hb hT in_To ty_To tk_To nm_To hown hK hP hD hS 0 rfl rfl 1 (by decide) (hT _ wd_196) (fun _ h9 => h9) rfl (by decide +kernel) rfl rfl (Nat.le_of_ble_eq_true rfl) dc_To_next_30 (fun H locs hP hD hS => ?_)
    have hP : va_P (dC, dI) vwCl [(h0, .inr (11, [.ref text_, .int 0, .int o1, .int o1, .int 0, .int length_])), (text_, .inl (k_text, 65536, .inl F_text))] H := hP
    have hD : va_D A [(h0, .inr (11, [.ref text_, .int 0, .int o1, .int o1, .int 0, .int length_])), (text_, .inl (k_text, 65536, .inl F_text))] := hD
    refine lv_goto (tgt := 113) hx hb dc_To_next_33 (by decide) ?_
    refine W.widen (k := 0) (n := 0) (Nat.le_of_ble_eq_true rfl) (Nat.le_of_ble_eq_true rfl) ?_
    exact W.vret hx hb hr (fun t ht hW => ⟨⟨((0 : Int32), o1, o1, (0 : Int32)), rfl, hw, by rw [ht]; exact hP, va_K.moved hW.alike hK, hD⟩, hS.F ht⟩) hS.2.2 dc_To_next_113

def wp_met_To_isComparison (post : Int32 → Unit → Prop) (kind_ : Int32) : Prop := ∀ y1 : Int32, y1 = (if kind_ < (11 : Int32) then (0 : Int32) else (1 : Int32)) → (post y1 ())
set_option maxHeartbeats 4000000 in
set_option maxRecDepth 100000 in
theorem met_To_isComparison (l : Launch) (dC : Nat → ClassId) (dI : Nat → Nat → Nat) (h0 : Nat) (text_ : Nat) (kind_ : Int32) (start_ : Int32) (stop_ : Int32) (value_ : Int32) (length_ : Int32) (sz : Nat) {post : Int32 → Unit → Prop} (hw : wp_met_To_isComparison post kind_) : Met l my_To_isComparison (Cond.code my_To_isComparison cd_To_isComparison 1 (some (.boolean)) :: tblG) ({ frames := 0, cells := 0, slots := 0, locals := 0 }) (va_Pc [.ref h0] (fun U => U.heap.size = sz ∧ va_P (dC, dI) vwCl [(h0, .inr (11, [.ref text_, .int kind_, .int start_, .int stop_, .int value_, .int length_]))] U.heap ∧ va_K (dC, dI) vwCl [] U ∧ va_D (fun _ => True) [(h0, .inr (11, [.ref text_, .int kind_, .int start_, .int stop_, .int value_, .int length_]))])) (va_Qi post (fun (u : Unit) (t : State) => va_P (dC, dI) vwCl [(h0, .inr (11, [.ref text_, .int kind_, .int start_, .int stop_, .int value_, .int length_]))] t.heap ∧ va_K (dC, dI) vwCl [] t ∧ va_D (va_A [(h0, .inr (11, [.ref text_, .int kind_, .int start_, .int stop_, .int value_, .int length_]))] sz) [(h0, .inr (11, [.ref text_, .int kind_, .int start_, .int stop_, .int value_, .int length_]))]) (va_A [(h0, .inr (11, [.ref text_, .int kind_, .int start_, .int stop_, .int value_, .int length_]))] sz)) 0 0 (va_A [(h0, .inr (11, [.ref text_, .int kind_, .int start_, .int stop_, .int value_, .int length_]))] sz) := by
  refine Met.ofW (cc := cd_To_isComparison) (maxL := 1) (ret := (some (.boolean))) (by decide) rfl ?_
  intro p e s m args below meth c s₁ B hml hv
  obtain ⟨rfl, hsz, hP, hK, hD0⟩ := hv
  have hx := B.exec
  have hb := B.bytes
  have hr := B.returns
  have hT : ∀ w ∈ tblG, w.before _ s = true := fun w h => atoms_spec (ws := (Cond.code my_To_isComparison cd_To_isComparison 1 (some (.boolean)) :: tblG)) B.pre w (List.mem_cons_of_mem _ h)
  have hown : s.vm.findClass "StrataBase$Tokens" = some m.cls := findClass_of_methodNamed B.named
  have hlocks := B.notSynchronized
  subst hsz
  have hD := hD0.self (sz := s.heap.size)
  generalize hAe : va_A [(h0, .inr (11, [.ref text_, .int kind_, .int start_, .int stop_, .int value_, .int length_]))] s.heap.size = A at hD ⊢
  have hA : ∀ q : Nat, s.heap.size ≤ q → A q := fun q h => by rw [← hAe]; exact Or.inr h
  have hS : va_S A s.heap s.heap [] := va_S.rf
  have hl := lv_entry ([.ref h0]) (n := 1) (Nat.le_of_ble_eq_true rfl)
  rw [lg_entry_eq]
  generalize (lg_sl ([.ref h0]) ++ List.replicate (1 - (lg_sl ([.ref h0])).length) Slot.unset).toArray = ls at hl ⊢
  have hl : lv_has ls 1 [(0, .ref h0)] := hl
  unfold wp_met_To_isComparison at hw
  refine lv_aload_n hx hb dc_To_isComparison_0 rfl (lv_at hl 0 rfl) ?_
  refine va_get (D := (dC, dI)) (ci := 11) (v := .int kind_) (C := "StrataBase$Tokens") (T := tb_To) (N := 6) hx hb hT in_To hown hK hP 0 rfl rfl 1 (by decide) (hT _ wd_196) (fun _ h9 => h9) rfl dc_To_isComparison_1 ?_
  refine lv_bipush (v := 11) hx hb dc_To_isComparison_4 (by decide) ?_
  refine jn_top (pc2 := 14) (rest := []) (fun y1 => y1 = (if kind_ < (11 : Int32) then (0 : Int32) else (1 : Int32))) (fun y1 ey1 => ?_) (fun k9 => ?_)
  rotate_left
  · refine lv_icmp_lt (tgt := 13) hx hb dc_To_isComparison_6 (by decide) (fun h6 => ?_) (fun h6 => ?_)
    · refine lv_iconst (v := 0) hx hb dc_To_isComparison_13 (by decide) ?_
      exact k9 (0 : Int32) (by rw [if_pos h6])
    · refine lv_iconst (v := 1) hx hb dc_To_isComparison_9 (by decide) ?_
      refine lv_goto (tgt := 14) hx hb dc_To_isComparison_10 (by decide) ?_
      exact k9 (1 : Int32) (by rw [if_neg h6])
  have hw := hw y1 ey1
  have hzy1 : y1 = 0 ∨ y1 = 1 := by
    rw [ey1]; repeat' split
    all_goals first | exact Or.inl rfl | exact Or.inr rfl
  refine W.widen (k := 0) (n := 0) (Nat.le_of_ble_eq_true rfl) (Nat.le_of_ble_eq_true rfl) ?_
  exact W.zret (v := y1) hx hb hr (nz_n hzy1) (fun t ht hW => ⟨⟨y1, (), rfl, hw, by rw [ht]; exact hP, va_K.moved hW.alike hK, hD⟩, hS.F ht⟩) hS.2.2 dc_To_isComparison_14

def wp_met_To_isConstant (post : Int32 → Unit → Prop) (kind_ : Int32) : Prop := ∀ y1 : Int32, y1 = (if kind_ = (2 : Int32) then (1 : Int32) else (if kind_ = (4 : Int32) then (1 : Int32) else (0 : Int32))) → (post y1 ())
set_option maxHeartbeats 4000000 in
set_option maxRecDepth 100000 in
theorem met_To_isConstant (l : Launch) (dC : Nat → ClassId) (dI : Nat → Nat → Nat) (h0 : Nat) (text_ : Nat) (kind_ : Int32) (start_ : Int32) (stop_ : Int32) (value_ : Int32) (length_ : Int32) (sz : Nat) {post : Int32 → Unit → Prop} (hw : wp_met_To_isConstant post kind_) : Met l my_To_isConstant (Cond.code my_To_isConstant cd_To_isConstant 1 (some (.boolean)) :: tblG) ({ frames := 0, cells := 0, slots := 0, locals := 0 }) (va_Pc [.ref h0] (fun U => U.heap.size = sz ∧ va_P (dC, dI) vwCl [(h0, .inr (11, [.ref text_, .int kind_, .int start_, .int stop_, .int value_, .int length_]))] U.heap ∧ va_K (dC, dI) vwCl [] U ∧ va_D (fun _ => True) [(h0, .inr (11, [.ref text_, .int kind_, .int start_, .int stop_, .int value_, .int length_]))])) (va_Qi post (fun (u : Unit) (t : State) => va_P (dC, dI) vwCl [(h0, .inr (11, [.ref text_, .int kind_, .int start_, .int stop_, .int value_, .int length_]))] t.heap ∧ va_K (dC, dI) vwCl [] t ∧ va_D (va_A [(h0, .inr (11, [.ref text_, .int kind_, .int start_, .int stop_, .int value_, .int length_]))] sz) [(h0, .inr (11, [.ref text_, .int kind_, .int start_, .int stop_, .int value_, .int length_]))]) (va_A [(h0, .inr (11, [.ref text_, .int kind_, .int start_, .int stop_, .int value_, .int length_]))] sz)) 0 0 (va_A [(h0, .inr (11, [.ref text_, .int kind_, .int start_, .int stop_, .int value_, .int length_]))] sz) := by
  refine Met.ofW (cc := cd_To_isConstant) (maxL := 1) (ret := (some (.boolean))) (by decide) rfl ?_
  intro p e s m args below meth c s₁ B hml hv
  obtain ⟨rfl, hsz, hP, hK, hD0⟩ := hv
  have hx := B.exec
  have hb := B.bytes
  have hr := B.returns
  have hT : ∀ w ∈ tblG, w.before _ s = true := fun w h => atoms_spec (ws := (Cond.code my_To_isConstant cd_To_isConstant 1 (some (.boolean)) :: tblG)) B.pre w (List.mem_cons_of_mem _ h)
  have hown : s.vm.findClass "StrataBase$Tokens" = some m.cls := findClass_of_methodNamed B.named
  have hlocks := B.notSynchronized
  subst hsz
  have hD := hD0.self (sz := s.heap.size)
  generalize hAe : va_A [(h0, .inr (11, [.ref text_, .int kind_, .int start_, .int stop_, .int value_, .int length_]))] s.heap.size = A at hD ⊢
  have hA : ∀ q : Nat, s.heap.size ≤ q → A q := fun q h => by rw [← hAe]; exact Or.inr h
  have hS : va_S A s.heap s.heap [] := va_S.rf
  have hl := lv_entry ([.ref h0]) (n := 1) (Nat.le_of_ble_eq_true rfl)
  rw [lg_entry_eq]
  generalize (lg_sl ([.ref h0]) ++ List.replicate (1 - (lg_sl ([.ref h0])).length) Slot.unset).toArray = ls at hl ⊢
  have hl : lv_has ls 1 [(0, .ref h0)] := hl
  unfold wp_met_To_isConstant at hw
  refine lv_aload_n hx hb dc_To_isConstant_0 rfl (lv_at hl 0 rfl) ?_
  refine va_get (D := (dC, dI)) (ci := 11) (v := .int kind_) (C := "StrataBase$Tokens") (T := tb_To) (N := 6) hx hb hT in_To hown hK hP 0 rfl rfl 1 (by decide) (hT _ wd_196) (fun _ h9 => h9) rfl dc_To_isConstant_1 ?_
  refine lv_iconst (v := 2) hx hb dc_To_isConstant_4 (by decide) ?_
  refine jn_top (pc2 := 21) (rest := []) (fun y1 => y1 = (if kind_ = (2 : Int32) then (1 : Int32) else (if kind_ = (4 : Int32) then (1 : Int32) else (0 : Int32)))) (fun y1 ey1 => ?_) (fun k9 => ?_)
  rotate_left
  · refine lv_icmp_eq (tgt := 16) hx hb dc_To_isConstant_5 (by decide) (fun h5 => ?_) (fun h5 => ?_)
    · refine lv_iconst (v := 1) hx hb dc_To_isConstant_16 (by decide) ?_
      refine lv_goto (tgt := 21) hx hb dc_To_isConstant_17 (by decide) ?_
      exact k9 (1 : Int32) (by rw [if_pos h5])
    · refine lv_aload_n hx hb dc_To_isConstant_8 rfl (lv_at hl 0 rfl) ?_
      refine va_get (D := (dC, dI)) (ci := 11) (v := .int kind_) (C := "StrataBase$Tokens") (T := tb_To) (N := 6) hx hb hT in_To hown hK hP 0 rfl rfl 1 (by decide) (hT _ wd_196) (fun _ h9 => h9) rfl dc_To_isConstant_9 ?_
      refine lv_iconst (v := 4) hx hb dc_To_isConstant_12 (by decide) ?_
      refine lv_icmp_ne (tgt := 20) hx hb dc_To_isConstant_13 (by decide) (fun h13 => ?_) (fun h13 => ?_)
      · refine lv_iconst (v := 0) hx hb dc_To_isConstant_20 (by decide) ?_
        exact k9 (0 : Int32) (by rw [if_neg h5, if_neg h13])
      · refine lv_iconst (v := 1) hx hb dc_To_isConstant_16 (by decide) ?_
        refine lv_goto (tgt := 21) hx hb dc_To_isConstant_17 (by decide) ?_
        exact k9 (1 : Int32) (by rw [if_neg h5, if_pos h13])
  have hw := hw y1 ey1
  have hzy1 : y1 = 0 ∨ y1 = 1 := by
    rw [ey1]; repeat' split
    all_goals first | exact Or.inl rfl | exact Or.inr rfl
  refine W.widen (k := 0) (n := 0) (Nat.le_of_ble_eq_true rfl) (Nat.le_of_ble_eq_true rfl) ?_
  exact W.zret (v := y1) hx hb hr (nz_n hzy1) (fun t ht hW => ⟨⟨y1, (), rfl, hw, by rw [ht]; exact hP, va_K.moved hW.alike hK, hD⟩, hS.F ht⟩) hS.2.2 dc_To_isConstant_21

def wp_met_To_nameLength (post : Int32 → Unit → Prop) (kind_ : Int32) (start_ : Int32) (stop_ : Int32) : Prop := ∀ y1 : Int32, y1 = (if kind_ = (4 : Int32) then (0 : Int32) else (stop_ - start_)) → (post y1 ())
set_option maxHeartbeats 4000000 in
set_option maxRecDepth 100000 in
theorem met_To_nameLength (l : Launch) (dC : Nat → ClassId) (dI : Nat → Nat → Nat) (h0 : Nat) (text_ : Nat) (kind_ : Int32) (start_ : Int32) (stop_ : Int32) (value_ : Int32) (length_ : Int32) (sz : Nat) {post : Int32 → Unit → Prop} (hw : wp_met_To_nameLength post kind_ start_ stop_) : Met l my_To_nameLength (Cond.code my_To_nameLength cd_To_nameLength 1 (some (.int)) :: tblG) ({ frames := 0, cells := 0, slots := 0, locals := 0 }) (va_Pc [.ref h0] (fun U => U.heap.size = sz ∧ va_P (dC, dI) vwCl [(h0, .inr (11, [.ref text_, .int kind_, .int start_, .int stop_, .int value_, .int length_]))] U.heap ∧ va_K (dC, dI) vwCl [] U ∧ va_D (fun _ => True) [(h0, .inr (11, [.ref text_, .int kind_, .int start_, .int stop_, .int value_, .int length_]))])) (va_Qi post (fun (u : Unit) (t : State) => va_P (dC, dI) vwCl [(h0, .inr (11, [.ref text_, .int kind_, .int start_, .int stop_, .int value_, .int length_]))] t.heap ∧ va_K (dC, dI) vwCl [] t ∧ va_D (va_A [(h0, .inr (11, [.ref text_, .int kind_, .int start_, .int stop_, .int value_, .int length_]))] sz) [(h0, .inr (11, [.ref text_, .int kind_, .int start_, .int stop_, .int value_, .int length_]))]) (va_A [(h0, .inr (11, [.ref text_, .int kind_, .int start_, .int stop_, .int value_, .int length_]))] sz)) 0 0 (va_A [(h0, .inr (11, [.ref text_, .int kind_, .int start_, .int stop_, .int value_, .int length_]))] sz) := by
  refine Met.ofW (cc := cd_To_nameLength) (maxL := 1) (ret := (some (.int))) (by decide) rfl ?_
  intro p e s m args below meth c s₁ B hml hv
  obtain ⟨rfl, hsz, hP, hK, hD0⟩ := hv
  have hx := B.exec
  have hb := B.bytes
  have hr := B.returns
  have hT : ∀ w ∈ tblG, w.before _ s = true := fun w h => atoms_spec (ws := (Cond.code my_To_nameLength cd_To_nameLength 1 (some (.int)) :: tblG)) B.pre w (List.mem_cons_of_mem _ h)
  have hown : s.vm.findClass "StrataBase$Tokens" = some m.cls := findClass_of_methodNamed B.named
  have hlocks := B.notSynchronized
  subst hsz
  have hD := hD0.self (sz := s.heap.size)
  generalize hAe : va_A [(h0, .inr (11, [.ref text_, .int kind_, .int start_, .int stop_, .int value_, .int length_]))] s.heap.size = A at hD ⊢
  have hA : ∀ q : Nat, s.heap.size ≤ q → A q := fun q h => by rw [← hAe]; exact Or.inr h
  have hS : va_S A s.heap s.heap [] := va_S.rf
  have hl := lv_entry ([.ref h0]) (n := 1) (Nat.le_of_ble_eq_true rfl)
  rw [lg_entry_eq]
  generalize (lg_sl ([.ref h0]) ++ List.replicate (1 - (lg_sl ([.ref h0])).length) Slot.unset).toArray = ls at hl ⊢
  have hl : lv_has ls 1 [(0, .ref h0)] := hl
  unfold wp_met_To_nameLength at hw
  refine lv_aload_n hx hb dc_To_nameLength_0 rfl (lv_at hl 0 rfl) ?_
  refine va_get (D := (dC, dI)) (ci := 11) (v := .int kind_) (C := "StrataBase$Tokens") (T := tb_To) (N := 6) hx hb hT in_To hown hK hP 0 rfl rfl 1 (by decide) (hT _ wd_196) (fun _ h9 => h9) rfl dc_To_nameLength_1 ?_
  refine lv_iconst (v := 4) hx hb dc_To_nameLength_4 (by decide) ?_
  refine jn_top (pc2 := 21) (rest := []) (fun y1 => y1 = (if kind_ = (4 : Int32) then (0 : Int32) else (stop_ - start_))) (fun y1 ey1 => ?_) (fun k9 => ?_)
  rotate_left
  · refine lv_icmp_ne (tgt := 12) hx hb dc_To_nameLength_5 (by decide) (fun h5 => ?_) (fun h5 => ?_)
    · refine lv_aload_n hx hb dc_To_nameLength_12 rfl (lv_at hl 0 rfl) ?_
      refine va_get (D := (dC, dI)) (ci := 11) (v := .int stop_) (C := "StrataBase$Tokens") (T := tb_To) (N := 6) hx hb hT in_To hown hK hP 0 rfl rfl 3 (by decide) (hT _ wd_200) (fun _ h9 => h9) rfl dc_To_nameLength_13 ?_
      refine lv_aload_n hx hb dc_To_nameLength_16 rfl (lv_at hl 0 rfl) ?_
      refine va_get (D := (dC, dI)) (ci := 11) (v := .int start_) (C := "StrataBase$Tokens") (T := tb_To) (N := 6) hx hb hT in_To hown hK hP 0 rfl rfl 2 (by decide) (hT _ wd_198) (fun _ h9 => h9) rfl dc_To_nameLength_17 ?_
      refine lv_isub hx hb dc_To_nameLength_20 ?_
      exact k9 (stop_ - start_) (by rw [if_neg h5])
    · refine lv_iconst (v := 0) hx hb dc_To_nameLength_8 (by decide) ?_
      refine lv_goto (tgt := 21) hx hb dc_To_nameLength_9 (by decide) ?_
      exact k9 (0 : Int32) (by rw [if_pos h5])
  have hw := hw y1 ey1
  refine W.widen (k := 0) (n := 0) (Nat.le_of_ble_eq_true rfl) (Nat.le_of_ble_eq_true rfl) ?_
  exact W.iret (v := y1) hx hb hr (fun t ht hW => ⟨⟨y1, (), rfl, hw, by rw [ht]; exact hP, va_K.moved hW.alike hK, hD⟩, hS.F ht⟩) hS.2.2 dc_To_nameLength_21

def jw_met_Na_add_55 (post : Int32 → (Int32 × Int32 × (Nat → Int32) × (Nat → Int32) × Nat × ClassId × Nat × (Nat → Int32) × Nat × Nat) → Prop) (a1 : Int32) (used_ : Int32) (a2 : Int32) (n_a0 : Nat) (F_a0 : Nat → Int32) (size_ : Int32) (n_starts : Nat) (F_starts : Nat → Int32) (n_lengths : Nat) (F_lengths : Nat → Int32) : (Nat × ClassId × Nat × (Nat → Int32) × Nat × Nat) → Prop
  | (v12, v13, v14, v15, v16, v17) => (¬ a1 < 0) ∧ (¬ used_ < 0) ∧ (¬ a2 < 0) ∧ (a1.toNatClampNeg + a2.toNatClampNeg ≤ n_a0) ∧ (used_.toNatClampNeg + a2.toNatClampNeg ≤ v14) ∧ (∀ i : Nat, i < a2.toNatClampNeg → fits .byte (.int (F_a0 (a1.toNatClampNeg + i))) = true) ∧ (∀ g18 : Nat → Int32, g18 = va_cpy F_a0 v15 a1.toNatClampNeg used_.toNatClampNeg a2.toNatClampNeg → (vp_in size_ n_starts ∧ (∀ g20 : Nat → Int32, g20 = upd F_starts size_.toNatClampNeg used_ → (vp_in size_ n_lengths ∧ (∀ g22 : Nat → Int32, g22 = upd F_lengths size_.toNatClampNeg a2 → (∀ y23 : Int32, y23 = used_ + a2 → (∀ y24 : Int32, y24 = size_ + (1 : Int32) → (∀ y25 : Int32, y25 = y24 - (1 : Int32) → (post y25 (y24, y23, g20, g22, v12, v13, v14, g18, v16, v17))))))))))
def wp_met_Na_add (post : Int32 → (Int32 × Int32 × (Nat → Int32) × (Nat → Int32) × Nat × ClassId × Nat × (Nat → Int32) × Nat × Nat) → Prop) (mc : Nat) (ms : Nat) (n_starts : Nat) (n_lengths : Nat) (n_text : Nat) (n_a0 : Nat) (text_ : Nat) (a1 : Int32) (a2 : Int32) (size_ : Int32) (used_ : Int32) (F_starts : Nat → Int32) (F_lengths : Nat → Int32) (F_text : Nat → Int32) (F_a0 : Nat → Int32) (k_text : ClassId) : Prop := ((size_ < (nI n_starts) → (∀ y1 : Int32, y1 = used_ + a2 → (((y1 ≤ (nI n_text) → (jw_met_Na_add_55 post a1 used_ a2 n_a0 F_a0 size_ n_starts F_starts n_lengths F_lengths (text_, k_text, n_text, F_text, 0, 0))) ∧ (¬ (y1 ≤ (nI n_text)) → (∀ y3 : Int32, y3 = used_ + a2 → (∀ y4 : Int32, y4 = (2 : Int32) * (nI n_text) → (∀ y5 : Int32, y5 = (if y3 < y4 then y4 else y3) → (∃ (c6 s7 : Nat), (0 + c6 ≤ mc) ∧ (0 + s7 ≤ ms) ∧ (wp_met_Ar_copyOf (fun (u9 : ClassId × Nat × (Nat → Int32)) => match u9 with | (o8, o9, o10) => (∀ r11 : Nat, jw_met_Na_add_55 post a1 used_ a2 n_a0 F_a0 size_ n_starts F_starts n_lengths F_lengths (r11, o8, o9, o10, (0 + c6), (0 + s7)))) c6 s7 n_text y5 F_text)))))))))) ∧ (¬ (size_ < (nI n_starts)) → (post ((-1) : Int32) (size_, used_, F_starts, F_lengths, text_, k_text, n_text, F_text, 0, 0))))
set_option maxHeartbeats 4000000 in
set_option maxRecDepth 100000 in
theorem met_Na_add (l : Launch) (dC : Nat → ClassId) (dI : Nat → Nat → Nat) (mc : Nat) (ms : Nat) (n_starts : Nat) (n_lengths : Nat) (n_text : Nat) (n_a0 : Nat) (h0 : Nat) (starts_ : Nat) (lengths_ : Nat) (text_ : Nat) (a0 : Nat) (a1 : Int32) (a2 : Int32) (size_ : Int32) (used_ : Int32) (F_starts : Nat → Int32) (F_lengths : Nat → Int32) (F_text : Nat → Int32) (F_a0 : Nat → Int32) (k_starts : ClassId) (k_lengths : ClassId) (k_text : ClassId) (k_a0 : ClassId) (sz : Nat) (hu : Nat) {post : Int32 → (Int32 × Int32 × (Nat → Int32) × (Nat → Int32) × Nat × ClassId × Nat × (Nat → Int32) × Nat × Nat) → Prop} (hw : wp_met_Na_add post mc ms n_starts n_lengths n_text n_a0 text_ a1 a2 size_ used_ F_starts F_lengths F_text F_a0 k_text) : Met l my_Na_add (Cond.code my_Na_add cd_Na_add 4 (some (.int)) :: tblG) ({ frames := 2, cells := mc, slots := ms, locals := 62 }) (va_Pc [.ref h0, .ref a0, .int a1, .int a2] (fun U => U.heap.size = sz ∧ hsm U.heap = hu ∧ va_P (dC, dI) vwCl [(h0, .inr (6, [.int size_, .ref starts_, .ref lengths_, .ref text_, .int used_])), (starts_, .inl (k_starts, n_starts, .inl F_starts)), (lengths_, .inl (k_lengths, n_lengths, .inl F_lengths)), (text_, .inl (k_text, n_text, .inl F_text)), (a0, .inl (k_a0, n_a0, .inl F_a0))] U.heap ∧ va_K (dC, dI) vwCl [(k_starts, .int), (k_lengths, .int), (k_text, .byte), (k_a0, .byte)] U ∧ va_D (fun _ => True) [(h0, .inr (6, [.int size_, .ref starts_, .ref lengths_, .ref text_, .int used_])), (starts_, .inl (k_starts, n_starts, .inl F_starts)), (lengths_, .inl (k_lengths, n_lengths, .inl F_lengths)), (text_, .inl (k_text, n_text, .inl F_text)), (a0, .inl (k_a0, n_a0, .inl F_a0))])) (va_Qi post (fun (u : Int32 × Int32 × (Nat → Int32) × (Nat → Int32) × Nat × ClassId × Nat × (Nat → Int32) × Nat × Nat) (t : State) => match u with | (o0, o1, o2, o3, o4, o5, o6, o7, o8, o9) => va_P (dC, dI) vwCl [(h0, .inr (6, [.int o0, .ref starts_, .ref lengths_, .ref o4, .int o1])), (starts_, .inl (k_starts, n_starts, .inl o2)), (lengths_, .inl (k_lengths, n_lengths, .inl o3)), (o4, .inl (o5, o6, .inl o7)), (a0, .inl (k_a0, n_a0, .inl F_a0))] t.heap ∧ va_K (dC, dI) vwCl [(k_starts, .int), (k_lengths, .int), (o5, .byte), (k_a0, .byte)] t ∧ va_D (va_A [(h0, .inr (6, [.int size_, .ref starts_, .ref lengths_, .ref text_, .int used_])), (starts_, .inl (k_starts, n_starts, .inl F_starts)), (lengths_, .inl (k_lengths, n_lengths, .inl F_lengths)), (text_, .inl (k_text, n_text, .inl F_text)), (a0, .inl (k_a0, n_a0, .inl F_a0))] sz) [(h0, .inr (6, [.int o0, .ref starts_, .ref lengths_, .ref o4, .int o1])), (starts_, .inl (k_starts, n_starts, .inl o2)), (lengths_, .inl (k_lengths, n_lengths, .inl o3)), (o4, .inl (o5, o6, .inl o7)), (a0, .inl (k_a0, n_a0, .inl F_a0))] ∧ t.heap.size ≤ sz + o8 ∧ hsm t.heap ≤ hu + o9 ∧ o8 ≤ mc ∧ o9 ≤ ms) (va_A [(h0, .inr (6, [.int size_, .ref starts_, .ref lengths_, .ref text_, .int used_])), (starts_, .inl (k_starts, n_starts, .inl F_starts)), (lengths_, .inl (k_lengths, n_lengths, .inl F_lengths)), (text_, .inl (k_text, n_text, .inl F_text)), (a0, .inl (k_a0, n_a0, .inl F_a0))] sz)) mc ms (va_A [(h0, .inr (6, [.int size_, .ref starts_, .ref lengths_, .ref text_, .int used_])), (starts_, .inl (k_starts, n_starts, .inl F_starts)), (lengths_, .inl (k_lengths, n_lengths, .inl F_lengths)), (text_, .inl (k_text, n_text, .inl F_text)), (a0, .inl (k_a0, n_a0, .inl F_a0))] sz) := by
  refine Met.ofW (cc := cd_Na_add) (maxL := 4) (ret := (some (.int))) (by decide) rfl ?_
  intro p e s m args below meth c s₁ B hml hv
  obtain ⟨rfl, hsz, hhu, hP, hK, hD0⟩ := hv
  have hx := B.exec
  have hb := B.bytes
  have hr := B.returns
  have hT : ∀ w ∈ tblG, w.before _ s = true := fun w h => atoms_spec (ws := (Cond.code my_Na_add cd_Na_add 4 (some (.int)) :: tblG)) B.pre w (List.mem_cons_of_mem _ h)
  have hown : s.vm.findClass "StrataBase$Names" = some m.cls := findClass_of_methodNamed B.named
  have hlocks := B.notSynchronized
  subst hsz
  subst hhu
  have hD := hD0.self (sz := s.heap.size)
  generalize hAe : va_A [(h0, .inr (6, [.int size_, .ref starts_, .ref lengths_, .ref text_, .int used_])), (starts_, .inl (k_starts, n_starts, .inl F_starts)), (lengths_, .inl (k_lengths, n_lengths, .inl F_lengths)), (text_, .inl (k_text, n_text, .inl F_text)), (a0, .inl (k_a0, n_a0, .inl F_a0))] s.heap.size = A at hD ⊢
  have hA : ∀ q : Nat, s.heap.size ≤ q → A q := fun q h => by rw [← hAe]; exact Or.inr h
  have hS : va_S A s.heap s.heap [] := va_S.rf
  have hl := lv_entry ([.ref h0, .ref a0, .int a1, .int a2]) (n := 4) (Nat.le_of_ble_eq_true rfl)
  rw [lg_entry_eq]
  generalize (lg_sl ([.ref h0, .ref a0, .int a1, .int a2]) ++ List.replicate (4 - (lg_sl ([.ref h0, .ref a0, .int a1, .int a2])).length) Slot.unset).toArray = ls at hl ⊢
  have hl : lv_has ls 4 [(0, .ref h0), (1, .ref a0), (2, .int a1), (3, .int a2)] := hl
  unfold wp_met_Na_add at hw
  have hkc := Nat.zero_le mc
  have hks := Nat.zero_le ms
  refine lv_aload_n hx hb dc_Na_add_0 rfl (lv_at hl 0 rfl) ?_
  refine va_get (D := (dC, dI)) (ci := 6) (v := .int size_) (C := "StrataBase$Names") (T := tb_Na) (N := 5) hx hb hT in_Na hown hK hP 0 rfl rfl 0 (by decide) (hT _ wd_104) (fun _ h9 => h9) rfl dc_Na_add_1 ?_
  refine lv_aload_n hx hb dc_Na_add_4 rfl (lv_at hl 0 rfl) ?_
  refine va_get (D := (dC, dI)) (ci := 6) (v := .ref starts_) (C := "StrataBase$Names") (T := tb_Na) (N := 5) hx hb hT in_Na hown hK hP 0 rfl rfl 1 (by decide) (hT _ wd_109) (fun _ h9 => h9) rfl dc_Na_add_5 ?_
  refine va_alen (v := nI n_starts) hx hb hK hP 1 0 rfl rfl rfl dc_Na_add_8 ?_
  refine lv_icmp_lt (tgt := 14) hx hb dc_Na_add_9 (by decide) (fun h9 => ?_) (fun h9 => ?_)
  · have hw := hw.1 h9
    refine lv_aload_n hx hb dc_Na_add_14 rfl (lv_at hl 0 rfl) ?_
    refine va_get (D := (dC, dI)) (ci := 6) (v := .int used_) (C := "StrataBase$Names") (T := tb_Na) (N := 5) hx hb hT in_Na hown hK hP 0 rfl rfl 4 (by decide) (hT _ wd_112) (fun _ h9 => h9) rfl dc_Na_add_15 ?_
    refine lv_iload_n hx hb dc_Na_add_18 rfl (lv_at hl 3 rfl) ?_
    refine lv_iadd hx hb dc_Na_add_19 ?_
    refine lv_topi (fun y1 ey1 => ?_)
    have hw := hw y1 ey1
    refine lv_aload_n hx hb dc_Na_add_20 rfl (lv_at hl 0 rfl) ?_
    refine va_get (D := (dC, dI)) (ci := 6) (v := .ref text_) (C := "StrataBase$Names") (T := tb_Na) (N := 5) hx hb hT in_Na hown hK hP 0 rfl rfl 3 (by decide) (hT _ wd_111) (fun _ h9 => h9) rfl dc_Na_add_21 ?_
    refine va_alen (v := nI n_text) hx hb hK hP 3 2 rfl rfl rfl dc_Na_add_24 ?_
    refine jn_stA (σ := Nat × ClassId × Nat × (Nat → Int32) × Nat × Nat) (pc2 := 55) (fun x9 => jw_met_Na_add_55 post a1 used_ a2 n_a0 F_a0 size_ n_starts F_starts n_lengths F_lengths x9) (fun x9 => match x9 with | (v12, v13, v14, v15, v16, v17) => []) (fun x9 => match x9 with | (v12, v13, v14, v15, v16, v17) => v16) (fun x9 => match x9 with | (v12, v13, v14, v15, v16, v17) => v17) (fun x9 H locs ls => match x9 with | (v12, v13, v14, v15, v16, v17) => va_K (dC, dI) vwCl [(k_starts, .int), (k_lengths, .int), (v13, .byte), (k_a0, .byte)] s ∧ va_P (dC, dI) vwCl [(h0, .inr (6, [.int size_, .ref starts_, .ref lengths_, .ref v12, .int used_])), (starts_, .inl (k_starts, n_starts, .inl F_starts)), (lengths_, .inl (k_lengths, n_lengths, .inl F_lengths)), (v12, .inl (v13, v14, .inl v15)), (a0, .inl (k_a0, n_a0, .inl F_a0))] H ∧ va_D A [(h0, .inr (6, [.int size_, .ref starts_, .ref lengths_, .ref v12, .int used_])), (starts_, .inl (k_starts, n_starts, .inl F_starts)), (lengths_, .inl (k_lengths, n_lengths, .inl F_lengths)), (v12, .inl (v13, v14, .inl v15)), (a0, .inl (k_a0, n_a0, .inl F_a0))] ∧ va_S A s.heap H locs ∧ lv_has ls 4 [(0, .ref h0), (1, .ref a0), (2, .int a1), (3, .int a2)] ∧ v16 ≤ mc ∧ v17 ≤ ms) ?_ (fun k2 => ?_)
    rotate_left
    · refine lv_icmp_le (tgt := 55) hx hb dc_Na_add_25 (by decide) (fun h25 => ?_) (fun h25 => ?_)
      · have hw := hw.1 h25
        exact k2 (text_, k_text, n_text, F_text, 0, 0) hw _ _ _ ⟨hK.sub [0, 1, 2, 3] rfl, hP.sub [0, 1, 2, 3, 4] rfl, hD.sub [0, 1, 2, 3, 4] (by decide) rfl, hS, lv_sub hl [0, 1, 2, 3] rfl, hkc, hks⟩
      · have hw := hw.2 h25
        refine lv_aload_n hx hb dc_Na_add_28 rfl (lv_at hl 0 rfl) ?_
        refine lv_aload_n hx hb dc_Na_add_29 rfl (lv_at hl 0 rfl) ?_
        refine va_get (D := (dC, dI)) (ci := 6) (v := .ref text_) (C := "StrataBase$Names") (T := tb_Na) (N := 5) hx hb hT in_Na hown hK hP 0 rfl rfl 3 (by decide) (hT _ wd_111) (fun _ h9 => h9) rfl dc_Na_add_30 ?_
        refine lv_aload_n hx hb dc_Na_add_33 rfl (lv_at hl 0 rfl) ?_
        refine va_get (D := (dC, dI)) (ci := 6) (v := .int used_) (C := "StrataBase$Names") (T := tb_Na) (N := 5) hx hb hT in_Na hown hK hP 0 rfl rfl 4 (by decide) (hT _ wd_112) (fun _ h9 => h9) rfl dc_Na_add_34 ?_
        refine lv_iload_n hx hb dc_Na_add_37 rfl (lv_at hl 3 rfl) ?_
        refine lv_iadd hx hb dc_Na_add_38 ?_
        refine lv_topi (fun y3 ey3 => ?_)
        have hw := hw y3 ey3
        refine lv_iconst (v := 2) hx hb dc_Na_add_39 (by decide) ?_
        refine lv_aload_n hx hb dc_Na_add_40 rfl (lv_at hl 0 rfl) ?_
        refine va_get (D := (dC, dI)) (ci := 6) (v := .ref text_) (C := "StrataBase$Names") (T := tb_Na) (N := 5) hx hb hT in_Na hown hK hP 0 rfl rfl 3 (by decide) (hT _ wd_111) (fun _ h9 => h9) rfl dc_Na_add_41 ?_
        refine va_alen (v := nI n_text) hx hb hK hP 3 2 rfl rfl rfl dc_Na_add_44 ?_
        refine lv_imul hx hb dc_Na_add_45 ?_
        refine lv_topi (fun y4 ey4 => ?_)
        have hw := hw y4 ey4
        refine va_mmax hx hb (by rw [hml]; exact hl.1.symm) hown (hT _ wd_691) (hT _ wd_692) (hT _ wd_20) (hT _ wd_693) (Nat.le_of_ble_eq_true rfl) (Nat.le_of_ble_eq_true rfl) hkc hks dc_Na_add_46 ?_
        refine lv_topi (fun y5 ey5 => ?_)
        have hw := hw y5 ey5
        obtain ⟨c6, s7, hkc, hks, hw⟩ := hw
        have hPc := hP.sub (ws' := [(text_, .inl (k_text, n_text, .inl F_text))]) [3] rfl
        have hDc := hD.sub (ws' := [(text_, .inl (k_text, n_text, .inl F_text))]) [3] (by decide) rfl
        have hKc := hK.sub (tys' := [(k_text, .byte)]) [2] rfl
        have hFc := va_free (wc := [(text_, .inl (k_text, n_text, .inl F_text))]) hD hS hA [3] rfl
        refine va_callr (va_runS (As := [.ref text_, .int y5]) (rest := [.ref h0]) ⟨hx, hb, hml, hown, hT⟩ (met_Ar_copyOf l dC dI c6 s7 n_text text_ y5 F_text k_text s.heap.size hw) (va_cwS 2 hT (gd_S wd_694 wd_695 wd_19 wd_696) rfl rfl rfl (by decide +kernel) ⟨Nat.le_of_ble_eq_true rfl, Nat.le_of_ble_eq_true rfl⟩) ⟨fun a U g mk q => by obtain ⟨q0, q1, qP, qK, qD⟩ := q; exact ⟨q0, q1, qP, va_K.moved (u := U) (U := U.calling g mk a) (Vm.Alike.refl U.vm) qK, qD⟩, fun U hU hW => ⟨rfl, by rw [hU], by rw [hU]; exact hPc, va_K.moved hW.alike hKc, hDc.weaken (fun _ _ _ _ => trivial)⟩⟩ rfl rfl hl.1 rfl (lv_room (Nat.le_of_ble_eq_true rfl)) dc_Na_add_49 ⟨hkc, hks⟩) hS (fun q _ h => hFc q h) hFc (fun u9 r11 t H1 locs ht hvm hw hB hz1 hk1 hS => ?_)
        obtain ⟨o8, o9, o10⟩ := u9
        obtain ⟨hP1, hK1, hD1⟩ := hB
        rw [ht] at hP1
        have hK1 := va_K.moved hvm.symm hK1
        obtain ⟨hP, hD⟩ := va_join (wr := [(h0, .inr (6, [.int size_, .ref starts_, .ref lengths_, .ref text_, .int used_])), (starts_, .inl (k_starts, n_starts, .inl F_starts)), (lengths_, .inl (k_lengths, n_lengths, .inl F_lengths)), (a0, .inl (k_a0, n_a0, .inl F_a0))]) (w1 := [(text_, .inl (k_text, n_text, .inl F_text)), (r11, .inl (o8, o9, .inl o10))]) hP hD [3] [0, 1, 2, 4] rfl rfl (by decide) (by decide) hk1 hFc hP1 hD1
        have hK := (hK.sub (tys' := [(k_starts, .int), (k_lengths, .int), (k_a0, .byte)]) [0, 1, 3] rfl).app hK1
        generalize H1 = H at hP hS ⊢
        have hP : va_P (dC, dI) vwCl [(h0, .inr (6, [.int size_, .ref starts_, .ref lengths_, .ref text_, .int used_])), (starts_, .inl (k_starts, n_starts, .inl F_starts)), (lengths_, .inl (k_lengths, n_lengths, .inl F_lengths)), (a0, .inl (k_a0, n_a0, .inl F_a0)), (text_, .inl (k_text, n_text, .inl F_text)), (r11, .inl (o8, o9, .inl o10))] H := hP
        have hD : va_D A [(h0, .inr (6, [.int size_, .ref starts_, .ref lengths_, .ref text_, .int used_])), (starts_, .inl (k_starts, n_starts, .inl F_starts)), (lengths_, .inl (k_lengths, n_lengths, .inl F_lengths)), (a0, .inl (k_a0, n_a0, .inl F_a0)), (text_, .inl (k_text, n_text, .inl F_text)), (r11, .inl (o8, o9, .inl o10))] := hD
        have hK : va_K (dC, dI) vwCl [(k_starts, .int), (k_lengths, .int), (k_a0, .byte), (k_text, .byte), (o8, .byte)] s := hK
        refine W.widen (k := (0 + c6)) (n := (0 + s7)) (Nat.le_refl _) (Nat.le_refl _) ?_
        have hw := hw r11
        refine va_put (D := (dC, dI)) (ci := 6) (v := .ref r11) (ty := .array .byte) (C := "StrataBase$Names") (T := tb_Na) (N := 5) hx hb hT in_Na ty_Na tk_Na nm_Na hown hK hP hD hS 0 rfl rfl 3 (by decide) (hT _ wd_111) (fun _ h9 => h9) rfl (by decide +kernel) rfl rfl (Nat.le_of_ble_eq_true rfl) dc_Na_add_52 (fun H locs hP hD hS => ?_)
        have hP : va_P (dC, dI) vwCl [(h0, .inr (6, [.int size_, .ref starts_, .ref lengths_, .ref r11, .int used_])), (starts_, .inl (k_starts, n_starts, .inl F_starts)), (lengths_, .inl (k_lengths, n_lengths, .inl F_lengths)), (a0, .inl (k_a0, n_a0, .inl F_a0)), (text_, .inl (k_text, n_text, .inl F_text)), (r11, .inl (o8, o9, .inl o10))] H := hP
        have hD : va_D A [(h0, .inr (6, [.int size_, .ref starts_, .ref lengths_, .ref r11, .int used_])), (starts_, .inl (k_starts, n_starts, .inl F_starts)), (lengths_, .inl (k_lengths, n_lengths, .inl F_lengths)), (a0, .inl (k_a0, n_a0, .inl F_a0)), (text_, .inl (k_text, n_text, .inl F_text)), (r11, .inl (o8, o9, .inl o10))] := hD
        exact k2 (r11, o8, o9, o10, (0 + c6), (0 + s7)) hw _ _ _ ⟨hK.sub [0, 1, 4, 2] rfl, hP.sub [0, 1, 2, 5, 3] rfl, hD.sub [0, 1, 2, 5, 3] (by decide) rfl, hS, lv_sub hl [0, 1, 2, 3] rfl, hkc, hks⟩
    intro x9 hw H locs ls hI
    obtain ⟨v12, v13, v14, v15, v16, v17⟩ := x9
    obtain ⟨hK, hP, hD, hS, hl, hkc, hks⟩ := hI
    unfold jw_met_Na_add_55 at hw
    refine W.eq (g2 := F0 m 55 ls []) rfl ?_
    refine W.widen (k := v16) (n := v17) (Nat.le_refl _) (Nat.le_refl _) ?_
    refine lv_aload_n hx hb dc_Na_add_55 rfl (lv_at hl 1 rfl) ?_
    refine lv_iload_n hx hb dc_Na_add_56 rfl (lv_at hl 2 rfl) ?_
    refine lv_aload_n hx hb dc_Na_add_57 rfl (lv_at hl 0 rfl) ?_
    refine va_get (D := (dC, dI)) (ci := 6) (v := .ref v12) (C := "StrataBase$Names") (T := tb_Na) (N := 5) hx hb hT in_Na hown hK hP 0 rfl rfl 3 (by decide) (hT _ wd_111) (fun _ h9 => h9) rfl dc_Na_add_58 ?_
    refine lv_aload_n hx hb dc_Na_add_61 rfl (lv_at hl 0 rfl) ?_
    refine va_get (D := (dC, dI)) (ci := 6) (v := .int used_) (C := "StrataBase$Names") (T := tb_Na) (N := 5) hx hb hT in_Na hown hK hP 0 rfl rfl 4 (by decide) (hT _ wd_112) (fun _ h9 => h9) rfl dc_Na_add_62 ?_
    refine lv_iload_n hx hb dc_Na_add_65 rfl (lv_at hl 3 rfl) ?_
    obtain ⟨hc66_0, hc66_1, hc66_2, hc66_3, hc66_4, hc66_5, hw⟩ := hw
    refine va_copyi (sp := a1) (dp := used_) (n := a2) hx hb (by rw [hml]; exact hl.1.symm) hown (hT _ wd_710) (hT _ wd_709) (hT _ wd_708) (hT _ wd_22) hK hP hD hS 4 3 3 2 rfl rfl rfl rfl rfl hc66_0 hc66_1 hc66_2 hc66_3 hc66_4 hc66_5 (Nat.le_of_ble_eq_true rfl) (Nat.le_of_ble_eq_true rfl) dc_Na_add_66 (fun H locs hP hD hS => ?_)
    have hP : va_P (dC, dI) vwCl [(h0, .inr (6, [.int size_, .ref starts_, .ref lengths_, .ref v12, .int used_])), (starts_, .inl (k_starts, n_starts, .inl F_starts)), (lengths_, .inl (k_lengths, n_lengths, .inl F_lengths)), (v12, .inl (v13, v14, .inl (va_cpy F_a0 v15 a1.toNatClampNeg used_.toNatClampNeg a2.toNatClampNeg))), (a0, .inl (k_a0, n_a0, .inl F_a0))] H := hP
    have hD : va_D A [(h0, .inr (6, [.int size_, .ref starts_, .ref lengths_, .ref v12, .int used_])), (starts_, .inl (k_starts, n_starts, .inl F_starts)), (lengths_, .inl (k_lengths, n_lengths, .inl F_lengths)), (v12, .inl (v13, v14, .inl (va_cpy F_a0 v15 a1.toNatClampNeg used_.toNatClampNeg a2.toNatClampNeg))), (a0, .inl (k_a0, n_a0, .inl F_a0))] := hD
    obtain ⟨g18, eg18⟩ : ∃ z9 : Nat → Int32, z9 = va_cpy F_a0 v15 a1.toNatClampNeg used_.toNatClampNeg a2.toNatClampNeg := ⟨_, rfl⟩
    rw [← eg18] at hP hD
    have hw := hw g18 eg18
    refine lv_aload_n hx hb dc_Na_add_69 rfl (lv_at hl 0 rfl) ?_
    refine va_get (D := (dC, dI)) (ci := 6) (v := .ref starts_) (C := "StrataBase$Names") (T := tb_Na) (N := 5) hx hb hT in_Na hown hK hP 0 rfl rfl 1 (by decide) (hT _ wd_109) (fun _ h9 => h9) rfl dc_Na_add_70 ?_
    refine lv_aload_n hx hb dc_Na_add_73 rfl (lv_at hl 0 rfl) ?_
    refine va_get (D := (dC, dI)) (ci := 6) (v := .int size_) (C := "StrataBase$Names") (T := tb_Na) (N := 5) hx hb hT in_Na hown hK hP 0 rfl rfl 0 (by decide) (hT _ wd_104) (fun _ h9 => h9) rfl dc_Na_add_74 ?_
    refine lv_aload_n hx hb dc_Na_add_77 rfl (lv_at hl 0 rfl) ?_
    refine va_get (D := (dC, dI)) (ci := 6) (v := .int used_) (C := "StrataBase$Names") (T := tb_Na) (N := 5) hx hb hT in_Na hown hK hP 0 rfl rfl 4 (by decide) (hT _ wd_112) (fun _ h9 => h9) rfl dc_Na_add_78 ?_
    obtain ⟨hv19, hw⟩ := hw
    refine va_iast hx hb hK hP hD hS 1 0 rfl rfl hv19 dc_Na_add_81 (fun H locs hP hD hS => ?_)
    have hP : va_P (dC, dI) vwCl [(h0, .inr (6, [.int size_, .ref starts_, .ref lengths_, .ref v12, .int used_])), (starts_, .inl (k_starts, n_starts, .inl (upd F_starts size_.toNatClampNeg used_))), (lengths_, .inl (k_lengths, n_lengths, .inl F_lengths)), (v12, .inl (v13, v14, .inl g18)), (a0, .inl (k_a0, n_a0, .inl F_a0))] H := hP
    have hD : va_D A [(h0, .inr (6, [.int size_, .ref starts_, .ref lengths_, .ref v12, .int used_])), (starts_, .inl (k_starts, n_starts, .inl (upd F_starts size_.toNatClampNeg used_))), (lengths_, .inl (k_lengths, n_lengths, .inl F_lengths)), (v12, .inl (v13, v14, .inl g18)), (a0, .inl (k_a0, n_a0, .inl F_a0))] := hD
    obtain ⟨g20, eg20⟩ : ∃ z9 : Nat → Int32, z9 = upd F_starts size_.toNatClampNeg used_ := ⟨_, rfl⟩
    rw [← eg20] at hP hD
    have hw := hw g20 eg20
    refine lv_aload_n hx hb dc_Na_add_82 rfl (lv_at hl 0 rfl) ?_
    refine va_get (D := (dC, dI)) (ci := 6) (v := .ref lengths_) (C := "StrataBase$Names") (T := tb_Na) (N := 5) hx hb hT in_Na hown hK hP 0 rfl rfl 2 (by decide) (hT _ wd_110) (fun _ h9 => h9) rfl dc_Na_add_83 ?_
    refine lv_aload_n hx hb dc_Na_add_86 rfl (lv_at hl 0 rfl) ?_
    refine va_get (D := (dC, dI)) (ci := 6) (v := .int size_) (C := "StrataBase$Names") (T := tb_Na) (N := 5) hx hb hT in_Na hown hK hP 0 rfl rfl 0 (by decide) (hT _ wd_104) (fun _ h9 => h9) rfl dc_Na_add_87 ?_
    refine lv_iload_n hx hb dc_Na_add_90 rfl (lv_at hl 3 rfl) ?_
    obtain ⟨hv21, hw⟩ := hw
    refine va_iast hx hb hK hP hD hS 2 1 rfl rfl hv21 dc_Na_add_91 (fun H locs hP hD hS => ?_)
    have hP : va_P (dC, dI) vwCl [(h0, .inr (6, [.int size_, .ref starts_, .ref lengths_, .ref v12, .int used_])), (starts_, .inl (k_starts, n_starts, .inl g20)), (lengths_, .inl (k_lengths, n_lengths, .inl (upd F_lengths size_.toNatClampNeg a2))), (v12, .inl (v13, v14, .inl g18)), (a0, .inl (k_a0, n_a0, .inl F_a0))] H := hP
    have hD : va_D A [(h0, .inr (6, [.int size_, .ref starts_, .ref lengths_, .ref v12, .int used_])), (starts_, .inl (k_starts, n_starts, .inl g20)), (lengths_, .inl (k_lengths, n_lengths, .inl (upd F_lengths size_.toNatClampNeg a2))), (v12, .inl (v13, v14, .inl g18)), (a0, .inl (k_a0, n_a0, .inl F_a0))] := hD
    obtain ⟨g22, eg22⟩ : ∃ z9 : Nat → Int32, z9 = upd F_lengths size_.toNatClampNeg a2 := ⟨_, rfl⟩
    rw [← eg22] at hP hD
    have hw := hw g22 eg22
    refine lv_aload_n hx hb dc_Na_add_92 rfl (lv_at hl 0 rfl) ?_
    refine lv_dup hx hb dc_Na_add_93 rfl ?_
    refine va_get (D := (dC, dI)) (ci := 6) (v := .int used_) (C := "StrataBase$Names") (T := tb_Na) (N := 5) hx hb hT in_Na hown hK hP 0 rfl rfl 4 (by decide) (hT _ wd_112) (fun _ h9 => h9) rfl dc_Na_add_94 ?_
    refine lv_iload_n hx hb dc_Na_add_97 rfl (lv_at hl 3 rfl) ?_
    refine lv_iadd hx hb dc_Na_add_98 ?_
    refine lv_topi (fun y23 ey23 => ?_)
    have hw := hw y23 ey23
    refine va_put (D := (dC, dI)) (ci := 6) (v := .int y23) (ty := .int) (C := "StrataBase$Names") (T := tb_Na) (N := 5) hx hb hT in_Na ty_Na tk_Na nm_Na hown hK hP hD hS 0 rfl rfl 4 (by decide) (hT _ wd_112) (fun _ h9 => h9) rfl (by decide +kernel) rfl rfl (Nat.le_of_ble_eq_true rfl) dc_Na_add_99 (fun H locs hP hD hS => ?_)
    have hP : va_P (dC, dI) vwCl [(h0, .inr (6, [.int size_, .ref starts_, .ref lengths_, .ref v12, .int y23])), (starts_, .inl (k_starts, n_starts, .inl g20)), (lengths_, .inl (k_lengths, n_lengths, .inl g22)), (v12, .inl (v13, v14, .inl g18)), (a0, .inl (k_a0, n_a0, .inl F_a0))] H := hP
    have hD : va_D A [(h0, .inr (6, [.int size_, .ref starts_, .ref lengths_, .ref v12, .int y23])), (starts_, .inl (k_starts, n_starts, .inl g20)), (lengths_, .inl (k_lengths, n_lengths, .inl g22)), (v12, .inl (v13, v14, .inl g18)), (a0, .inl (k_a0, n_a0, .inl F_a0))] := hD
    refine lv_aload_n hx hb dc_Na_add_102 rfl (lv_at hl 0 rfl) ?_
    refine lv_dup hx hb dc_Na_add_103 rfl ?_
    refine va_get (D := (dC, dI)) (ci := 6) (v := .int size_) (C := "StrataBase$Names") (T := tb_Na) (N := 5) hx hb hT in_Na hown hK hP 0 rfl rfl 0 (by decide) (hT _ wd_104) (fun _ h9 => h9) rfl dc_Na_add_104 ?_
    refine lv_iconst (v := 1) hx hb dc_Na_add_107 (by decide) ?_
    refine lv_iadd hx hb dc_Na_add_108 ?_
    refine lv_topi (fun y24 ey24 => ?_)
    have hw := hw y24 ey24
    refine va_put (D := (dC, dI)) (ci := 6) (v := .int y24) (ty := .int) (C := "StrataBase$Names") (T := tb_Na) (N := 5) hx hb hT in_Na ty_Na tk_Na nm_Na hown hK hP hD hS 0 rfl rfl 0 (by decide) (hT _ wd_104) (fun _ h9 => h9) rfl (by decide +kernel) rfl rfl (Nat.le_of_ble_eq_true rfl) dc_Na_add_109 (fun H locs hP hD hS => ?_)
    have hP : va_P (dC, dI) vwCl [(h0, .inr (6, [.int y24, .ref starts_, .ref lengths_, .ref v12, .int y23])), (starts_, .inl (k_starts, n_starts, .inl g20)), (lengths_, .inl (k_lengths, n_lengths, .inl g22)), (v12, .inl (v13, v14, .inl g18)), (a0, .inl (k_a0, n_a0, .inl F_a0))] H := hP
    have hD : va_D A [(h0, .inr (6, [.int y24, .ref starts_, .ref lengths_, .ref v12, .int y23])), (starts_, .inl (k_starts, n_starts, .inl g20)), (lengths_, .inl (k_lengths, n_lengths, .inl g22)), (v12, .inl (v13, v14, .inl g18)), (a0, .inl (k_a0, n_a0, .inl F_a0))] := hD
    refine lv_aload_n hx hb dc_Na_add_112 rfl (lv_at hl 0 rfl) ?_
    refine va_get (D := (dC, dI)) (ci := 6) (v := .int y24) (C := "StrataBase$Names") (T := tb_Na) (N := 5) hx hb hT in_Na hown hK hP 0 rfl rfl 0 (by decide) (hT _ wd_104) (fun _ h9 => h9) rfl dc_Na_add_113 ?_
    refine lv_iconst (v := 1) hx hb dc_Na_add_116 (by decide) ?_
    refine lv_isub hx hb dc_Na_add_117 ?_
    refine lv_topi (fun y25 ey25 => ?_)
    have hw := hw y25 ey25
    refine wk_know (fun hz0 hu0 => ?_)
    refine W.widen (k := mc) (n := ms) hkc hks ?_
    exact W.iret (v := y25) hx hb hr (fun t ht hW => ⟨⟨y25, (y24, y23, g20, g22, v12, v13, v14, g18, v16, v17), rfl, hw, by rw [ht]; exact hP, va_K.moved hW.alike hK, hD, by rw [ht]; exact hz0, by rw [ht]; exact hu0, hkc, hks⟩, hS.F ht⟩) hS.2.2 dc_Na_add_118
  · have hw := hw.2 h9
    refine lv_iconst (v := (-1)) hx hb dc_Na_add_12 (by decide) ?_
    refine wk_know (fun hz0 hu0 => ?_)
    refine W.widen (k := mc) (n := ms) hkc hks ?_
    exact W.iret (v := (-1)) hx hb hr (fun t ht hW => ⟨⟨(-1), (size_, used_, F_starts, F_lengths, text_, k_text, n_text, F_text, 0, 0), rfl, hw, by rw [ht]; exact hP, va_K.moved hW.alike hK, hD, by rw [ht]; exact hz0, by rw [ht]; exact hu0, hkc, hks⟩, hS.F ht⟩) hS.2.2 dc_Na_add_13

def wp_met_Na_byteOf (post : Int32 → Unit → Prop) (n_starts : Nat) (n_text : Nat) (a0 : Int32) (a1 : Int32) (F_starts : Nat → Int32) (F_text : Nat → Int32) : Prop := vp_in a0 n_starts ∧ (∀ y2 : Int32, y2 = F_starts a0.toNatClampNeg → (∀ y3 : Int32, y3 = y2 + a1 → (vp_in y3 n_text ∧ (∀ y5 : Int32, y5 = F_text y3.toNatClampNeg → (post y5 ())))))
set_option maxHeartbeats 4000000 in
set_option maxRecDepth 100000 in
theorem met_Na_byteOf (l : Launch) (dC : Nat → ClassId) (dI : Nat → Nat → Nat) (n_starts : Nat) (n_text : Nat) (h0 : Nat) (starts_ : Nat) (lengths_ : Nat) (text_ : Nat) (a0 : Int32) (a1 : Int32) (size_ : Int32) (used_ : Int32) (F_starts : Nat → Int32) (F_text : Nat → Int32) (k_starts : ClassId) (k_text : ClassId) (sz : Nat) {post : Int32 → Unit → Prop} (hw : wp_met_Na_byteOf post n_starts n_text a0 a1 F_starts F_text) : Met l my_Na_byteOf (Cond.code my_Na_byteOf cd_Na_byteOf 3 (some (.int)) :: tblG) ({ frames := 0, cells := 0, slots := 0, locals := 0 }) (va_Pc [.ref h0, .int a0, .int a1] (fun U => U.heap.size = sz ∧ va_P (dC, dI) vwCl [(h0, .inr (6, [.int size_, .ref starts_, .ref lengths_, .ref text_, .int used_])), (starts_, .inl (k_starts, n_starts, .inl F_starts)), (text_, .inl (k_text, n_text, .inl F_text))] U.heap ∧ va_K (dC, dI) vwCl [(k_starts, .int), (k_text, .byte)] U ∧ va_D (fun _ => True) [(h0, .inr (6, [.int size_, .ref starts_, .ref lengths_, .ref text_, .int used_])), (starts_, .inl (k_starts, n_starts, .inl F_starts)), (text_, .inl (k_text, n_text, .inl F_text))])) (va_Qi post (fun (u : Unit) (t : State) => va_P (dC, dI) vwCl [(h0, .inr (6, [.int size_, .ref starts_, .ref lengths_, .ref text_, .int used_])), (starts_, .inl (k_starts, n_starts, .inl F_starts)), (text_, .inl (k_text, n_text, .inl F_text))] t.heap ∧ va_K (dC, dI) vwCl [(k_starts, .int), (k_text, .byte)] t ∧ va_D (va_A [(h0, .inr (6, [.int size_, .ref starts_, .ref lengths_, .ref text_, .int used_])), (starts_, .inl (k_starts, n_starts, .inl F_starts)), (text_, .inl (k_text, n_text, .inl F_text))] sz) [(h0, .inr (6, [.int size_, .ref starts_, .ref lengths_, .ref text_, .int used_])), (starts_, .inl (k_starts, n_starts, .inl F_starts)), (text_, .inl (k_text, n_text, .inl F_text))]) (va_A [(h0, .inr (6, [.int size_, .ref starts_, .ref lengths_, .ref text_, .int used_])), (starts_, .inl (k_starts, n_starts, .inl F_starts)), (text_, .inl (k_text, n_text, .inl F_text))] sz)) 0 0 (va_A [(h0, .inr (6, [.int size_, .ref starts_, .ref lengths_, .ref text_, .int used_])), (starts_, .inl (k_starts, n_starts, .inl F_starts)), (text_, .inl (k_text, n_text, .inl F_text))] sz) := by
  refine Met.ofW (cc := cd_Na_byteOf) (maxL := 3) (ret := (some (.int))) (by decide) rfl ?_
  intro p e s m args below meth c s₁ B hml hv
  obtain ⟨rfl, hsz, hP, hK, hD0⟩ := hv
  have hx := B.exec
  have hb := B.bytes
  have hr := B.returns
  have hT : ∀ w ∈ tblG, w.before _ s = true := fun w h => atoms_spec (ws := (Cond.code my_Na_byteOf cd_Na_byteOf 3 (some (.int)) :: tblG)) B.pre w (List.mem_cons_of_mem _ h)
  have hown : s.vm.findClass "StrataBase$Names" = some m.cls := findClass_of_methodNamed B.named
  have hlocks := B.notSynchronized
  subst hsz
  have hD := hD0.self (sz := s.heap.size)
  generalize hAe : va_A [(h0, .inr (6, [.int size_, .ref starts_, .ref lengths_, .ref text_, .int used_])), (starts_, .inl (k_starts, n_starts, .inl F_starts)), (text_, .inl (k_text, n_text, .inl F_text))] s.heap.size = A at hD ⊢
  have hA : ∀ q : Nat, s.heap.size ≤ q → A q := fun q h => by rw [← hAe]; exact Or.inr h
  have hS : va_S A s.heap s.heap [] := va_S.rf
  have hl := lv_entry ([.ref h0, .int a0, .int a1]) (n := 3) (Nat.le_of_ble_eq_true rfl)
  rw [lg_entry_eq]
  generalize (lg_sl ([.ref h0, .int a0, .int a1]) ++ List.replicate (3 - (lg_sl ([.ref h0, .int a0, .int a1])).length) Slot.unset).toArray = ls at hl ⊢
  have hl : lv_has ls 3 [(0, .ref h0), (1, .int a0), (2, .int a1)] := hl
  unfold wp_met_Na_byteOf at hw
  refine lv_aload_n hx hb dc_Na_byteOf_0 rfl (lv_at hl 0 rfl) ?_
  refine va_get (D := (dC, dI)) (ci := 6) (v := .ref text_) (C := "StrataBase$Names") (T := tb_Na) (N := 5) hx hb hT in_Na hown hK hP 0 rfl rfl 3 (by decide) (hT _ wd_111) (fun _ h9 => h9) rfl dc_Na_byteOf_1 ?_
  refine lv_aload_n hx hb dc_Na_byteOf_4 rfl (lv_at hl 0 rfl) ?_
  refine va_get (D := (dC, dI)) (ci := 6) (v := .ref starts_) (C := "StrataBase$Names") (T := tb_Na) (N := 5) hx hb hT in_Na hown hK hP 0 rfl rfl 1 (by decide) (hT _ wd_109) (fun _ h9 => h9) rfl dc_Na_byteOf_5 ?_
  refine lv_iload_n hx hb dc_Na_byteOf_8 rfl (lv_at hl 1 rfl) ?_
  obtain ⟨hv1, hw⟩ := hw
  refine va_iald hx hb hK hP 1 0 rfl rfl hv1 dc_Na_byteOf_9 ?_
  refine lv_topi (fun y2 ey2 => ?_)
  have hw := hw y2 ey2
  refine lv_iload_n hx hb dc_Na_byteOf_10 rfl (lv_at hl 2 rfl) ?_
  refine lv_iadd hx hb dc_Na_byteOf_11 ?_
  refine lv_topi (fun y3 ey3 => ?_)
  have hw := hw y3 ey3
  obtain ⟨hv4, hw⟩ := hw
  refine va_bald hx hb hK hP 2 1 rfl rfl hv4 dc_Na_byteOf_12 ?_
  refine lv_topi (fun y5 ey5 => ?_)
  have hw := hw y5 ey5
  refine W.widen (k := 0) (n := 0) (Nat.le_of_ble_eq_true rfl) (Nat.le_of_ble_eq_true rfl) ?_
  exact W.iret (v := y5) hx hb hr (fun t ht hW => ⟨⟨y5, (), rfl, hw, by rw [ht]; exact hP, va_K.moved hW.alike hK, hD⟩, hS.F ht⟩) hS.2.2 dc_Na_byteOf_13

def jw_met_Co_search_71 (post : Int32 → Unit → Prop) (J_lw_met_Co_search_12 : (Int32 × Int32) → Prop) (y6 : Int32) (v3 : Int32) (v2 : Int32) : (Int32) → Prop
  | v16 => ((v16 = 0 → (post y6 ())) ∧ (¬ (v16 = 0) → (((0 ≤ v16 → (J_lw_met_Co_search_12 (y6, v3))) ∧ (¬ (0 ≤ v16) → (∀ y17 : Int32, y17 = y6 + (1 : Int32) → (J_lw_met_Co_search_12 (v2, y17))))))))
def lw_met_Co_search_12 (post : Int32 → Unit → Prop) (n_byRank : Nat) (F_byRank : Nat → Int32) (n_values : Nat) (F_values : Nat → Int32) (a3 : Int32) (n_names_starts : Nat) (n_names_lengths : Nat) (n_names_text : Nat) (n_a0 : Nat) (a1 : Int32) (a2 : Int32) (F_names_starts : Nat → Int32) (F_names_lengths : Nat → Int32) (F_names_text : Nat → Int32) (F_a0 : Nat → Int32) : Nat → (Int32 × Int32) → Prop
  | 0, _ => False
  | n1_ + 1, (v2, v3) => ((v2 ≤ v3 → (∀ y4 : Int32, y4 = v3 ^^^ (-1 : Int32) → (post y4 ()))) ∧ (¬ (v2 ≤ v3) → (∀ y5 : Int32, y5 = v3 + v2 → (∀ y6 : Int32, y6 = (y5.toUInt32 >>> ((1 : Int32).toUInt32 &&& Int32.toUInt32 31)).toInt32 → (vp_in y6 n_byRank ∧ (∀ y8 : Int32, y8 = F_byRank y6.toNatClampNeg → (wp_met_Na_compare (fun (r9 : Int32) (_ : Unit) => (((r9 = 0 → (vp_in y6 n_byRank ∧ (∀ y12 : Int32, y12 = F_byRank y6.toNatClampNeg → (vp_in y12 n_values ∧ (∀ y14 : Int32, y14 = F_values y12.toNatClampNeg → (wp_met_In_compare (fun (r15 : Int32) (_ : Unit) => (jw_met_Co_search_71 post (fun x9 => lw_met_Co_search_12 post n_byRank F_byRank n_values F_values a3 n_names_starts n_names_lengths n_names_text n_a0 a1 a2 F_names_starts F_names_lengths F_names_text F_a0 n1_ x9) y6 v3 v2 r15)) y14 a3)))))) ∧ (¬ (r9 = 0) → (jw_met_Co_search_71 post (fun x9 => lw_met_Co_search_12 post n_byRank F_byRank n_values F_values a3 n_names_starts n_names_lengths n_names_text n_a0 a1 a2 F_names_starts F_names_lengths F_names_text F_a0 n1_ x9) y6 v3 v2 r9))))) n_names_starts n_names_lengths n_names_text n_a0 y8 a1 a2 F_names_starts F_names_lengths F_names_text F_a0)))))))
def wp_met_Co_search (post : Int32 → Unit → Prop) (n_names_starts : Nat) (n_names_lengths : Nat) (n_names_text : Nat) (n_values : Nat) (n_byRank : Nat) (n_a0 : Nat) (a1 : Int32) (a2 : Int32) (a3 : Int32) (names_size_ : Int32) (F_names_starts : Nat → Int32) (F_names_lengths : Nat → Int32) (F_names_text : Nat → Int32) (F_values : Nat → Int32) (F_byRank : Nat → Int32) (F_a0 : Nat → Int32) : Prop := ∃ n9 : Nat, lw_met_Co_search_12 post n_byRank F_byRank n_values F_values a3 n_names_starts n_names_lengths n_names_text n_a0 a1 a2 F_names_starts F_names_lengths F_names_text F_a0 n9 (names_size_, (0 : Int32))
set_option maxHeartbeats 4000000 in
set_option maxRecDepth 100000 in
theorem met_Co_search (l : Launch) (dC : Nat → ClassId) (dI : Nat → Nat → Nat) (n_names_starts : Nat) (n_names_lengths : Nat) (n_names_text : Nat) (n_values : Nat) (n_byRank : Nat) (n_a0 : Nat) (h0 : Nat) (names_ : Nat) (values_ : Nat) (byRank_ : Nat) (ranks_ : Nat) (names_starts_ : Nat) (names_lengths_ : Nat) (names_text_ : Nat) (a0 : Nat) (a1 : Int32) (a2 : Int32) (a3 : Int32) (names_size_ : Int32) (names_used_ : Int32) (F_names_starts : Nat → Int32) (F_names_lengths : Nat → Int32) (F_names_text : Nat → Int32) (F_values : Nat → Int32) (F_byRank : Nat → Int32) (F_a0 : Nat → Int32) (k_names_starts : ClassId) (k_names_lengths : ClassId) (k_names_text : ClassId) (k_values : ClassId) (k_byRank : ClassId) (k_a0 : ClassId) (sz : Nat) {post : Int32 → Unit → Prop} (hw : wp_met_Co_search post n_names_starts n_names_lengths n_names_text n_values n_byRank n_a0 a1 a2 a3 names_size_ F_names_starts F_names_lengths F_names_text F_values F_byRank F_a0) : Met l my_Co_search (Cond.code my_Co_search cd_Co_search 9 (some (.int)) :: tblG) ({ frames := 1, cells := 0, slots := 0, locals := 27 }) (va_Pc [.ref h0, .ref a0, .int a1, .int a2, .int a3] (fun U => U.heap.size = sz ∧ va_P (dC, dI) vwCl [(h0, .inr (2, [.ref names_, .ref values_, .ref byRank_, .ref ranks_])), (names_, .inr (6, [.int names_size_, .ref names_starts_, .ref names_lengths_, .ref names_text_, .int names_used_])), (names_starts_, .inl (k_names_starts, n_names_starts, .inl F_names_starts)), (names_lengths_, .inl (k_names_lengths, n_names_lengths, .inl F_names_lengths)), (names_text_, .inl (k_names_text, n_names_text, .inl F_names_text)), (values_, .inl (k_values, n_values, .inl F_values)), (byRank_, .inl (k_byRank, n_byRank, .inl F_byRank)), (a0, .inl (k_a0, n_a0, .inl F_a0))] U.heap ∧ va_K (dC, dI) vwCl [(k_names_starts, .int), (k_names_lengths, .int), (k_names_text, .byte), (k_values, .int), (k_byRank, .int), (k_a0, .byte)] U ∧ va_D (fun _ => True) [(h0, .inr (2, [.ref names_, .ref values_, .ref byRank_, .ref ranks_])), (names_, .inr (6, [.int names_size_, .ref names_starts_, .ref names_lengths_, .ref names_text_, .int names_used_])), (names_starts_, .inl (k_names_starts, n_names_starts, .inl F_names_starts)), (names_lengths_, .inl (k_names_lengths, n_names_lengths, .inl F_names_lengths)), (names_text_, .inl (k_names_text, n_names_text, .inl F_names_text)), (values_, .inl (k_values, n_values, .inl F_values)), (byRank_, .inl (k_byRank, n_byRank, .inl F_byRank)), (a0, .inl (k_a0, n_a0, .inl F_a0))])) (va_Qi post (fun (u : Unit) (t : State) => va_P (dC, dI) vwCl [(h0, .inr (2, [.ref names_, .ref values_, .ref byRank_, .ref ranks_])), (names_, .inr (6, [.int names_size_, .ref names_starts_, .ref names_lengths_, .ref names_text_, .int names_used_])), (names_starts_, .inl (k_names_starts, n_names_starts, .inl F_names_starts)), (names_lengths_, .inl (k_names_lengths, n_names_lengths, .inl F_names_lengths)), (names_text_, .inl (k_names_text, n_names_text, .inl F_names_text)), (values_, .inl (k_values, n_values, .inl F_values)), (byRank_, .inl (k_byRank, n_byRank, .inl F_byRank)), (a0, .inl (k_a0, n_a0, .inl F_a0))] t.heap ∧ va_K (dC, dI) vwCl [(k_names_starts, .int), (k_names_lengths, .int), (k_names_text, .byte), (k_values, .int), (k_byRank, .int), (k_a0, .byte)] t ∧ va_D (va_A [(h0, .inr (2, [.ref names_, .ref values_, .ref byRank_, .ref ranks_])), (names_, .inr (6, [.int names_size_, .ref names_starts_, .ref names_lengths_, .ref names_text_, .int names_used_])), (names_starts_, .inl (k_names_starts, n_names_starts, .inl F_names_starts)), (names_lengths_, .inl (k_names_lengths, n_names_lengths, .inl F_names_lengths)), (names_text_, .inl (k_names_text, n_names_text, .inl F_names_text)), (values_, .inl (k_values, n_values, .inl F_values)), (byRank_, .inl (k_byRank, n_byRank, .inl F_byRank)), (a0, .inl (k_a0, n_a0, .inl F_a0))] sz) [(h0, .inr (2, [.ref names_, .ref values_, .ref byRank_, .ref ranks_])), (names_, .inr (6, [.int names_size_, .ref names_starts_, .ref names_lengths_, .ref names_text_, .int names_used_])), (names_starts_, .inl (k_names_starts, n_names_starts, .inl F_names_starts)), (names_lengths_, .inl (k_names_lengths, n_names_lengths, .inl F_names_lengths)), (names_text_, .inl (k_names_text, n_names_text, .inl F_names_text)), (values_, .inl (k_values, n_values, .inl F_values)), (byRank_, .inl (k_byRank, n_byRank, .inl F_byRank)), (a0, .inl (k_a0, n_a0, .inl F_a0))]) (va_A [(h0, .inr (2, [.ref names_, .ref values_, .ref byRank_, .ref ranks_])), (names_, .inr (6, [.int names_size_, .ref names_starts_, .ref names_lengths_, .ref names_text_, .int names_used_])), (names_starts_, .inl (k_names_starts, n_names_starts, .inl F_names_starts)), (names_lengths_, .inl (k_names_lengths, n_names_lengths, .inl F_names_lengths)), (names_text_, .inl (k_names_text, n_names_text, .inl F_names_text)), (values_, .inl (k_values, n_values, .inl F_values)), (byRank_, .inl (k_byRank, n_byRank, .inl F_byRank)), (a0, .inl (k_a0, n_a0, .inl F_a0))] sz)) 0 0 (va_A [(h0, .inr (2, [.ref names_, .ref values_, .ref byRank_, .ref ranks_])), (names_, .inr (6, [.int names_size_, .ref names_starts_, .ref names_lengths_, .ref names_text_, .int names_used_])), (names_starts_, .inl (k_names_starts, n_names_starts, .inl F_names_starts)), (names_lengths_, .inl (k_names_lengths, n_names_lengths, .inl F_names_lengths)), (names_text_, .inl (k_names_text, n_names_text, .inl F_names_text)), (values_, .inl (k_values, n_values, .inl F_values)), (byRank_, .inl (k_byRank, n_byRank, .inl F_byRank)), (a0, .inl (k_a0, n_a0, .inl F_a0))] sz) := by
  refine Met.ofW (cc := cd_Co_search) (maxL := 9) (ret := (some (.int))) (by decide) rfl ?_
  intro p e s m args below meth c s₁ B hml hv
  obtain ⟨rfl, hsz, hP, hK, hD0⟩ := hv
  have hx := B.exec
  have hb := B.bytes
  have hr := B.returns
  have hT : ∀ w ∈ tblG, w.before _ s = true := fun w h => atoms_spec (ws := (Cond.code my_Co_search cd_Co_search 9 (some (.int)) :: tblG)) B.pre w (List.mem_cons_of_mem _ h)
  have hown : s.vm.findClass "StrataBase$Constants" = some m.cls := findClass_of_methodNamed B.named
  have hlocks := B.notSynchronized
  subst hsz
  have hD := hD0.self (sz := s.heap.size)
  generalize hAe : va_A [(h0, .inr (2, [.ref names_, .ref values_, .ref byRank_, .ref ranks_])), (names_, .inr (6, [.int names_size_, .ref names_starts_, .ref names_lengths_, .ref names_text_, .int names_used_])), (names_starts_, .inl (k_names_starts, n_names_starts, .inl F_names_starts)), (names_lengths_, .inl (k_names_lengths, n_names_lengths, .inl F_names_lengths)), (names_text_, .inl (k_names_text, n_names_text, .inl F_names_text)), (values_, .inl (k_values, n_values, .inl F_values)), (byRank_, .inl (k_byRank, n_byRank, .inl F_byRank)), (a0, .inl (k_a0, n_a0, .inl F_a0))] s.heap.size = A at hD ⊢
  have hA : ∀ q : Nat, s.heap.size ≤ q → A q := fun q h => by rw [← hAe]; exact Or.inr h
  have hS : va_S A s.heap s.heap [] := va_S.rf
  have hl := lv_entry ([.ref h0, .ref a0, .int a1, .int a2, .int a3]) (n := 9) (Nat.le_of_ble_eq_true rfl)
  rw [lg_entry_eq]
  generalize (lg_sl ([.ref h0, .ref a0, .int a1, .int a2, .int a3]) ++ List.replicate (9 - (lg_sl ([.ref h0, .ref a0, .int a1, .int a2, .int a3])).length) Slot.unset).toArray = ls at hl ⊢
  have hl : lv_has ls 9 [(0, .ref h0), (1, .ref a0), (2, .int a1), (3, .int a2), (4, .int a3)] := hl
  unfold wp_met_Co_search at hw
  refine lv_iconst (v := 0) hx hb dc_Co_search_0 (by decide) ?_
  refine lv_istore (lv' := [(5, .int 0), (0, .ref h0), (1, .ref a0), (2, .int a1), (3, .int a2), (4, .int a3)]) hx hb dc_Co_search_1 hl (by decide) rfl (fun ls hl => ?_)
  refine lv_aload_n hx hb dc_Co_search_3 rfl (lv_at hl 1 rfl) ?_
  refine va_get (D := (dC, dI)) (ci := 2) (v := .ref names_) (C := "StrataBase$Constants") (T := tb_Co) (N := 4) hx hb hT in_Co hown hK hP 0 rfl rfl 0 (by decide) (hT _ wd_132) (fun _ h9 => h9) rfl dc_Co_search_4 ?_
  refine va_get (D := (dC, dI)) (ci := 6) (v := .int names_size_) (C := "StrataBase$Names") (T := tb_Na) (N := 5) hx hb hT in_Na hown hK hP 1 rfl rfl 0 (by decide) (hT _ wd_105) (fun _ h9 => h9) rfl dc_Co_search_7 ?_
  refine lv_istore (lv' := [(6, .int names_size_), (5, .int 0), (0, .ref h0), (1, .ref a0), (2, .int a1), (3, .int a2), (4, .int a3)]) hx hb dc_Co_search_10 hl (by decide) rfl (fun ls hl => ?_)
  obtain ⟨n9, hw⟩ := hw
  refine lp_fuel (σ := Int32 × Int32) _ (fun x9 H locs ls => match x9 with | (v2, v3) => va_K (dC, dI) vwCl [(k_names_starts, .int), (k_names_lengths, .int), (k_names_text, .byte), (k_values, .int), (k_byRank, .int), (k_a0, .byte)] s ∧ va_P (dC, dI) vwCl [(h0, .inr (2, [.ref names_, .ref values_, .ref byRank_, .ref ranks_])), (names_, .inr (6, [.int names_size_, .ref names_starts_, .ref names_lengths_, .ref names_text_, .int names_used_])), (names_starts_, .inl (k_names_starts, n_names_starts, .inl F_names_starts)), (names_lengths_, .inl (k_names_lengths, n_names_lengths, .inl F_names_lengths)), (names_text_, .inl (k_names_text, n_names_text, .inl F_names_text)), (values_, .inl (k_values, n_values, .inl F_values)), (byRank_, .inl (k_byRank, n_byRank, .inl F_byRank)), (a0, .inl (k_a0, n_a0, .inl F_a0))] H ∧ va_D A [(h0, .inr (2, [.ref names_, .ref values_, .ref byRank_, .ref ranks_])), (names_, .inr (6, [.int names_size_, .ref names_starts_, .ref names_lengths_, .ref names_text_, .int names_used_])), (names_starts_, .inl (k_names_starts, n_names_starts, .inl F_names_starts)), (names_lengths_, .inl (k_names_lengths, n_names_lengths, .inl F_names_lengths)), (names_text_, .inl (k_names_text, n_names_text, .inl F_names_text)), (values_, .inl (k_values, n_values, .inl F_values)), (byRank_, .inl (k_byRank, n_byRank, .inl F_byRank)), (a0, .inl (k_a0, n_a0, .inl F_a0))] ∧ va_S A s.heap H locs ∧ lv_has ls 9 [(6, .int v2), (5, .int v3), (0, .ref h0), (1, .ref a0), (2, .int a1), (3, .int a2), (4, .int a3)]) (fun x9 h9 => by simp only [lw_met_Co_search_12] at h9) ?_ hw ⟨hK.sub [0, 1, 2, 3, 4, 5] rfl, hP.sub [0, 1, 2, 3, 4, 5, 6, 7] rfl, hD.sub [0, 1, 2, 3, 4, 5, 6, 7] (by decide) rfl, hS, lv_sub hl [0, 1, 2, 3, 4, 5, 6] rfl⟩
  intro n1_ x9 hw ih1 H locs ls hI
  obtain ⟨v2, v3⟩ := x9
  obtain ⟨hK, hP, hD, hS, hl⟩ := hI
  unfold lw_met_Co_search_12 at hw
  refine lv_iload hx hb dc_Co_search_12 (lv_at hl 1 rfl) ?_
  refine lv_iload hx hb dc_Co_search_14 (lv_at hl 0 rfl) ?_
  refine lv_icmp_ge (tgt := 100) hx hb dc_Co_search_16 (by decide) (fun h16 => ?_) (fun h16 => ?_)
  · have hw := hw.1 h16
    refine lv_iload hx hb dc_Co_search_100 (lv_at hl 1 rfl) ?_
    refine lv_iconst (v := (-1)) hx hb dc_Co_search_102 (by decide) ?_
    refine lv_ixor hx hb dc_Co_search_103 ?_
    refine lv_topi (fun y4 ey4 => ?_)
    have hw := hw y4 ey4
    refine W.widen (k := 0) (n := 0) (Nat.le_of_ble_eq_true rfl) (Nat.le_of_ble_eq_true rfl) ?_
    exact W.iret (v := y4) hx hb hr (fun t ht hW => ⟨⟨y4, (), rfl, hw, by rw [ht]; exact hP, va_K.moved hW.alike hK, hD⟩, hS.F ht⟩) hS.2.2 dc_Co_search_104
  · have hw := hw.2 h16
    refine lv_iload hx hb dc_Co_search_19 (lv_at hl 1 rfl) ?_
    refine lv_iload hx hb dc_Co_search_21 (lv_at hl 0 rfl) ?_
    refine lv_iadd hx hb dc_Co_search_23 ?_
    refine lv_topi (fun y5 ey5 => ?_)
    have hw := hw y5 ey5
    refine lv_iconst (v := 1) hx hb dc_Co_search_24 (by decide) ?_
    refine lv_iushr (v := (y5.toUInt32 >>> ((1 : Int32).toUInt32 &&& Int32.toUInt32 31)).toInt32) hx hb dc_Co_search_25 rfl ?_
    refine lv_topi (fun y6 ey6 => ?_)
    have hw := hw y6 ey6
    refine lv_istore (lv' := [(7, .int y6), (6, .int v2), (5, .int v3), (0, .ref h0), (1, .ref a0), (2, .int a1), (3, .int a2), (4, .int a3)]) hx hb dc_Co_search_26 hl (by decide) rfl (fun ls hl => ?_)
    refine lv_aload_n hx hb dc_Co_search_28 rfl (lv_at hl 3 rfl) ?_
    refine va_get (D := (dC, dI)) (ci := 2) (v := .ref names_) (C := "StrataBase$Constants") (T := tb_Co) (N := 4) hx hb hT in_Co hown hK hP 0 rfl rfl 0 (by decide) (hT _ wd_132) (fun _ h9 => h9) rfl dc_Co_search_29 ?_
    refine lv_aload_n hx hb dc_Co_search_32 rfl (lv_at hl 3 rfl) ?_
    refine va_get (D := (dC, dI)) (ci := 2) (v := .ref byRank_) (C := "StrataBase$Constants") (T := tb_Co) (N := 4) hx hb hT in_Co hown hK hP 0 rfl rfl 2 (by decide) (hT _ wd_134) (fun _ h9 => h9) rfl dc_Co_search_33 ?_
    refine lv_iload hx hb dc_Co_search_36 (lv_at hl 0 rfl) ?_
    obtain ⟨hv7, hw⟩ := hw
    refine va_iald hx hb hK hP 6 4 rfl rfl hv7 dc_Co_search_38 ?_
    refine lv_topi (fun y8 ey8 => ?_)
    have hw := hw y8 ey8
    refine lv_aload_n hx hb dc_Co_search_39 rfl (lv_at hl 4 rfl) ?_
    refine lv_iload_n hx hb dc_Co_search_40 rfl (lv_at hl 5 rfl) ?_
    refine lv_iload_n hx hb dc_Co_search_41 rfl (lv_at hl 6 rfl) ?_
    have hPc := hP.sub (ws' := [(names_, .inr (6, [.int names_size_, .ref names_starts_, .ref names_lengths_, .ref names_text_, .int names_used_])), (names_starts_, .inl (k_names_starts, n_names_starts, .inl F_names_starts)), (names_lengths_, .inl (k_names_lengths, n_names_lengths, .inl F_names_lengths)), (names_text_, .inl (k_names_text, n_names_text, .inl F_names_text)), (a0, .inl (k_a0, n_a0, .inl F_a0))]) [1, 2, 3, 4, 7] rfl
    have hDc := hD.sub (ws' := [(names_, .inr (6, [.int names_size_, .ref names_starts_, .ref names_lengths_, .ref names_text_, .int names_used_])), (names_starts_, .inl (k_names_starts, n_names_starts, .inl F_names_starts)), (names_lengths_, .inl (k_names_lengths, n_names_lengths, .inl F_names_lengths)), (names_text_, .inl (k_names_text, n_names_text, .inl F_names_text)), (a0, .inl (k_a0, n_a0, .inl F_a0))]) [1, 2, 3, 4, 7] (by decide) rfl
    have hKc := hK.sub (tys' := [(k_names_starts, .int), (k_names_lengths, .int), (k_names_text, .byte), (k_a0, .byte)]) [0, 1, 2, 5] rfl
    have hFc := va_free (wc := [(names_, .inr (6, [.int names_size_, .ref names_starts_, .ref names_lengths_, .ref names_text_, .int names_used_])), (names_starts_, .inl (k_names_starts, n_names_starts, .inl F_names_starts)), (names_lengths_, .inl (k_names_lengths, n_names_lengths, .inl F_names_lengths)), (names_text_, .inl (k_names_text, n_names_text, .inl F_names_text)), (a0, .inl (k_a0, n_a0, .inl F_a0))]) hD hS hA [1, 2, 3, 4, 7] rfl
    refine va_calli (va_runV (As := [.int y8, .ref a0, .int a1, .int a2]) (rest := []) ⟨hx, hb, hml, hown, hT⟩ (met_Na_compare l dC dI n_names_starts n_names_lengths n_names_text n_a0 names_ names_starts_ names_lengths_ names_text_ a0 y8 a1 a2 names_size_ names_used_ F_names_starts F_names_lengths F_names_text F_a0 k_names_starts k_names_lengths k_names_text k_a0 H.size hw) (cwV 4 hT (gd_V wd_680 wd_681 wd_682 wd_4 wd_683) rfl rfl rfl (by decide +kernel) ⟨Nat.le_of_ble_eq_true rfl, Nat.le_of_ble_eq_true rfl⟩) ⟨fun a U g mk q => by obtain ⟨q0, q1, qP, qK, qD⟩ := q; exact ⟨q0, q1, qP, va_K.moved (u := U) (U := U.calling g mk a) (Vm.Alike.refl U.vm) qK, qD⟩, va_recv hK hP (q0 := 1) (ci := 6) rfl rfl, fun U hU hW => ⟨rfl, by rw [hU], by rw [hU]; exact hPc, va_K.moved hW.alike hKc, hDc.weaken (fun _ _ _ _ => trivial)⟩⟩ rfl rfl hl.1 rfl (lv_room (Nat.le_of_ble_eq_true rfl)) dc_Co_search_42 ⟨(Nat.le_of_ble_eq_true rfl), (Nat.le_of_ble_eq_true rfl)⟩) hS (fun q _ h => hFc q h) hFc (fun r9 _ t H1 locs ht hvm hw hB hz1 hk1 hS => ?_)
    obtain ⟨hP1, hK1, hD1⟩ := hB
    rw [ht] at hP1
    have hK1 := va_K.moved hvm.symm hK1
    obtain ⟨hP, hD⟩ := va_join (wr := [(h0, .inr (2, [.ref names_, .ref values_, .ref byRank_, .ref ranks_])), (values_, .inl (k_values, n_values, .inl F_values)), (byRank_, .inl (k_byRank, n_byRank, .inl F_byRank))]) (w1 := [(names_, .inr (6, [.int names_size_, .ref names_starts_, .ref names_lengths_, .ref names_text_, .int names_used_])), (names_starts_, .inl (k_names_starts, n_names_starts, .inl F_names_starts)), (names_lengths_, .inl (k_names_lengths, n_names_lengths, .inl F_names_lengths)), (names_text_, .inl (k_names_text, n_names_text, .inl F_names_text)), (a0, .inl (k_a0, n_a0, .inl F_a0))]) hP hD [1, 2, 3, 4, 7] [0, 5, 6] rfl rfl (by decide) (by decide) hk1 hFc hP1 hD1
    have hK := (hK.sub (tys' := [(k_values, .int), (k_byRank, .int)]) [3, 4] rfl).app hK1
    generalize H1 = H at hP hS ⊢
    have hP : va_P (dC, dI) vwCl [(h0, .inr (2, [.ref names_, .ref values_, .ref byRank_, .ref ranks_])), (values_, .inl (k_values, n_values, .inl F_values)), (byRank_, .inl (k_byRank, n_byRank, .inl F_byRank)), (names_, .inr (6, [.int names_size_, .ref names_starts_, .ref names_lengths_, .ref names_text_, .int names_used_])), (names_starts_, .inl (k_names_starts, n_names_starts, .inl F_names_starts)), (names_lengths_, .inl (k_names_lengths, n_names_lengths, .inl F_names_lengths)), (names_text_, .inl (k_names_text, n_names_text, .inl F_names_text)), (a0, .inl (k_a0, n_a0, .inl F_a0))] H := hP
    have hD : va_D A [(h0, .inr (2, [.ref names_, .ref values_, .ref byRank_, .ref ranks_])), (values_, .inl (k_values, n_values, .inl F_values)), (byRank_, .inl (k_byRank, n_byRank, .inl F_byRank)), (names_, .inr (6, [.int names_size_, .ref names_starts_, .ref names_lengths_, .ref names_text_, .int names_used_])), (names_starts_, .inl (k_names_starts, n_names_starts, .inl F_names_starts)), (names_lengths_, .inl (k_names_lengths, n_names_lengths, .inl F_names_lengths)), (names_text_, .inl (k_names_text, n_names_text, .inl F_names_text)), (a0, .inl (k_a0, n_a0, .inl F_a0))] := hD
    have hK : va_K (dC, dI) vwCl [(k_values, .int), (k_byRank, .int), (k_names_starts, .int), (k_names_lengths, .int), (k_names_text, .byte), (k_a0, .byte)] s := hK
    refine lv_istore (lv' := [(8, .int r9), (7, .int y6), (6, .int v2), (5, .int v3), (0, .ref h0), (1, .ref a0), (2, .int a1), (3, .int a2), (4, .int a3)]) hx hb dc_Co_search_45 hl (by decide) rfl (fun ls hl => ?_)
    refine lv_iload hx hb dc_Co_search_47 (lv_at hl 0 rfl) ?_
    refine jn_st (σ := Int32) (pc2 := 71) (fun x9 => jw_met_Co_search_71 post (fun x9 => lw_met_Co_search_12 post n_byRank F_byRank n_values F_values a3 n_names_starts n_names_lengths n_names_text n_a0 a1 a2 F_names_starts F_names_lengths F_names_text F_a0 n1_ x9) y6 v3 v2 x9) (fun x9 => match x9 with | v16 => []) (fun x9 H locs ls => match x9 with | v16 => va_K (dC, dI) vwCl [(k_names_starts, .int), (k_names_lengths, .int), (k_names_text, .byte), (k_values, .int), (k_byRank, .int), (k_a0, .byte)] s ∧ va_P (dC, dI) vwCl [(h0, .inr (2, [.ref names_, .ref values_, .ref byRank_, .ref ranks_])), (names_, .inr (6, [.int names_size_, .ref names_starts_, .ref names_lengths_, .ref names_text_, .int names_used_])), (names_starts_, .inl (k_names_starts, n_names_starts, .inl F_names_starts)), (names_lengths_, .inl (k_names_lengths, n_names_lengths, .inl F_names_lengths)), (names_text_, .inl (k_names_text, n_names_text, .inl F_names_text)), (values_, .inl (k_values, n_values, .inl F_values)), (byRank_, .inl (k_byRank, n_byRank, .inl F_byRank)), (a0, .inl (k_a0, n_a0, .inl F_a0))] H ∧ va_D A [(h0, .inr (2, [.ref names_, .ref values_, .ref byRank_, .ref ranks_])), (names_, .inr (6, [.int names_size_, .ref names_starts_, .ref names_lengths_, .ref names_text_, .int names_used_])), (names_starts_, .inl (k_names_starts, n_names_starts, .inl F_names_starts)), (names_lengths_, .inl (k_names_lengths, n_names_lengths, .inl F_names_lengths)), (names_text_, .inl (k_names_text, n_names_text, .inl F_names_text)), (values_, .inl (k_values, n_values, .inl F_values)), (byRank_, .inl (k_byRank, n_byRank, .inl F_byRank)), (a0, .inl (k_a0, n_a0, .inl F_a0))] ∧ va_S A s.heap H locs ∧ lv_has ls 9 [(0, .ref h0), (1, .ref a0), (2, .int a1), (3, .int a2), (4, .int a3), (5, .int v3), (6, .int v2), (7, .int y6), (8, .int v16)]) ?_ (fun k10 => ?_)
    rotate_left
    · refine lv_if_ne (tgt := 71) hx hb dc_Co_search_49 (by decide) (fun h49 => ?_) (fun h49 => ?_)
      · have hw := hw.2 h49
        exact k10 r9 hw _ _ _ ⟨hK.sub [2, 3, 4, 0, 1, 5] rfl, hP.sub [0, 3, 4, 5, 6, 1, 2, 7] rfl, hD.sub [0, 3, 4, 5, 6, 1, 2, 7] (by decide) rfl, hS, lv_sub hl [4, 5, 6, 7, 8, 3, 2, 1, 0] rfl⟩
      · have hw := hw.1 h49
        refine lv_aload_n hx hb dc_Co_search_52 rfl (lv_at hl 4 rfl) ?_
        refine va_get (D := (dC, dI)) (ci := 2) (v := .ref values_) (C := "StrataBase$Constants") (T := tb_Co) (N := 4) hx hb hT in_Co hown hK hP 0 rfl rfl 1 (by decide) (hT _ wd_133) (fun _ h9 => h9) rfl dc_Co_search_53 ?_
        refine lv_aload_n hx hb dc_Co_search_56 rfl (lv_at hl 4 rfl) ?_
        refine va_get (D := (dC, dI)) (ci := 2) (v := .ref byRank_) (C := "StrataBase$Constants") (T := tb_Co) (N := 4) hx hb hT in_Co hown hK hP 0 rfl rfl 2 (by decide) (hT _ wd_134) (fun _ h9 => h9) rfl dc_Co_search_57 ?_
        refine lv_iload hx hb dc_Co_search_60 (lv_at hl 1 rfl) ?_
        obtain ⟨hv11, hw⟩ := hw
        refine va_iald hx hb hK hP 2 1 rfl rfl hv11 dc_Co_search_62 ?_
        refine lv_topi (fun y12 ey12 => ?_)
        have hw := hw y12 ey12
        obtain ⟨hv13, hw⟩ := hw
        refine va_iald hx hb hK hP 1 0 rfl rfl hv13 dc_Co_search_63 ?_
        refine lv_topi (fun y14 ey14 => ?_)
        have hw := hw y14 ey14
        refine lv_iload hx hb dc_Co_search_64 (lv_at hl 8 rfl) ?_
        have hPc := hP.sub (ws' := []) [] rfl
        have hDc := hD.sub (ws' := []) [] (by decide) rfl
        have hKc := hK.sub (tys' := []) [] rfl
        have hFc := va_free (wc := []) hD hS hA [] rfl
        refine va_calli (va_runS (As := [.int y14, .int a3]) (rest := []) ⟨hx, hb, hml, hown, hT⟩ (met_In_compare l dC dI y14 a3 H.size hw) (va_cwS 2 hT (gd_S wd_684 wd_685 wd_21 wd_686) rfl rfl rfl (by decide +kernel) ⟨Nat.le_of_ble_eq_true rfl, Nat.le_of_ble_eq_true rfl⟩) ⟨fun a U g mk q => by obtain ⟨q0, q1, qP, qK, qD⟩ := q; exact ⟨q0, q1, qP, va_K.moved (u := U) (U := U.calling g mk a) (Vm.Alike.refl U.vm) qK, qD⟩, fun U hU hW => ⟨rfl, by rw [hU], by rw [hU]; exact hPc, va_K.moved hW.alike hKc, hDc.weaken (fun _ _ _ _ => trivial)⟩⟩ rfl rfl hl.1 rfl (lv_room (Nat.le_of_ble_eq_true rfl)) dc_Co_search_66 ⟨(Nat.le_of_ble_eq_true rfl), (Nat.le_of_ble_eq_true rfl)⟩) hS (fun q _ h => hFc q h) hFc (fun r15 _ t H1 locs ht hvm hw hB hz1 hk1 hS => ?_)
        obtain ⟨hP1, hK1, hD1⟩ := hB
        rw [ht] at hP1
        have hK1 := va_K.moved hvm.symm hK1
        obtain ⟨hP, hD⟩ := va_join (wr := [(h0, .inr (2, [.ref names_, .ref values_, .ref byRank_, .ref ranks_])), (values_, .inl (k_values, n_values, .inl F_values)), (byRank_, .inl (k_byRank, n_byRank, .inl F_byRank)), (names_, .inr (6, [.int names_size_, .ref names_starts_, .ref names_lengths_, .ref names_text_, .int names_used_])), (names_starts_, .inl (k_names_starts, n_names_starts, .inl F_names_starts)), (names_lengths_, .inl (k_names_lengths, n_names_lengths, .inl F_names_lengths)), (names_text_, .inl (k_names_text, n_names_text, .inl F_names_text)), (a0, .inl (k_a0, n_a0, .inl F_a0))]) (w1 := []) hP hD [] [0, 1, 2, 3, 4, 5, 6, 7] rfl rfl (by decide) (by decide) hk1 hFc hP1 hD1
        have hK := (hK.sub (tys' := [(k_values, .int), (k_byRank, .int), (k_names_starts, .int), (k_names_lengths, .int), (k_names_text, .byte), (k_a0, .byte)]) [0, 1, 2, 3, 4, 5] rfl).app hK1
        generalize H1 = H at hP hS ⊢
        have hP : va_P (dC, dI) vwCl [(h0, .inr (2, [.ref names_, .ref values_, .ref byRank_, .ref ranks_])), (values_, .inl (k_values, n_values, .inl F_values)), (byRank_, .inl (k_byRank, n_byRank, .inl F_byRank)), (names_, .inr (6, [.int names_size_, .ref names_starts_, .ref names_lengths_, .ref names_text_, .int names_used_])), (names_starts_, .inl (k_names_starts, n_names_starts, .inl F_names_starts)), (names_lengths_, .inl (k_names_lengths, n_names_lengths, .inl F_names_lengths)), (names_text_, .inl (k_names_text, n_names_text, .inl F_names_text)), (a0, .inl (k_a0, n_a0, .inl F_a0))] H := hP
        have hD : va_D A [(h0, .inr (2, [.ref names_, .ref values_, .ref byRank_, .ref ranks_])), (values_, .inl (k_values, n_values, .inl F_values)), (byRank_, .inl (k_byRank, n_byRank, .inl F_byRank)), (names_, .inr (6, [.int names_size_, .ref names_starts_, .ref names_lengths_, .ref names_text_, .int names_used_])), (names_starts_, .inl (k_names_starts, n_names_starts, .inl F_names_starts)), (names_lengths_, .inl (k_names_lengths, n_names_lengths, .inl F_names_lengths)), (names_text_, .inl (k_names_text, n_names_text, .inl F_names_text)), (a0, .inl (k_a0, n_a0, .inl F_a0))] := hD
        have hK : va_K (dC, dI) vwCl [(k_values, .int), (k_byRank, .int), (k_names_starts, .int), (k_names_lengths, .int), (k_names_text, .byte), (k_a0, .byte)] s := hK
        refine lv_istore (lv' := [(8, .int r15), (7, .int y6), (6, .int v2), (5, .int v3), (0, .ref h0), (1, .ref a0), (2, .int a1), (3, .int a2), (4, .int a3)]) hx hb dc_Co_search_69 hl (by decide) rfl (fun ls hl => ?_)
        exact k10 r15 hw _ _ _ ⟨hK.sub [2, 3, 4, 0, 1, 5] rfl, hP.sub [0, 3, 4, 5, 6, 1, 2, 7] rfl, hD.sub [0, 3, 4, 5, 6, 1, 2, 7] (by decide) rfl, hS, lv_sub hl [4, 5, 6, 7, 8, 3, 2, 1, 0] rfl⟩
    intro x9 hw H locs ls hI
    obtain ⟨v16, rfl⟩ : ∃ z9, z9 = x9 := ⟨_, rfl⟩
    obtain ⟨hK, hP, hD, hS, hl⟩ := hI
    unfold jw_met_Co_search_71 at hw
    refine W.eq (g2 := F0 m 71 ls []) rfl ?_
    refine lv_iload hx hb dc_Co_search_71 (lv_at hl 8 rfl) ?_
    refine lv_if_ne (tgt := 79) hx hb dc_Co_search_73 (by decide) (fun h73 => ?_) (fun h73 => ?_)
    · have hw := hw.2 h73
      refine lv_iload hx hb dc_Co_search_79 (lv_at hl 8 rfl) ?_
      refine lv_if_ge (tgt := 93) hx hb dc_Co_search_81 (by decide) (fun h81 => ?_) (fun h81 => ?_)
      · have hw := hw.1 h81
        refine lv_iload hx hb dc_Co_search_93 (lv_at hl 7 rfl) ?_
        refine lv_istore (lv' := [(6, .int y6), (0, .ref h0), (1, .ref a0), (2, .int a1), (3, .int a2), (4, .int a3), (5, .int v3), (7, .int y6), (8, .int v16)]) hx hb dc_Co_search_95 hl (by decide) rfl (fun ls hl => ?_)
        refine lv_goto (tgt := 12) hx hb dc_Co_search_97 (by decide) ?_
        exact ih1 (y6, v3) hw _ _ _ ⟨hK.sub [0, 1, 2, 3, 4, 5] rfl, hP.sub [0, 1, 2, 3, 4, 5, 6, 7] rfl, hD.sub [0, 1, 2, 3, 4, 5, 6, 7] (by decide) rfl, hS, lv_sub hl [0, 6, 1, 2, 3, 4, 5] rfl⟩
      · have hw := hw.2 h81
        refine lv_iload hx hb dc_Co_search_84 (lv_at hl 7 rfl) ?_
        refine lv_iconst (v := 1) hx hb dc_Co_search_86 (by decide) ?_
        refine lv_iadd hx hb dc_Co_search_87 ?_
        refine lv_topi (fun y17 ey17 => ?_)
        have hw := hw y17 ey17
        refine lv_istore (lv' := [(5, .int y17), (0, .ref h0), (1, .ref a0), (2, .int a1), (3, .int a2), (4, .int a3), (6, .int v2), (7, .int y6), (8, .int v16)]) hx hb dc_Co_search_88 hl (by decide) rfl (fun ls hl => ?_)
        refine lv_goto (tgt := 97) hx hb dc_Co_search_90 (by decide) ?_
        refine lv_goto (tgt := 12) hx hb dc_Co_search_97 (by decide) ?_
        exact ih1 (v2, y17) hw _ _ _ ⟨hK.sub [0, 1, 2, 3, 4, 5] rfl, hP.sub [0, 1, 2, 3, 4, 5, 6, 7] rfl, hD.sub [0, 1, 2, 3, 4, 5, 6, 7] (by decide) rfl, hS, lv_sub hl [6, 0, 1, 2, 3, 4, 5] rfl⟩
    · have hw := hw.1 h73
      refine lv_iload hx hb dc_Co_search_76 (lv_at hl 7 rfl) ?_
      refine W.widen (k := 0) (n := 0) (Nat.le_of_ble_eq_true rfl) (Nat.le_of_ble_eq_true rfl) ?_
      exact W.iret (v := y6) hx hb hr (fun t ht hW => ⟨⟨y6, (), rfl, hw, by rw [ht]; exact hP, va_K.moved hW.alike hK, hD⟩, hS.F ht⟩) hS.2.2 dc_Co_search_78

def wp_met_Co_intern (post : Int32 → (Int32 × Int32 × (Nat → Int32) × (Nat → Int32) × Nat × ClassId × Nat × (Nat → Int32) × (Nat → Int32) × (Nat → Int32) × Nat × Nat) → Prop) (mc : Nat) (ms : Nat) (n_names_starts : Nat) (n_names_lengths : Nat) (n_names_text : Nat) (n_values : Nat) (n_byRank : Nat) (n_a0 : Nat) (names_text_ : Nat) (a1 : Int32) (a2 : Int32) (a3 : Int32) (names_size_ : Int32) (names_used_ : Int32) (F_names_starts : Nat → Int32) (F_names_lengths : Nat → Int32) (F_names_text : Nat → Int32) (F_values : Nat → Int32) (F_byRank : Nat → Int32) (F_a0 : Nat → Int32) (k_names_text : ClassId) : Prop := wp_met_Co_search (fun (r1 : Int32) (_ : Unit) => (((r1 < 0 → (∃ (c2 s3 : Nat), (0 + c2 ≤ mc) ∧ (0 + s3 ≤ ms) ∧ (wp_met_Na_add (fun (r14 : Int32) (u9 : Int32 × Int32 × (Nat → Int32) × (Nat → Int32) × Nat × ClassId × Nat × (Nat → Int32) × Nat × Nat) => match u9 with | (o4, o5, o6, o7, o8, o9, o10, o11, o12, o13) => (((r14 = ((-1) : Int32) → (post r14 (o4, o5, o6, o7, o8, o9, o10, o11, F_values, F_byRank, (0 + o12), (0 + o13)))) ∧ (¬ (r14 = ((-1) : Int32)) → (vp_in r14 n_values ∧ (∀ g16 : Nat → Int32, g16 = upd F_values r14.toNatClampNeg a3 → (∀ y17 : Int32, y17 = r1 ^^^ (-1 : Int32) → (∀ y18 : Int32, y18 = r1 ^^^ (-1 : Int32) → (∀ y19 : Int32, y19 = y18 + (1 : Int32) → (∀ y20 : Int32, y20 = r1 ^^^ (-1 : Int32) → (∀ y21 : Int32, y21 = r14 - y20 → ((¬ y17 < 0) ∧ (¬ y19 < 0) ∧ (¬ y21 < 0) ∧ (y17.toNatClampNeg + y21.toNatClampNeg ≤ n_byRank) ∧ (y19.toNatClampNeg + y21.toNatClampNeg ≤ n_byRank) ∧ (∀ g22 : Nat → Int32, g22 = va_cpy F_byRank F_byRank y17.toNatClampNeg y19.toNatClampNeg y21.toNatClampNeg → (∀ y23 : Int32, y23 = r1 ^^^ (-1 : Int32) → (vp_in y23 n_byRank ∧ (∀ g25 : Nat → Int32, g25 = upd g22 y23.toNatClampNeg r14 → (post r14 (o4, o5, o6, o7, o8, o9, o10, o11, g16, g25, (0 + o12), (0 + o13))))))))))))))))))) c2 s3 n_names_starts n_names_lengths n_names_text n_a0 names_text_ a1 a2 names_size_ names_used_ F_names_starts F_names_lengths F_names_text F_a0 k_names_text))) ∧ (¬ (r1 < 0) → (vp_in r1 n_byRank ∧ (∀ y27 : Int32, y27 = F_byRank r1.toNatClampNeg → (post y27 (names_size_, names_used_, F_names_starts, F_names_lengths, names_text_, k_names_text, n_names_text, F_names_text, F_values, F_byRank, 0, 0)))))))) n_names_starts n_names_lengths n_names_text n_values n_byRank n_a0 a1 a2 a3 names_size_ F_names_starts F_names_lengths F_names_text F_values F_byRank F_a0
set_option maxHeartbeats 4000000 in
set_option maxRecDepth 100000 in
theorem met_Co_intern (l : Launch) (dC : Nat → ClassId) (dI : Nat → Nat → Nat) (mc : Nat) (ms : Nat) (n_names_starts : Nat) (n_names_lengths : Nat) (n_names_text : Nat) (n_values : Nat) (n_byRank : Nat) (n_a0 : Nat) (h0 : Nat) (names_ : Nat) (values_ : Nat) (byRank_ : Nat) (ranks_ : Nat) (names_starts_ : Nat) (names_lengths_ : Nat) (names_text_ : Nat) (a0 : Nat) (a1 : Int32) (a2 : Int32) (a3 : Int32) (names_size_ : Int32) (names_used_ : Int32) (F_names_starts : Nat → Int32) (F_names_lengths : Nat → Int32) (F_names_text : Nat → Int32) (F_values : Nat → Int32) (F_byRank : Nat → Int32) (F_a0 : Nat → Int32) (k_names_starts : ClassId) (k_names_lengths : ClassId) (k_names_text : ClassId) (k_values : ClassId) (k_byRank : ClassId) (k_a0 : ClassId) (sz : Nat) (hu : Nat) {post : Int32 → (Int32 × Int32 × (Nat → Int32) × (Nat → Int32) × Nat × ClassId × Nat × (Nat → Int32) × (Nat → Int32) × (Nat → Int32) × Nat × Nat) → Prop} (hw : wp_met_Co_intern post mc ms n_names_starts n_names_lengths n_names_text n_values n_byRank n_a0 names_text_ a1 a2 a3 names_size_ names_used_ F_names_starts F_names_lengths F_names_text F_values F_byRank F_a0 k_names_text) : Met l my_Co_intern (Cond.code my_Co_intern cd_Co_intern 7 (some (.int)) :: tblG) ({ frames := 3, cells := mc, slots := ms, locals := 85 }) (va_Pc [.ref h0, .ref a0, .int a1, .int a2, .int a3] (fun U => U.heap.size = sz ∧ hsm U.heap = hu ∧ va_P (dC, dI) vwCl [(h0, .inr (2, [.ref names_, .ref values_, .ref byRank_, .ref ranks_])), (names_, .inr (6, [.int names_size_, .ref names_starts_, .ref names_lengths_, .ref names_text_, .int names_used_])), (names_starts_, .inl (k_names_starts, n_names_starts, .inl F_names_starts)), (names_lengths_, .inl (k_names_lengths, n_names_lengths, .inl F_names_lengths)), (names_text_, .inl (k_names_text, n_names_text, .inl F_names_text)), (values_, .inl (k_values, n_values, .inl F_values)), (byRank_, .inl (k_byRank, n_byRank, .inl F_byRank)), (a0, .inl (k_a0, n_a0, .inl F_a0))] U.heap ∧ va_K (dC, dI) vwCl [(k_names_starts, .int), (k_names_lengths, .int), (k_names_text, .byte), (k_values, .int), (k_byRank, .int), (k_a0, .byte)] U ∧ va_D (fun _ => True) [(h0, .inr (2, [.ref names_, .ref values_, .ref byRank_, .ref ranks_])), (names_, .inr (6, [.int names_size_, .ref names_starts_, .ref names_lengths_, .ref names_text_, .int names_used_])), (names_starts_, .inl (k_names_starts, n_names_starts, .inl F_names_starts)), (names_lengths_, .inl (k_names_lengths, n_names_lengths, .inl F_names_lengths)), (names_text_, .inl (k_names_text, n_names_text, .inl F_names_text)), (values_, .inl (k_values, n_values, .inl F_values)), (byRank_, .inl (k_byRank, n_byRank, .inl F_byRank)), (a0, .inl (k_a0, n_a0, .inl F_a0))])) (va_Qi post (fun (u : Int32 × Int32 × (Nat → Int32) × (Nat → Int32) × Nat × ClassId × Nat × (Nat → Int32) × (Nat → Int32) × (Nat → Int32) × Nat × Nat) (t : State) => match u with | (o0, o1, o2, o3, o4, o5, o6, o7, o8, o9, o10, o11) => va_P (dC, dI) vwCl [(h0, .inr (2, [.ref names_, .ref values_, .ref byRank_, .ref ranks_])), (names_, .inr (6, [.int o0, .ref names_starts_, .ref names_lengths_, .ref o4, .int o1])), (names_starts_, .inl (k_names_starts, n_names_starts, .inl o2)), (names_lengths_, .inl (k_names_lengths, n_names_lengths, .inl o3)), (o4, .inl (o5, o6, .inl o7)), (values_, .inl (k_values, n_values, .inl o8)), (byRank_, .inl (k_byRank, n_byRank, .inl o9)), (a0, .inl (k_a0, n_a0, .inl F_a0))] t.heap ∧ va_K (dC, dI) vwCl [(k_names_starts, .int), (k_names_lengths, .int), (o5, .byte), (k_values, .int), (k_byRank, .int), (k_a0, .byte)] t ∧ va_D (va_A [(h0, .inr (2, [.ref names_, .ref values_, .ref byRank_, .ref ranks_])), (names_, .inr (6, [.int names_size_, .ref names_starts_, .ref names_lengths_, .ref names_text_, .int names_used_])), (names_starts_, .inl (k_names_starts, n_names_starts, .inl F_names_starts)), (names_lengths_, .inl (k_names_lengths, n_names_lengths, .inl F_names_lengths)), (names_text_, .inl (k_names_text, n_names_text, .inl F_names_text)), (values_, .inl (k_values, n_values, .inl F_values)), (byRank_, .inl (k_byRank, n_byRank, .inl F_byRank)), (a0, .inl (k_a0, n_a0, .inl F_a0))] sz) [(h0, .inr (2, [.ref names_, .ref values_, .ref byRank_, .ref ranks_])), (names_, .inr (6, [.int o0, .ref names_starts_, .ref names_lengths_, .ref o4, .int o1])), (names_starts_, .inl (k_names_starts, n_names_starts, .inl o2)), (names_lengths_, .inl (k_names_lengths, n_names_lengths, .inl o3)), (o4, .inl (o5, o6, .inl o7)), (values_, .inl (k_values, n_values, .inl o8)), (byRank_, .inl (k_byRank, n_byRank, .inl o9)), (a0, .inl (k_a0, n_a0, .inl F_a0))] ∧ t.heap.size ≤ sz + o10 ∧ hsm t.heap ≤ hu + o11 ∧ o10 ≤ mc ∧ o11 ≤ ms) (va_A [(h0, .inr (2, [.ref names_, .ref values_, .ref byRank_, .ref ranks_])), (names_, .inr (6, [.int names_size_, .ref names_starts_, .ref names_lengths_, .ref names_text_, .int names_used_])), (names_starts_, .inl (k_names_starts, n_names_starts, .inl F_names_starts)), (names_lengths_, .inl (k_names_lengths, n_names_lengths, .inl F_names_lengths)), (names_text_, .inl (k_names_text, n_names_text, .inl F_names_text)), (values_, .inl (k_values, n_values, .inl F_values)), (byRank_, .inl (k_byRank, n_byRank, .inl F_byRank)), (a0, .inl (k_a0, n_a0, .inl F_a0))] sz)) mc ms (va_A [(h0, .inr (2, [.ref names_, .ref values_, .ref byRank_, .ref ranks_])), (names_, .inr (6, [.int names_size_, .ref names_starts_, .ref names_lengths_, .ref names_text_, .int names_used_])), (names_starts_, .inl (k_names_starts, n_names_starts, .inl F_names_starts)), (names_lengths_, .inl (k_names_lengths, n_names_lengths, .inl F_names_lengths)), (names_text_, .inl (k_names_text, n_names_text, .inl F_names_text)), (values_, .inl (k_values, n_values, .inl F_values)), (byRank_, .inl (k_byRank, n_byRank, .inl F_byRank)), (a0, .inl (k_a0, n_a0, .inl F_a0))] sz) := by
  refine Met.ofW (cc := cd_Co_intern) (maxL := 7) (ret := (some (.int))) (by decide) rfl ?_
  intro p e s m args below meth c s₁ B hml hv
  obtain ⟨rfl, hsz, hhu, hP, hK, hD0⟩ := hv
  have hx := B.exec
  have hb := B.bytes
  have hr := B.returns
  have hT : ∀ w ∈ tblG, w.before _ s = true := fun w h => atoms_spec (ws := (Cond.code my_Co_intern cd_Co_intern 7 (some (.int)) :: tblG)) B.pre w (List.mem_cons_of_mem _ h)
  have hown : s.vm.findClass "StrataBase$Constants" = some m.cls := findClass_of_methodNamed B.named
  have hlocks := B.notSynchronized
  subst hsz
  subst hhu
  have hD := hD0.self (sz := s.heap.size)
  generalize hAe : va_A [(h0, .inr (2, [.ref names_, .ref values_, .ref byRank_, .ref ranks_])), (names_, .inr (6, [.int names_size_, .ref names_starts_, .ref names_lengths_, .ref names_text_, .int names_used_])), (names_starts_, .inl (k_names_starts, n_names_starts, .inl F_names_starts)), (names_lengths_, .inl (k_names_lengths, n_names_lengths, .inl F_names_lengths)), (names_text_, .inl (k_names_text, n_names_text, .inl F_names_text)), (values_, .inl (k_values, n_values, .inl F_values)), (byRank_, .inl (k_byRank, n_byRank, .inl F_byRank)), (a0, .inl (k_a0, n_a0, .inl F_a0))] s.heap.size = A at hD ⊢
  have hA : ∀ q : Nat, s.heap.size ≤ q → A q := fun q h => by rw [← hAe]; exact Or.inr h
  have hS : va_S A s.heap s.heap [] := va_S.rf
  have hl := lv_entry ([.ref h0, .ref a0, .int a1, .int a2, .int a3]) (n := 7) (Nat.le_of_ble_eq_true rfl)
  rw [lg_entry_eq]
  generalize (lg_sl ([.ref h0, .ref a0, .int a1, .int a2, .int a3]) ++ List.replicate (7 - (lg_sl ([.ref h0, .ref a0, .int a1, .int a2, .int a3])).length) Slot.unset).toArray = ls at hl ⊢
  have hl : lv_has ls 7 [(0, .ref h0), (1, .ref a0), (2, .int a1), (3, .int a2), (4, .int a3)] := hl
  unfold wp_met_Co_intern at hw
  have hkc := Nat.zero_le mc
  have hks := Nat.zero_le ms
  refine lv_aload_n hx hb dc_Co_intern_0 rfl (lv_at hl 0 rfl) ?_
  refine lv_aload_n hx hb dc_Co_intern_1 rfl (lv_at hl 1 rfl) ?_
  refine lv_iload_n hx hb dc_Co_intern_2 rfl (lv_at hl 2 rfl) ?_
  refine lv_iload_n hx hb dc_Co_intern_3 rfl (lv_at hl 3 rfl) ?_
  refine lv_iload hx hb dc_Co_intern_4 (lv_at hl 4 rfl) ?_
  have hPc := hP.sub (ws' := [(h0, .inr (2, [.ref names_, .ref values_, .ref byRank_, .ref ranks_])), (names_, .inr (6, [.int names_size_, .ref names_starts_, .ref names_lengths_, .ref names_text_, .int names_used_])), (names_starts_, .inl (k_names_starts, n_names_starts, .inl F_names_starts)), (names_lengths_, .inl (k_names_lengths, n_names_lengths, .inl F_names_lengths)), (names_text_, .inl (k_names_text, n_names_text, .inl F_names_text)), (values_, .inl (k_values, n_values, .inl F_values)), (byRank_, .inl (k_byRank, n_byRank, .inl F_byRank)), (a0, .inl (k_a0, n_a0, .inl F_a0))]) [0, 1, 2, 3, 4, 5, 6, 7] rfl
  have hDc := hD.sub (ws' := [(h0, .inr (2, [.ref names_, .ref values_, .ref byRank_, .ref ranks_])), (names_, .inr (6, [.int names_size_, .ref names_starts_, .ref names_lengths_, .ref names_text_, .int names_used_])), (names_starts_, .inl (k_names_starts, n_names_starts, .inl F_names_starts)), (names_lengths_, .inl (k_names_lengths, n_names_lengths, .inl F_names_lengths)), (names_text_, .inl (k_names_text, n_names_text, .inl F_names_text)), (values_, .inl (k_values, n_values, .inl F_values)), (byRank_, .inl (k_byRank, n_byRank, .inl F_byRank)), (a0, .inl (k_a0, n_a0, .inl F_a0))]) [0, 1, 2, 3, 4, 5, 6, 7] (by decide) rfl
  have hKc := hK.sub (tys' := [(k_names_starts, .int), (k_names_lengths, .int), (k_names_text, .byte), (k_values, .int), (k_byRank, .int), (k_a0, .byte)]) [0, 1, 2, 3, 4, 5] rfl
  have hFc := va_free (wc := [(h0, .inr (2, [.ref names_, .ref values_, .ref byRank_, .ref ranks_])), (names_, .inr (6, [.int names_size_, .ref names_starts_, .ref names_lengths_, .ref names_text_, .int names_used_])), (names_starts_, .inl (k_names_starts, n_names_starts, .inl F_names_starts)), (names_lengths_, .inl (k_names_lengths, n_names_lengths, .inl F_names_lengths)), (names_text_, .inl (k_names_text, n_names_text, .inl F_names_text)), (values_, .inl (k_values, n_values, .inl F_values)), (byRank_, .inl (k_byRank, n_byRank, .inl F_byRank)), (a0, .inl (k_a0, n_a0, .inl F_a0))]) hD hS hA [0, 1, 2, 3, 4, 5, 6, 7] rfl
  refine va_calli (va_runV (As := [.ref a0, .int a1, .int a2, .int a3]) (rest := []) ⟨hx, hb, hml, hown, hT⟩ (met_Co_search l dC dI n_names_starts n_names_lengths n_names_text n_values n_byRank n_a0 h0 names_ values_ byRank_ ranks_ names_starts_ names_lengths_ names_text_ a0 a1 a2 a3 names_size_ names_used_ F_names_starts F_names_lengths F_names_text F_values F_byRank F_a0 k_names_starts k_names_lengths k_names_text k_values k_byRank k_a0 s.heap.size hw) (cwV 4 hT (gd_V wd_676 wd_677 wd_678 wd_5 wd_679) rfl rfl rfl (by decide +kernel) ⟨Nat.le_of_ble_eq_true rfl, Nat.le_of_ble_eq_true rfl⟩) ⟨fun a U g mk q => by obtain ⟨q0, q1, qP, qK, qD⟩ := q; exact ⟨q0, q1, qP, va_K.moved (u := U) (U := U.calling g mk a) (Vm.Alike.refl U.vm) qK, qD⟩, va_recv hK hP (q0 := 0) (ci := 2) rfl rfl, fun U hU hW => ⟨rfl, by rw [hU], by rw [hU]; exact hPc, va_K.moved hW.alike hKc, hDc.weaken (fun _ _ _ _ => trivial)⟩⟩ rfl rfl hl.1 rfl (lv_room (Nat.le_of_ble_eq_true rfl)) dc_Co_intern_6 ⟨hkc, hks⟩) hS (fun q _ h => hFc q h) hFc (fun r1 _ t H1 locs ht hvm hw hB hz1 hk1 hS => ?_)
  obtain ⟨hP1, hK1, hD1⟩ := hB
  rw [ht] at hP1
  have hK1 := va_K.moved hvm.symm hK1
  obtain ⟨hP, hD⟩ := va_join (wr := []) (w1 := [(h0, .inr (2, [.ref names_, .ref values_, .ref byRank_, .ref ranks_])), (names_, .inr (6, [.int names_size_, .ref names_starts_, .ref names_lengths_, .ref names_text_, .int names_used_])), (names_starts_, .inl (k_names_starts, n_names_starts, .inl F_names_starts)), (names_lengths_, .inl (k_names_lengths, n_names_lengths, .inl F_names_lengths)), (names_text_, .inl (k_names_text, n_names_text, .inl F_names_text)), (values_, .inl (k_values, n_values, .inl F_values)), (byRank_, .inl (k_byRank, n_byRank, .inl F_byRank)), (a0, .inl (k_a0, n_a0, .inl F_a0))]) hP hD [0, 1, 2, 3, 4, 5, 6, 7] [] rfl rfl (by decide) (by decide) hk1 hFc hP1 hD1
  have hK := (hK.sub (tys' := []) [] rfl).app hK1
  generalize H1 = H at hP hS ⊢
  have hP : va_P (dC, dI) vwCl [(h0, .inr (2, [.ref names_, .ref values_, .ref byRank_, .ref ranks_])), (names_, .inr (6, [.int names_size_, .ref names_starts_, .ref names_lengths_, .ref names_text_, .int names_used_])), (names_starts_, .inl (k_names_starts, n_names_starts, .inl F_names_starts)), (names_lengths_, .inl (k_names_lengths, n_names_lengths, .inl F_names_lengths)), (names_text_, .inl (k_names_text, n_names_text, .inl F_names_text)), (values_, .inl (k_values, n_values, .inl F_values)), (byRank_, .inl (k_byRank, n_byRank, .inl F_byRank)), (a0, .inl (k_a0, n_a0, .inl F_a0))] H := hP
  have hD : va_D A [(h0, .inr (2, [.ref names_, .ref values_, .ref byRank_, .ref ranks_])), (names_, .inr (6, [.int names_size_, .ref names_starts_, .ref names_lengths_, .ref names_text_, .int names_used_])), (names_starts_, .inl (k_names_starts, n_names_starts, .inl F_names_starts)), (names_lengths_, .inl (k_names_lengths, n_names_lengths, .inl F_names_lengths)), (names_text_, .inl (k_names_text, n_names_text, .inl F_names_text)), (values_, .inl (k_values, n_values, .inl F_values)), (byRank_, .inl (k_byRank, n_byRank, .inl F_byRank)), (a0, .inl (k_a0, n_a0, .inl F_a0))] := hD
  have hK : va_K (dC, dI) vwCl [(k_names_starts, .int), (k_names_lengths, .int), (k_names_text, .byte), (k_values, .int), (k_byRank, .int), (k_a0, .byte)] s := hK
  refine W.widen (k := 0) (n := 0) (Nat.le_refl _) (Nat.le_refl _) ?_
  refine lv_istore (lv' := [(5, .int r1), (0, .ref h0), (1, .ref a0), (2, .int a1), (3, .int a2), (4, .int a3)]) hx hb dc_Co_intern_9 hl (by decide) rfl (fun ls hl => ?_)
  refine lv_iload hx hb dc_Co_intern_11 (lv_at hl 0 rfl) ?_
  refine lv_if_lt (tgt := 24) hx hb dc_Co_intern_13 (by decide) (fun h13 => ?_) (fun h13 => ?_)
  · have hw := hw.1 h13
    refine lv_aload_n hx hb dc_Co_intern_24 rfl (lv_at hl 1 rfl) ?_
    refine va_get (D := (dC, dI)) (ci := 2) (v := .ref names_) (C := "StrataBase$Constants") (T := tb_Co) (N := 4) hx hb hT in_Co hown hK hP 0 rfl rfl 0 (by decide) (hT _ wd_132) (fun _ h9 => h9) rfl dc_Co_intern_25 ?_
    refine lv_aload_n hx hb dc_Co_intern_28 rfl (lv_at hl 2 rfl) ?_
    refine lv_iload_n hx hb dc_Co_intern_29 rfl (lv_at hl 3 rfl) ?_
    refine lv_iload_n hx hb dc_Co_intern_30 rfl (lv_at hl 4 rfl) ?_
    obtain ⟨c2, s3, hkc, hks, hw⟩ := hw
    refine wk_know (fun hz0 hu0 => ?_)
    have hPc := hP.sub (ws' := [(names_, .inr (6, [.int names_size_, .ref names_starts_, .ref names_lengths_, .ref names_text_, .int names_used_])), (names_starts_, .inl (k_names_starts, n_names_starts, .inl F_names_starts)), (names_lengths_, .inl (k_names_lengths, n_names_lengths, .inl F_names_lengths)), (names_text_, .inl (k_names_text, n_names_text, .inl F_names_text)), (a0, .inl (k_a0, n_a0, .inl F_a0))]) [1, 2, 3, 4, 7] rfl
    have hDc := hD.sub (ws' := [(names_, .inr (6, [.int names_size_, .ref names_starts_, .ref names_lengths_, .ref names_text_, .int names_used_])), (names_starts_, .inl (k_names_starts, n_names_starts, .inl F_names_starts)), (names_lengths_, .inl (k_names_lengths, n_names_lengths, .inl F_names_lengths)), (names_text_, .inl (k_names_text, n_names_text, .inl F_names_text)), (a0, .inl (k_a0, n_a0, .inl F_a0))]) [1, 2, 3, 4, 7] (by decide) rfl
    have hKc := hK.sub (tys' := [(k_names_starts, .int), (k_names_lengths, .int), (k_names_text, .byte), (k_a0, .byte)]) [0, 1, 2, 5] rfl
    have hFc := va_free (wc := [(names_, .inr (6, [.int names_size_, .ref names_starts_, .ref names_lengths_, .ref names_text_, .int names_used_])), (names_starts_, .inl (k_names_starts, n_names_starts, .inl F_names_starts)), (names_lengths_, .inl (k_names_lengths, n_names_lengths, .inl F_names_lengths)), (names_text_, .inl (k_names_text, n_names_text, .inl F_names_text)), (a0, .inl (k_a0, n_a0, .inl F_a0))]) hD hS hA [1, 2, 3, 4, 7] rfl
    refine va_calli (va_runV (As := [.ref a0, .int a1, .int a2]) (rest := []) ⟨hx, hb, hml, hown, hT⟩ (met_Na_add l dC dI c2 s3 n_names_starts n_names_lengths n_names_text n_a0 names_ names_starts_ names_lengths_ names_text_ a0 a1 a2 names_size_ names_used_ F_names_starts F_names_lengths F_names_text F_a0 k_names_starts k_names_lengths k_names_text k_a0 H.size (hsm H) hw) (cwV 3 hT (gd_V wd_687 wd_688 wd_689 wd_4 wd_690) rfl rfl rfl (by decide +kernel) ⟨Nat.le_of_ble_eq_true rfl, Nat.le_of_ble_eq_true rfl⟩) ⟨fun a U g mk q => by obtain ⟨q0, q1, q2, qP, qK, qD⟩ := q; exact ⟨q0, q1, q2, qP, va_K.moved (u := U) (U := U.calling g mk a) (Vm.Alike.refl U.vm) qK, qD⟩, va_recv hK hP (q0 := 1) (ci := 6) rfl rfl, fun U hU hW => ⟨rfl, by rw [hU], by rw [hU], by rw [hU]; exact hPc, va_K.moved hW.alike hKc, hDc.weaken (fun _ _ _ _ => trivial)⟩⟩ rfl rfl hl.1 rfl (lv_room (Nat.le_of_ble_eq_true rfl)) dc_Co_intern_31 ⟨hkc, hks⟩) hS (fun q _ h => hFc q h) hFc (fun r14 u9 t H1 locs ht hvm hw hB hz1 hk1 hS => ?_)
    obtain ⟨o4, o5, o6, o7, o8, o9, o10, o11, o12, o13⟩ := u9
    obtain ⟨hP1, hK1, hD1, hq1, hq2, hq3, hq4⟩ := hB
    rw [ht] at hP1 hq1 hq2
    refine wk_tight (k := (0 + o12)) (n := (0 + o13)) (by omega) (by omega) ?_
    have hkc : (0 + o12) ≤ mc := by omega
    have hks : (0 + o13) ≤ ms := by omega
    clear hq1 hq2 hq3 hq4 hz0 hu0
    have hK1 := va_K.moved hvm.symm hK1
    obtain ⟨hP, hD⟩ := va_join (wr := [(h0, .inr (2, [.ref names_, .ref values_, .ref byRank_, .ref ranks_])), (values_, .inl (k_values, n_values, .inl F_values)), (byRank_, .inl (k_byRank, n_byRank, .inl F_byRank))]) (w1 := [(names_, .inr (6, [.int o4, .ref names_starts_, .ref names_lengths_, .ref o8, .int o5])), (names_starts_, .inl (k_names_starts, n_names_starts, .inl o6)), (names_lengths_, .inl (k_names_lengths, n_names_lengths, .inl o7)), (o8, .inl (o9, o10, .inl o11)), (a0, .inl (k_a0, n_a0, .inl F_a0))]) hP hD [1, 2, 3, 4, 7] [0, 5, 6] rfl rfl (by decide) (by decide) hk1 hFc hP1 hD1
    have hK := (hK.sub (tys' := [(k_values, .int), (k_byRank, .int)]) [3, 4] rfl).app hK1
    generalize H1 = H at hP hS ⊢
    have hP : va_P (dC, dI) vwCl [(h0, .inr (2, [.ref names_, .ref values_, .ref byRank_, .ref ranks_])), (values_, .inl (k_values, n_values, .inl F_values)), (byRank_, .inl (k_byRank, n_byRank, .inl F_byRank)), (names_, .inr (6, [.int o4, .ref names_starts_, .ref names_lengths_, .ref o8, .int o5])), (names_starts_, .inl (k_names_starts, n_names_starts, .inl o6)), (names_lengths_, .inl (k_names_lengths, n_names_lengths, .inl o7)), (o8, .inl (o9, o10, .inl o11)), (a0, .inl (k_a0, n_a0, .inl F_a0))] H := hP
    have hD : va_D A [(h0, .inr (2, [.ref names_, .ref values_, .ref byRank_, .ref ranks_])), (values_, .inl (k_values, n_values, .inl F_values)), (byRank_, .inl (k_byRank, n_byRank, .inl F_byRank)), (names_, .inr (6, [.int o4, .ref names_starts_, .ref names_lengths_, .ref o8, .int o5])), (names_starts_, .inl (k_names_starts, n_names_starts, .inl o6)), (names_lengths_, .inl (k_names_lengths, n_names_lengths, .inl o7)), (o8, .inl (o9, o10, .inl o11)), (a0, .inl (k_a0, n_a0, .inl F_a0))] := hD
    have hK : va_K (dC, dI) vwCl [(k_values, .int), (k_byRank, .int), (k_names_starts, .int), (k_names_lengths, .int), (o9, .byte), (k_a0, .byte)] s := hK
    refine W.widen (k := (0 + o12)) (n := (0 + o13)) (Nat.le_refl _) (Nat.le_refl _) ?_
    refine lv_istore (lv' := [(6, .int r14), (5, .int r1), (0, .ref h0), (1, .ref a0), (2, .int a1), (3, .int a2), (4, .int a3)]) hx hb dc_Co_intern_34 hl (by decide) rfl (fun ls hl => ?_)
    refine lv_iload hx hb dc_Co_intern_36 (lv_at hl 0 rfl) ?_
    refine lv_iconst (v := (-1)) hx hb dc_Co_intern_38 (by decide) ?_
    refine lv_icmp_eq (tgt := 90) hx hb dc_Co_intern_39 (by decide) (fun h39 => ?_) (fun h39 => ?_)
    · have hw := hw.1 h39
      refine lv_iload hx hb dc_Co_intern_90 (lv_at hl 0 rfl) ?_
      have hP := hP.sub (ws' := [(h0, .inr (2, [.ref names_, .ref values_, .ref byRank_, .ref ranks_])), (names_, .inr (6, [.int o4, .ref names_starts_, .ref names_lengths_, .ref o8, .int o5])), (names_starts_, .inl (k_names_starts, n_names_starts, .inl o6)), (names_lengths_, .inl (k_names_lengths, n_names_lengths, .inl o7)), (o8, .inl (o9, o10, .inl o11)), (values_, .inl (k_values, n_values, .inl F_values)), (byRank_, .inl (k_byRank, n_byRank, .inl F_byRank)), (a0, .inl (k_a0, n_a0, .inl F_a0))]) [0, 3, 4, 5, 6, 1, 2, 7] rfl
      have hD := hD.sub (ws' := [(h0, .inr (2, [.ref names_, .ref values_, .ref byRank_, .ref ranks_])), (names_, .inr (6, [.int o4, .ref names_starts_, .ref names_lengths_, .ref o8, .int o5])), (names_starts_, .inl (k_names_starts, n_names_starts, .inl o6)), (names_lengths_, .inl (k_names_lengths, n_names_lengths, .inl o7)), (o8, .inl (o9, o10, .inl o11)), (values_, .inl (k_values, n_values, .inl F_values)), (byRank_, .inl (k_byRank, n_byRank, .inl F_byRank)), (a0, .inl (k_a0, n_a0, .inl F_a0))]) [0, 3, 4, 5, 6, 1, 2, 7] (by decide) rfl
      have hK := hK.sub (tys' := [(k_names_starts, .int), (k_names_lengths, .int), (o9, .byte), (k_values, .int), (k_byRank, .int), (k_a0, .byte)]) [2, 3, 4, 0, 1, 5] rfl
      refine wk_know (fun hz0 hu0 => ?_)
      refine W.widen (k := mc) (n := ms) hkc hks ?_
      exact W.iret (v := r14) hx hb hr (fun t ht hW => ⟨⟨r14, (o4, o5, o6, o7, o8, o9, o10, o11, F_values, F_byRank, (0 + o12), (0 + o13)), rfl, hw, by rw [ht]; exact hP, va_K.moved hW.alike hK, hD, by rw [ht]; exact hz0, by rw [ht]; exact hu0, hkc, hks⟩, hS.F ht⟩) hS.2.2 dc_Co_intern_92
    · have hw := hw.2 h39
      refine lv_aload_n hx hb dc_Co_intern_42 rfl (lv_at hl 2 rfl) ?_
      refine va_get (D := (dC, dI)) (ci := 2) (v := .ref values_) (C := "StrataBase$Constants") (T := tb_Co) (N := 4) hx hb hT in_Co hown hK hP 0 rfl rfl 1 (by decide) (hT _ wd_133) (fun _ h9 => h9) rfl dc_Co_intern_43 ?_
      refine lv_iload hx hb dc_Co_intern_46 (lv_at hl 0 rfl) ?_
      refine lv_iload hx hb dc_Co_intern_48 (lv_at hl 6 rfl) ?_
      obtain ⟨hv15, hw⟩ := hw
      refine va_iast hx hb hK hP hD hS 1 0 rfl rfl hv15 dc_Co_intern_50 (fun H locs hP hD hS => ?_)
      have hP : va_P (dC, dI) vwCl [(h0, .inr (2, [.ref names_, .ref values_, .ref byRank_, .ref ranks_])), (values_, .inl (k_values, n_values, .inl (upd F_values r14.toNatClampNeg a3))), (byRank_, .inl (k_byRank, n_byRank, .inl F_byRank)), (names_, .inr (6, [.int o4, .ref names_starts_, .ref names_lengths_, .ref o8, .int o5])), (names_starts_, .inl (k_names_starts, n_names_starts, .inl o6)), (names_lengths_, .inl (k_names_lengths, n_names_lengths, .inl o7)), (o8, .inl (o9, o10, .inl o11)), (a0, .inl (k_a0, n_a0, .inl F_a0))] H := hP
      have hD : va_D A [(h0, .inr (2, [.ref names_, .ref values_, .ref byRank_, .ref ranks_])), (values_, .inl (k_values, n_values, .inl (upd F_values r14.toNatClampNeg a3))), (byRank_, .inl (k_byRank, n_byRank, .inl F_byRank)), (names_, .inr (6, [.int o4, .ref names_starts_, .ref names_lengths_, .ref o8, .int o5])), (names_starts_, .inl (k_names_starts, n_names_starts, .inl o6)), (names_lengths_, .inl (k_names_lengths, n_names_lengths, .inl o7)), (o8, .inl (o9, o10, .inl o11)), (a0, .inl (k_a0, n_a0, .inl F_a0))] := hD
      obtain ⟨g16, eg16⟩ : ∃ z9 : Nat → Int32, z9 = upd F_values r14.toNatClampNeg a3 := ⟨_, rfl⟩
      rw [← eg16] at hP hD
      have hw := hw g16 eg16
      refine lv_aload_n hx hb dc_Co_intern_51 rfl (lv_at hl 2 rfl) ?_
      refine va_get (D := (dC, dI)) (ci := 2) (v := .ref byRank_) (C := "StrataBase$Constants") (T := tb_Co) (N := 4) hx hb hT in_Co hown hK hP 0 rfl rfl 2 (by decide) (hT _ wd_134) (fun _ h9 => h9) rfl dc_Co_intern_52 ?_
      refine lv_iload hx hb dc_Co_intern_55 (lv_at hl 1 rfl) ?_
      refine lv_iconst (v := (-1)) hx hb dc_Co_intern_57 (by decide) ?_
      refine lv_ixor hx hb dc_Co_intern_58 ?_
      refine lv_topi (fun y17 ey17 => ?_)
      have hw := hw y17 ey17
      refine lv_aload_n hx hb dc_Co_intern_59 rfl (lv_at hl 2 rfl) ?_
      refine va_get (D := (dC, dI)) (ci := 2) (v := .ref byRank_) (C := "StrataBase$Constants") (T := tb_Co) (N := 4) hx hb hT in_Co hown hK hP 0 rfl rfl 2 (by decide) (hT _ wd_134) (fun _ h9 => h9) rfl dc_Co_intern_60 ?_
      refine lv_iload hx hb dc_Co_intern_63 (lv_at hl 1 rfl) ?_
      refine lv_iconst (v := (-1)) hx hb dc_Co_intern_65 (by decide) ?_
      refine lv_ixor hx hb dc_Co_intern_66 ?_
      refine lv_topi (fun y18 ey18 => ?_)
      have hw := hw y18 ey18
      refine lv_iconst (v := 1) hx hb dc_Co_intern_67 (by decide) ?_
      refine lv_iadd hx hb dc_Co_intern_68 ?_
      refine lv_topi (fun y19 ey19 => ?_)
      have hw := hw y19 ey19
      refine lv_iload hx hb dc_Co_intern_69 (lv_at hl 0 rfl) ?_
      refine lv_iload hx hb dc_Co_intern_71 (lv_at hl 1 rfl) ?_
      refine lv_iconst (v := (-1)) hx hb dc_Co_intern_73 (by decide) ?_
      refine lv_ixor hx hb dc_Co_intern_74 ?_
      refine lv_topi (fun y20 ey20 => ?_)
      have hw := hw y20 ey20
      refine lv_isub hx hb dc_Co_intern_75 ?_
      refine lv_topi (fun y21 ey21 => ?_)
      have hw := hw y21 ey21
      obtain ⟨hc76_0, hc76_1, hc76_2, hc76_3, hc76_4, hw⟩ := hw
      refine va_copyi (sp := y17) (dp := y19) (n := y21) hx hb (by rw [hml]; exact hl.1.symm) hown (hT _ wd_711) (hT _ wd_709) (hT _ wd_708) (hT _ wd_22) hK hP hD hS 2 2 1 1 rfl rfl rfl rfl rfl hc76_0 hc76_1 hc76_2 hc76_3 hc76_4 (fun _ _ => rfl) (Nat.le_of_ble_eq_true rfl) (Nat.le_of_ble_eq_true rfl) dc_Co_intern_76 (fun H locs hP hD hS => ?_)
      have hP : va_P (dC, dI) vwCl [(h0, .inr (2, [.ref names_, .ref values_, .ref byRank_, .ref ranks_])), (values_, .inl (k_values, n_values, .inl g16)), (byRank_, .inl (k_byRank, n_byRank, .inl (va_cpy F_byRank F_byRank y17.toNatClampNeg y19.toNatClampNeg y21.toNatClampNeg))), (names_, .inr (6, [.int o4, .ref names_starts_, .ref names_lengths_, .ref o8, .int o5])), (names_starts_, .inl (k_names_starts, n_names_starts, .inl o6)), (names_lengths_, .inl (k_names_lengths, n_names_lengths, .inl o7)), (o8, .inl (o9, o10, .inl o11)), (a0, .inl (k_a0, n_a0, .inl F_a0))] H := hP
      have hD : va_D A [(h0, .inr (2, [.ref names_, .ref values_, .ref byRank_, .ref ranks_])), (values_, .inl (k_values, n_values, .inl g16)), (byRank_, .inl (k_byRank, n_byRank, .inl (va_cpy F_byRank F_byRank y17.toNatClampNeg y19.toNatClampNeg y21.toNatClampNeg))), (names_, .inr (6, [.int o4, .ref names_starts_, .ref names_lengths_, .ref o8, .int o5])), (names_starts_, .inl (k_names_starts, n_names_starts, .inl o6)), (names_lengths_, .inl (k_names_lengths, n_names_lengths, .inl o7)), (o8, .inl (o9, o10, .inl o11)), (a0, .inl (k_a0, n_a0, .inl F_a0))] := hD
      obtain ⟨g22, eg22⟩ : ∃ z9 : Nat → Int32, z9 = va_cpy F_byRank F_byRank y17.toNatClampNeg y19.toNatClampNeg y21.toNatClampNeg := ⟨_, rfl⟩
      rw [← eg22] at hP hD
      have hw := hw g22 eg22
      refine lv_aload_n hx hb dc_Co_intern_79 rfl (lv_at hl 2 rfl) ?_
      refine va_get (D := (dC, dI)) (ci := 2) (v := .ref byRank_) (C := "StrataBase$Constants") (T := tb_Co) (N := 4) hx hb hT in_Co hown hK hP 0 rfl rfl 2 (by decide) (hT _ wd_134) (fun _ h9 => h9) rfl dc_Co_intern_80 ?_
      refine lv_iload hx hb dc_Co_intern_83 (lv_at hl 1 rfl) ?_
      refine lv_iconst (v := (-1)) hx hb dc_Co_intern_85 (by decide) ?_
      refine lv_ixor hx hb dc_Co_intern_86 ?_
      refine lv_topi (fun y23 ey23 => ?_)
      have hw := hw y23 ey23
      refine lv_iload hx hb dc_Co_intern_87 (lv_at hl 0 rfl) ?_
      obtain ⟨hv24, hw⟩ := hw
      refine va_iast hx hb hK hP hD hS 2 1 rfl rfl hv24 dc_Co_intern_89 (fun H locs hP hD hS => ?_)
      have hP : va_P (dC, dI) vwCl [(h0, .inr (2, [.ref names_, .ref values_, .ref byRank_, .ref ranks_])), (values_, .inl (k_values, n_values, .inl g16)), (byRank_, .inl (k_byRank, n_byRank, .inl (upd g22 y23.toNatClampNeg r14))), (names_, .inr (6, [.int o4, .ref names_starts_, .ref names_lengths_, .ref o8, .int o5])), (names_starts_, .inl (k_names_starts, n_names_starts, .inl o6)), (names_lengths_, .inl (k_names_lengths, n_names_lengths, .inl o7)), (o8, .inl (o9, o10, .inl o11)), (a0, .inl (k_a0, n_a0, .inl F_a0))] H := hP
      have hD : va_D A [(h0, .inr (2, [.ref names_, .ref values_, .ref byRank_, .ref ranks_])), (values_, .inl (k_values, n_values, .inl g16)), (byRank_, .inl (k_byRank, n_byRank, .inl (upd g22 y23.toNatClampNeg r14))), (names_, .inr (6, [.int o4, .ref names_starts_, .ref names_lengths_, .ref o8, .int o5])), (names_starts_, .inl (k_names_starts, n_names_starts, .inl o6)), (names_lengths_, .inl (k_names_lengths, n_names_lengths, .inl o7)), (o8, .inl (o9, o10, .inl o11)), (a0, .inl (k_a0, n_a0, .inl F_a0))] := hD
      obtain ⟨g25, eg25⟩ : ∃ z9 : Nat → Int32, z9 = upd g22 y23.toNatClampNeg r14 := ⟨_, rfl⟩
      rw [← eg25] at hP hD
      have hw := hw g25 eg25
      refine lv_iload hx hb dc_Co_intern_90 (lv_at hl 0 rfl) ?_
      have hP := hP.sub (ws' := [(h0, .inr (2, [.ref names_, .ref values_, .ref byRank_, .ref ranks_])), (names_, .inr (6, [.int o4, .ref names_starts_, .ref names_lengths_, .ref o8, .int o5])), (names_starts_, .inl (k_names_starts, n_names_starts, .inl o6)), (names_lengths_, .inl (k_names_lengths, n_names_lengths, .inl o7)), (o8, .inl (o9, o10, .inl o11)), (values_, .inl (k_values, n_values, .inl g16)), (byRank_, .inl (k_byRank, n_byRank, .inl g25)), (a0, .inl (k_a0, n_a0, .inl F_a0))]) [0, 3, 4, 5, 6, 1, 2, 7] rfl
      have hD := hD.sub (ws' := [(h0, .inr (2, [.ref names_, .ref values_, .ref byRank_, .ref ranks_])), (names_, .inr (6, [.int o4, .ref names_starts_, .ref names_lengths_, .ref o8, .int o5])), (names_starts_, .inl (k_names_starts, n_names_starts, .inl o6)), (names_lengths_, .inl (k_names_lengths, n_names_lengths, .inl o7)), (o8, .inl (o9, o10, .inl o11)), (values_, .inl (k_values, n_values, .inl g16)), (byRank_, .inl (k_byRank, n_byRank, .inl g25)), (a0, .inl (k_a0, n_a0, .inl F_a0))]) [0, 3, 4, 5, 6, 1, 2, 7] (by decide) rfl
      have hK := hK.sub (tys' := [(k_names_starts, .int), (k_names_lengths, .int), (o9, .byte), (k_values, .int), (k_byRank, .int), (k_a0, .byte)]) [2, 3, 4, 0, 1, 5] rfl
      refine wk_know (fun hz0 hu0 => ?_)
      refine W.widen (k := mc) (n := ms) hkc hks ?_
      exact W.iret (v := r14) hx hb hr (fun t ht hW => ⟨⟨r14, (o4, o5, o6, o7, o8, o9, o10, o11, g16, g25, (0 + o12), (0 + o13)), rfl, hw, by rw [ht]; exact hP, va_K.moved hW.alike hK, hD, by rw [ht]; exact hz0, by rw [ht]; exact hu0, hkc, hks⟩, hS.F ht⟩) hS.2.2 dc_Co_intern_92
  · have hw := hw.2 h13
    refine lv_aload_n hx hb dc_Co_intern_16 rfl (lv_at hl 1 rfl) ?_
    refine va_get (D := (dC, dI)) (ci := 2) (v := .ref byRank_) (C := "StrataBase$Constants") (T := tb_Co) (N := 4) hx hb hT in_Co hown hK hP 0 rfl rfl 2 (by decide) (hT _ wd_134) (fun _ h9 => h9) rfl dc_Co_intern_17 ?_
    refine lv_iload hx hb dc_Co_intern_20 (lv_at hl 0 rfl) ?_
    obtain ⟨hv26, hw⟩ := hw
    refine va_iald hx hb hK hP 6 4 rfl rfl hv26 dc_Co_intern_22 ?_
    refine lv_topi (fun y27 ey27 => ?_)
    have hw := hw y27 ey27
    refine wk_know (fun hz0 hu0 => ?_)
    refine W.widen (k := mc) (n := ms) hkc hks ?_
    exact W.iret (v := y27) hx hb hr (fun t ht hW => ⟨⟨y27, (names_size_, names_used_, F_names_starts, F_names_lengths, names_text_, k_names_text, n_names_text, F_names_text, F_values, F_byRank, 0, 0), rfl, hw, by rw [ht]; exact hP, va_K.moved hW.alike hK, hD, by rw [ht]; exact hz0, by rw [ht]; exact hu0, hkc, hks⟩, hS.F ht⟩) hS.2.2 dc_Co_intern_23

def lw_met_Co_setRanks_2 (post : (Nat → Int32) → Prop) (names_size_ : Int32) (n_byRank : Nat) (F_byRank : Nat → Int32) (n_ranks : Nat) : Nat → (Int32 × (Nat → Int32)) → Prop
  | 0, _ => False
  | n1_ + 1, (v2, v3) => ((names_size_ ≤ v2 → (post v3)) ∧ (¬ (names_size_ ≤ v2) → (vp_in v2 n_byRank ∧ (∀ y5 : Int32, y5 = F_byRank v2.toNatClampNeg → (vp_in y5 n_ranks ∧ (∀ g7 : Nat → Int32, g7 = upd v3 y5.toNatClampNeg v2 → (lw_met_Co_setRanks_2 post names_size_ n_byRank F_byRank n_ranks n1_ ((v2 + 1), g7))))))))
def wp_met_Co_setRanks (post : (Nat → Int32) → Prop) (n_byRank : Nat) (n_ranks : Nat) (names_size_ : Int32) (F_byRank : Nat → Int32) (F_ranks : Nat → Int32) : Prop := ∃ n9 : Nat, lw_met_Co_setRanks_2 post names_size_ n_byRank F_byRank n_ranks n9 ((0 : Int32), F_ranks)
set_option maxHeartbeats 4000000 in
set_option maxRecDepth 100000 in
theorem met_Co_setRanks (l : Launch) (dC : Nat → ClassId) (dI : Nat → Nat → Nat) (n_byRank : Nat) (n_ranks : Nat) (h0 : Nat) (names_ : Nat) (values_ : Nat) (byRank_ : Nat) (ranks_ : Nat) (names_starts_ : Nat) (names_lengths_ : Nat) (names_text_ : Nat) (names_size_ : Int32) (names_used_ : Int32) (F_byRank : Nat → Int32) (F_ranks : Nat → Int32) (k_byRank : ClassId) (k_ranks : ClassId) (sz : Nat) {post : (Nat → Int32) → Prop} (hw : wp_met_Co_setRanks post n_byRank n_ranks names_size_ F_byRank F_ranks) : Met l my_Co_setRanks (Cond.code my_Co_setRanks cd_Co_setRanks 2 none :: tblG) ({ frames := 0, cells := 0, slots := 0, locals := 0 }) (va_Pc [.ref h0] (fun U => U.heap.size = sz ∧ va_P (dC, dI) vwCl [(h0, .inr (2, [.ref names_, .ref values_, .ref byRank_, .ref ranks_])), (names_, .inr (6, [.int names_size_, .ref names_starts_, .ref names_lengths_, .ref names_text_, .int names_used_])), (byRank_, .inl (k_byRank, n_byRank, .inl F_byRank)), (ranks_, .inl (k_ranks, n_ranks, .inl F_ranks))] U.heap ∧ va_K (dC, dI) vwCl [(k_byRank, .int), (k_ranks, .int)] U ∧ va_D (fun _ => True) [(h0, .inr (2, [.ref names_, .ref values_, .ref byRank_, .ref ranks_])), (names_, .inr (6, [.int names_size_, .ref names_starts_, .ref names_lengths_, .ref names_text_, .int names_used_])), (byRank_, .inl (k_byRank, n_byRank, .inl F_byRank)), (ranks_, .inl (k_ranks, n_ranks, .inl F_ranks))])) (va_Qv post (fun (u : (Nat → Int32)) (t : State) => match u with | o0 => va_P (dC, dI) vwCl [(h0, .inr (2, [.ref names_, .ref values_, .ref byRank_, .ref ranks_])), (names_, .inr (6, [.int names_size_, .ref names_starts_, .ref names_lengths_, .ref names_text_, .int names_used_])), (byRank_, .inl (k_byRank, n_byRank, .inl F_byRank)), (ranks_, .inl (k_ranks, n_ranks, .inl o0))] t.heap ∧ va_K (dC, dI) vwCl [(k_byRank, .int), (k_ranks, .int)] t ∧ va_D (va_A [(h0, .inr (2, [.ref names_, .ref values_, .ref byRank_, .ref ranks_])), (names_, .inr (6, [.int names_size_, .ref names_starts_, .ref names_lengths_, .ref names_text_, .int names_used_])), (byRank_, .inl (k_byRank, n_byRank, .inl F_byRank)), (ranks_, .inl (k_ranks, n_ranks, .inl F_ranks))] sz) [(h0, .inr (2, [.ref names_, .ref values_, .ref byRank_, .ref ranks_])), (names_, .inr (6, [.int names_size_, .ref names_starts_, .ref names_lengths_, .ref names_text_, .int names_used_])), (byRank_, .inl (k_byRank, n_byRank, .inl F_byRank)), (ranks_, .inl (k_ranks, n_ranks, .inl o0))]) (va_A [(h0, .inr (2, [.ref names_, .ref values_, .ref byRank_, .ref ranks_])), (names_, .inr (6, [.int names_size_, .ref names_starts_, .ref names_lengths_, .ref names_text_, .int names_used_])), (byRank_, .inl (k_byRank, n_byRank, .inl F_byRank)), (ranks_, .inl (k_ranks, n_ranks, .inl F_ranks))] sz)) 0 0 (va_A [(h0, .inr (2, [.ref names_, .ref values_, .ref byRank_, .ref ranks_])), (names_, .inr (6, [.int names_size_, .ref names_starts_, .ref names_lengths_, .ref names_text_, .int names_used_])), (byRank_, .inl (k_byRank, n_byRank, .inl F_byRank)), (ranks_, .inl (k_ranks, n_ranks, .inl F_ranks))] sz) := by
  refine Met.ofW (cc := cd_Co_setRanks) (maxL := 2) (ret := none) (by decide) rfl ?_
  intro p e s m args below meth c s₁ B hml hv
  obtain ⟨rfl, hsz, hP, hK, hD0⟩ := hv
  have hx := B.exec
  have hb := B.bytes
  have hr := B.returns
  have hT : ∀ w ∈ tblG, w.before _ s = true := fun w h => atoms_spec (ws := (Cond.code my_Co_setRanks cd_Co_setRanks 2 none :: tblG)) B.pre w (List.mem_cons_of_mem _ h)
  have hown : s.vm.findClass "StrataBase$Constants" = some m.cls := findClass_of_methodNamed B.named
  have hlocks := B.notSynchronized
  subst hsz
  have hD := hD0.self (sz := s.heap.size)
  generalize hAe : va_A [(h0, .inr (2, [.ref names_, .ref values_, .ref byRank_, .ref ranks_])), (names_, .inr (6, [.int names_size_, .ref names_starts_, .ref names_lengths_, .ref names_text_, .int names_used_])), (byRank_, .inl (k_byRank, n_byRank, .inl F_byRank)), (ranks_, .inl (k_ranks, n_ranks, .inl F_ranks))] s.heap.size = A at hD ⊢
  have hA : ∀ q : Nat, s.heap.size ≤ q → A q := fun q h => by rw [← hAe]; exact Or.inr h
  have hS : va_S A s.heap s.heap [] := va_S.rf
  have hl := lv_entry ([.ref h0]) (n := 2) (Nat.le_of_ble_eq_true rfl)
  rw [lg_entry_eq]
  generalize (lg_sl ([.ref h0]) ++ List.replicate (2 - (lg_sl ([.ref h0])).length) Slot.unset).toArray = ls at hl ⊢
  have hl : lv_has ls 2 [(0, .ref h0)] := hl
  unfold wp_met_Co_setRanks at hw
  refine lv_iconst (v := 0) hx hb dc_Co_setRanks_0 (by decide) ?_
  refine lv_istore_n (lv' := [(1, .int 0), (0, .ref h0)]) hx hb dc_Co_setRanks_1 rfl hl (by decide) rfl (fun ls hl => ?_)
  obtain ⟨n9, hw⟩ := hw
  refine lp_fuel (σ := Int32 × (Nat → Int32)) _ (fun x9 H locs ls => match x9 with | (v2, v3) => va_K (dC, dI) vwCl [(k_byRank, .int), (k_ranks, .int)] s ∧ va_P (dC, dI) vwCl [(h0, .inr (2, [.ref names_, .ref values_, .ref byRank_, .ref ranks_])), (names_, .inr (6, [.int names_size_, .ref names_starts_, .ref names_lengths_, .ref names_text_, .int names_used_])), (byRank_, .inl (k_byRank, n_byRank, .inl F_byRank)), (ranks_, .inl (k_ranks, n_ranks, .inl v3))] H ∧ va_D A [(h0, .inr (2, [.ref names_, .ref values_, .ref byRank_, .ref ranks_])), (names_, .inr (6, [.int names_size_, .ref names_starts_, .ref names_lengths_, .ref names_text_, .int names_used_])), (byRank_, .inl (k_byRank, n_byRank, .inl F_byRank)), (ranks_, .inl (k_ranks, n_ranks, .inl v3))] ∧ va_S A s.heap H locs ∧ lv_has ls 2 [(1, .int v2), (0, .ref h0)]) (fun x9 h9 => by simp only [lw_met_Co_setRanks_2] at h9) ?_ hw ⟨hK.sub [0, 1] rfl, hP.sub [0, 1, 2, 3] rfl, hD.sub [0, 1, 2, 3] (by decide) rfl, hS, lv_sub hl [0, 1] rfl⟩
  intro n1_ x9 hw ih1 H locs ls hI
  obtain ⟨v2, v3⟩ := x9
  obtain ⟨hK, hP, hD, hS, hl⟩ := hI
  unfold lw_met_Co_setRanks_2 at hw
  refine lv_iload_n hx hb dc_Co_setRanks_2 rfl (lv_at hl 0 rfl) ?_
  refine lv_aload_n hx hb dc_Co_setRanks_3 rfl (lv_at hl 1 rfl) ?_
  refine va_get (D := (dC, dI)) (ci := 2) (v := .ref names_) (C := "StrataBase$Constants") (T := tb_Co) (N := 4) hx hb hT in_Co hown hK hP 0 rfl rfl 0 (by decide) (hT _ wd_132) (fun _ h9 => h9) rfl dc_Co_setRanks_4 ?_
  refine va_get (D := (dC, dI)) (ci := 6) (v := .int names_size_) (C := "StrataBase$Names") (T := tb_Na) (N := 5) hx hb hT in_Na hown hK hP 1 rfl rfl 0 (by decide) (hT _ wd_105) (fun _ h9 => h9) rfl dc_Co_setRanks_7 ?_
  refine lv_icmp_ge (tgt := 31) hx hb dc_Co_setRanks_10 (by decide) (fun h10 => ?_) (fun h10 => ?_)
  · have hw := hw.1 h10
    refine W.widen (k := 0) (n := 0) (Nat.le_of_ble_eq_true rfl) (Nat.le_of_ble_eq_true rfl) ?_
    exact W.vret hx hb hr (fun t ht hW => ⟨⟨v3, rfl, hw, by rw [ht]; exact hP, va_K.moved hW.alike hK, hD⟩, hS.F ht⟩) hS.2.2 dc_Co_setRanks_31
  · have hw := hw.2 h10
    refine lv_aload_n hx hb dc_Co_setRanks_13 rfl (lv_at hl 1 rfl) ?_
    refine va_get (D := (dC, dI)) (ci := 2) (v := .ref ranks_) (C := "StrataBase$Constants") (T := tb_Co) (N := 4) hx hb hT in_Co hown hK hP 0 rfl rfl 3 (by decide) (hT _ wd_135) (fun _ h9 => h9) rfl dc_Co_setRanks_14 ?_
    refine lv_aload_n hx hb dc_Co_setRanks_17 rfl (lv_at hl 1 rfl) ?_
    refine va_get (D := (dC, dI)) (ci := 2) (v := .ref byRank_) (C := "StrataBase$Constants") (T := tb_Co) (N := 4) hx hb hT in_Co hown hK hP 0 rfl rfl 2 (by decide) (hT _ wd_134) (fun _ h9 => h9) rfl dc_Co_setRanks_18 ?_
    refine lv_iload_n hx hb dc_Co_setRanks_21 rfl (lv_at hl 0 rfl) ?_
    obtain ⟨hv4, hw⟩ := hw
    refine va_iald hx hb hK hP 2 0 rfl rfl hv4 dc_Co_setRanks_22 ?_
    refine lv_topi (fun y5 ey5 => ?_)
    have hw := hw y5 ey5
    refine lv_iload_n hx hb dc_Co_setRanks_23 rfl (lv_at hl 0 rfl) ?_
    obtain ⟨hv6, hw⟩ := hw
    refine va_iast hx hb hK hP hD hS 3 1 rfl rfl hv6 dc_Co_setRanks_24 (fun H locs hP hD hS => ?_)
    have hP : va_P (dC, dI) vwCl [(h0, .inr (2, [.ref names_, .ref values_, .ref byRank_, .ref ranks_])), (names_, .inr (6, [.int names_size_, .ref names_starts_, .ref names_lengths_, .ref names_text_, .int names_used_])), (byRank_, .inl (k_byRank, n_byRank, .inl F_byRank)), (ranks_, .inl (k_ranks, n_ranks, .inl (upd v3 y5.toNatClampNeg v2)))] H := hP
    have hD : va_D A [(h0, .inr (2, [.ref names_, .ref values_, .ref byRank_, .ref ranks_])), (names_, .inr (6, [.int names_size_, .ref names_starts_, .ref names_lengths_, .ref names_text_, .int names_used_])), (byRank_, .inl (k_byRank, n_byRank, .inl F_byRank)), (ranks_, .inl (k_ranks, n_ranks, .inl (upd v3 y5.toNatClampNeg v2)))] := hD
    obtain ⟨g7, eg7⟩ : ∃ z9 : Nat → Int32, z9 = upd v3 y5.toNatClampNeg v2 := ⟨_, rfl⟩
    rw [← eg7] at hP hD
    have hw := hw g7 eg7
    refine lv_iinc (k := 0) (v := v2 + 1) (lv' := [(1, .int (v2 + 1)), (0, .ref h0)]) hx hb dc_Co_setRanks_25 hl rfl rfl (by decide) rfl (fun ls hl => ?_)
    refine lv_goto (tgt := 2) hx hb dc_Co_setRanks_28 (by decide) ?_
    exact ih1 ((v2 + 1), g7) hw _ _ _ ⟨hK.sub [0, 1] rfl, hP.sub [0, 1, 2, 3] rfl, hD.sub [0, 1, 2, 3] (by decide) rfl, hS, lv_sub hl [0, 1] rfl⟩

def wp_met_Co_rankOf (post : Int32 → Unit → Prop) (n_ranks : Nat) (a0 : Int32) (F_ranks : Nat → Int32) : Prop := vp_in a0 n_ranks ∧ (∀ y2 : Int32, y2 = F_ranks a0.toNatClampNeg → (post y2 ()))
set_option maxHeartbeats 4000000 in
set_option maxRecDepth 100000 in
theorem met_Co_rankOf (l : Launch) (dC : Nat → ClassId) (dI : Nat → Nat → Nat) (n_ranks : Nat) (h0 : Nat) (names_ : Nat) (values_ : Nat) (byRank_ : Nat) (ranks_ : Nat) (a0 : Int32) (F_ranks : Nat → Int32) (k_ranks : ClassId) (sz : Nat) {post : Int32 → Unit → Prop} (hw : wp_met_Co_rankOf post n_ranks a0 F_ranks) : Met l my_Co_rankOf (Cond.code my_Co_rankOf cd_Co_rankOf 2 (some (.int)) :: tblG) ({ frames := 0, cells := 0, slots := 0, locals := 0 }) (va_Pc [.ref h0, .int a0] (fun U => U.heap.size = sz ∧ va_P (dC, dI) vwCl [(h0, .inr (2, [.ref names_, .ref values_, .ref byRank_, .ref ranks_])), (ranks_, .inl (k_ranks, n_ranks, .inl F_ranks))] U.heap ∧ va_K (dC, dI) vwCl [(k_ranks, .int)] U ∧ va_D (fun _ => True) [(h0, .inr (2, [.ref names_, .ref values_, .ref byRank_, .ref ranks_])), (ranks_, .inl (k_ranks, n_ranks, .inl F_ranks))])) (va_Qi post (fun (u : Unit) (t : State) => va_P (dC, dI) vwCl [(h0, .inr (2, [.ref names_, .ref values_, .ref byRank_, .ref ranks_])), (ranks_, .inl (k_ranks, n_ranks, .inl F_ranks))] t.heap ∧ va_K (dC, dI) vwCl [(k_ranks, .int)] t ∧ va_D (va_A [(h0, .inr (2, [.ref names_, .ref values_, .ref byRank_, .ref ranks_])), (ranks_, .inl (k_ranks, n_ranks, .inl F_ranks))] sz) [(h0, .inr (2, [.ref names_, .ref values_, .ref byRank_, .ref ranks_])), (ranks_, .inl (k_ranks, n_ranks, .inl F_ranks))]) (va_A [(h0, .inr (2, [.ref names_, .ref values_, .ref byRank_, .ref ranks_])), (ranks_, .inl (k_ranks, n_ranks, .inl F_ranks))] sz)) 0 0 (va_A [(h0, .inr (2, [.ref names_, .ref values_, .ref byRank_, .ref ranks_])), (ranks_, .inl (k_ranks, n_ranks, .inl F_ranks))] sz) := by
  refine Met.ofW (cc := cd_Co_rankOf) (maxL := 2) (ret := (some (.int))) (by decide) rfl ?_
  intro p e s m args below meth c s₁ B hml hv
  obtain ⟨rfl, hsz, hP, hK, hD0⟩ := hv
  have hx := B.exec
  have hb := B.bytes
  have hr := B.returns
  have hT : ∀ w ∈ tblG, w.before _ s = true := fun w h => atoms_spec (ws := (Cond.code my_Co_rankOf cd_Co_rankOf 2 (some (.int)) :: tblG)) B.pre w (List.mem_cons_of_mem _ h)
  have hown : s.vm.findClass "StrataBase$Constants" = some m.cls := findClass_of_methodNamed B.named
  have hlocks := B.notSynchronized
  subst hsz
  have hD := hD0.self (sz := s.heap.size)
  generalize hAe : va_A [(h0, .inr (2, [.ref names_, .ref values_, .ref byRank_, .ref ranks_])), (ranks_, .inl (k_ranks, n_ranks, .inl F_ranks))] s.heap.size = A at hD ⊢
  have hA : ∀ q : Nat, s.heap.size ≤ q → A q := fun q h => by rw [← hAe]; exact Or.inr h
  have hS : va_S A s.heap s.heap [] := va_S.rf
  have hl := lv_entry ([.ref h0, .int a0]) (n := 2) (Nat.le_of_ble_eq_true rfl)
  rw [lg_entry_eq]
  generalize (lg_sl ([.ref h0, .int a0]) ++ List.replicate (2 - (lg_sl ([.ref h0, .int a0])).length) Slot.unset).toArray = ls at hl ⊢
  have hl : lv_has ls 2 [(0, .ref h0), (1, .int a0)] := hl
  unfold wp_met_Co_rankOf at hw
  refine lv_aload_n hx hb dc_Co_rankOf_0 rfl (lv_at hl 0 rfl) ?_
  refine va_get (D := (dC, dI)) (ci := 2) (v := .ref ranks_) (C := "StrataBase$Constants") (T := tb_Co) (N := 4) hx hb hT in_Co hown hK hP 0 rfl rfl 3 (by decide) (hT _ wd_135) (fun _ h9 => h9) rfl dc_Co_rankOf_1 ?_
  refine lv_iload_n hx hb dc_Co_rankOf_4 rfl (lv_at hl 1 rfl) ?_
  obtain ⟨hv1, hw⟩ := hw
  refine va_iald hx hb hK hP 1 0 rfl rfl hv1 dc_Co_rankOf_5 ?_
  refine lv_topi (fun y2 ey2 => ?_)
  have hw := hw y2 ey2
  refine W.widen (k := 0) (n := 0) (Nat.le_of_ble_eq_true rfl) (Nat.le_of_ble_eq_true rfl) ?_
  exact W.iret (v := y2) hx hb hr (fun t ht hW => ⟨⟨y2, (), rfl, hw, by rw [ht]; exact hP, va_K.moved hW.alike hK, hD⟩, hS.F ht⟩) hS.2.2 dc_Co_rankOf_6

def wp_met_Co_lengthAt (post : Int32 → Unit → Prop) (n_names_lengths : Nat) (n_byRank : Nat) (a0 : Int32) (F_names_lengths : Nat → Int32) (F_byRank : Nat → Int32) : Prop := vp_in a0 n_byRank ∧ (∀ y2 : Int32, y2 = F_byRank a0.toNatClampNeg → (wp_met_Na_lengthOf (fun (r3 : Int32) (_ : Unit) => (post r3 ())) n_names_lengths y2 F_names_lengths))
set_option maxHeartbeats 4000000 in
set_option maxRecDepth 100000 in
theorem met_Co_lengthAt (l : Launch) (dC : Nat → ClassId) (dI : Nat → Nat → Nat) (n_names_lengths : Nat) (n_byRank : Nat) (h0 : Nat) (names_ : Nat) (values_ : Nat) (byRank_ : Nat) (ranks_ : Nat) (names_starts_ : Nat) (names_lengths_ : Nat) (names_text_ : Nat) (a0 : Int32) (names_size_ : Int32) (names_used_ : Int32) (F_names_lengths : Nat → Int32) (F_byRank : Nat → Int32) (k_names_lengths : ClassId) (k_byRank : ClassId) (sz : Nat) {post : Int32 → Unit → Prop} (hw : wp_met_Co_lengthAt post n_names_lengths n_byRank a0 F_names_lengths F_byRank) : Met l my_Co_lengthAt (Cond.code my_Co_lengthAt cd_Co_lengthAt 2 (some (.int)) :: tblG) ({ frames := 1, cells := 0, slots := 0, locals := 21 }) (va_Pc [.ref h0, .int a0] (fun U => U.heap.size = sz ∧ va_P (dC, dI) vwCl [(h0, .inr (2, [.ref names_, .ref values_, .ref byRank_, .ref ranks_])), (names_, .inr (6, [.int names_size_, .ref names_starts_, .ref names_lengths_, .ref names_text_, .int names_used_])), (names_lengths_, .inl (k_names_lengths, n_names_lengths, .inl F_names_lengths)), (byRank_, .inl (k_byRank, n_byRank, .inl F_byRank))] U.heap ∧ va_K (dC, dI) vwCl [(k_names_lengths, .int), (k_byRank, .int)] U ∧ va_D (fun _ => True) [(h0, .inr (2, [.ref names_, .ref values_, .ref byRank_, .ref ranks_])), (names_, .inr (6, [.int names_size_, .ref names_starts_, .ref names_lengths_, .ref names_text_, .int names_used_])), (names_lengths_, .inl (k_names_lengths, n_names_lengths, .inl F_names_lengths)), (byRank_, .inl (k_byRank, n_byRank, .inl F_byRank))])) (va_Qi post (fun (u : Unit) (t : State) => va_P (dC, dI) vwCl [(h0, .inr (2, [.ref names_, .ref values_, .ref byRank_, .ref ranks_])), (names_, .inr (6, [.int names_size_, .ref names_starts_, .ref names_lengths_, .ref names_text_, .int names_used_])), (names_lengths_, .inl (k_names_lengths, n_names_lengths, .inl F_names_lengths)), (byRank_, .inl (k_byRank, n_byRank, .inl F_byRank))] t.heap ∧ va_K (dC, dI) vwCl [(k_names_lengths, .int), (k_byRank, .int)] t ∧ va_D (va_A [(h0, .inr (2, [.ref names_, .ref values_, .ref byRank_, .ref ranks_])), (names_, .inr (6, [.int names_size_, .ref names_starts_, .ref names_lengths_, .ref names_text_, .int names_used_])), (names_lengths_, .inl (k_names_lengths, n_names_lengths, .inl F_names_lengths)), (byRank_, .inl (k_byRank, n_byRank, .inl F_byRank))] sz) [(h0, .inr (2, [.ref names_, .ref values_, .ref byRank_, .ref ranks_])), (names_, .inr (6, [.int names_size_, .ref names_starts_, .ref names_lengths_, .ref names_text_, .int names_used_])), (names_lengths_, .inl (k_names_lengths, n_names_lengths, .inl F_names_lengths)), (byRank_, .inl (k_byRank, n_byRank, .inl F_byRank))]) (va_A [(h0, .inr (2, [.ref names_, .ref values_, .ref byRank_, .ref ranks_])), (names_, .inr (6, [.int names_size_, .ref names_starts_, .ref names_lengths_, .ref names_text_, .int names_used_])), (names_lengths_, .inl (k_names_lengths, n_names_lengths, .inl F_names_lengths)), (byRank_, .inl (k_byRank, n_byRank, .inl F_byRank))] sz)) 0 0 (va_A [(h0, .inr (2, [.ref names_, .ref values_, .ref byRank_, .ref ranks_])), (names_, .inr (6, [.int names_size_, .ref names_starts_, .ref names_lengths_, .ref names_text_, .int names_used_])), (names_lengths_, .inl (k_names_lengths, n_names_lengths, .inl F_names_lengths)), (byRank_, .inl (k_byRank, n_byRank, .inl F_byRank))] sz) := by
  refine Met.ofW (cc := cd_Co_lengthAt) (maxL := 2) (ret := (some (.int))) (by decide) rfl ?_
  intro p e s m args below meth c s₁ B hml hv
  obtain ⟨rfl, hsz, hP, hK, hD0⟩ := hv
  have hx := B.exec
  have hb := B.bytes
  have hr := B.returns
  have hT : ∀ w ∈ tblG, w.before _ s = true := fun w h => atoms_spec (ws := (Cond.code my_Co_lengthAt cd_Co_lengthAt 2 (some (.int)) :: tblG)) B.pre w (List.mem_cons_of_mem _ h)
  have hown : s.vm.findClass "StrataBase$Constants" = some m.cls := findClass_of_methodNamed B.named
  have hlocks := B.notSynchronized
  subst hsz
  have hD := hD0.self (sz := s.heap.size)
  generalize hAe : va_A [(h0, .inr (2, [.ref names_, .ref values_, .ref byRank_, .ref ranks_])), (names_, .inr (6, [.int names_size_, .ref names_starts_, .ref names_lengths_, .ref names_text_, .int names_used_])), (names_lengths_, .inl (k_names_lengths, n_names_lengths, .inl F_names_lengths)), (byRank_, .inl (k_byRank, n_byRank, .inl F_byRank))] s.heap.size = A at hD ⊢
  have hA : ∀ q : Nat, s.heap.size ≤ q → A q := fun q h => by rw [← hAe]; exact Or.inr h
  have hS : va_S A s.heap s.heap [] := va_S.rf
  have hl := lv_entry ([.ref h0, .int a0]) (n := 2) (Nat.le_of_ble_eq_true rfl)
  rw [lg_entry_eq]
  generalize (lg_sl ([.ref h0, .int a0]) ++ List.replicate (2 - (lg_sl ([.ref h0, .int a0])).length) Slot.unset).toArray = ls at hl ⊢
  have hl : lv_has ls 2 [(0, .ref h0), (1, .int a0)] := hl
  unfold wp_met_Co_lengthAt at hw
  refine lv_aload_n hx hb dc_Co_lengthAt_0 rfl (lv_at hl 0 rfl) ?_
  refine va_get (D := (dC, dI)) (ci := 2) (v := .ref names_) (C := "StrataBase$Constants") (T := tb_Co) (N := 4) hx hb hT in_Co hown hK hP 0 rfl rfl 0 (by decide) (hT _ wd_132) (fun _ h9 => h9) rfl dc_Co_lengthAt_1 ?_
  refine lv_aload_n hx hb dc_Co_lengthAt_4 rfl (lv_at hl 0 rfl) ?_
  refine va_get (D := (dC, dI)) (ci := 2) (v := .ref byRank_) (C := "StrataBase$Constants") (T := tb_Co) (N := 4) hx hb hT in_Co hown hK hP 0 rfl rfl 2 (by decide) (hT _ wd_134) (fun _ h9 => h9) rfl dc_Co_lengthAt_5 ?_
  refine lv_iload_n hx hb dc_Co_lengthAt_8 rfl (lv_at hl 1 rfl) ?_
  obtain ⟨hv1, hw⟩ := hw
  refine va_iald hx hb hK hP 3 1 rfl rfl hv1 dc_Co_lengthAt_9 ?_
  refine lv_topi (fun y2 ey2 => ?_)
  have hw := hw y2 ey2
  have hPc := hP.sub (ws' := [(names_, .inr (6, [.int names_size_, .ref names_starts_, .ref names_lengths_, .ref names_text_, .int names_used_])), (names_lengths_, .inl (k_names_lengths, n_names_lengths, .inl F_names_lengths))]) [1, 2] rfl
  have hDc := hD.sub (ws' := [(names_, .inr (6, [.int names_size_, .ref names_starts_, .ref names_lengths_, .ref names_text_, .int names_used_])), (names_lengths_, .inl (k_names_lengths, n_names_lengths, .inl F_names_lengths))]) [1, 2] (by decide) rfl
  have hKc := hK.sub (tys' := [(k_names_lengths, .int)]) [0] rfl
  have hFc := va_free (wc := [(names_, .inr (6, [.int names_size_, .ref names_starts_, .ref names_lengths_, .ref names_text_, .int names_used_])), (names_lengths_, .inl (k_names_lengths, n_names_lengths, .inl F_names_lengths))]) hD hS hA [1, 2] rfl
  refine va_calli (va_runV (As := [.int y2]) (rest := []) ⟨hx, hb, hml, hown, hT⟩ (met_Na_lengthOf l dC dI n_names_lengths names_ names_starts_ names_lengths_ names_text_ y2 names_size_ names_used_ F_names_lengths k_names_lengths s.heap.size hw) (cwV 1 hT (gd_V wd_1309 wd_1310 wd_1311 wd_4 wd_1312) rfl rfl rfl (by decide +kernel) ⟨Nat.le_of_ble_eq_true rfl, Nat.le_of_ble_eq_true rfl⟩) ⟨fun a U g mk q => by obtain ⟨q0, q1, qP, qK, qD⟩ := q; exact ⟨q0, q1, qP, va_K.moved (u := U) (U := U.calling g mk a) (Vm.Alike.refl U.vm) qK, qD⟩, va_recv hK hP (q0 := 1) (ci := 6) rfl rfl, fun U hU hW => ⟨rfl, by rw [hU], by rw [hU]; exact hPc, va_K.moved hW.alike hKc, hDc.weaken (fun _ _ _ _ => trivial)⟩⟩ rfl rfl hl.1 rfl (lv_room (Nat.le_of_ble_eq_true rfl)) dc_Co_lengthAt_10 ⟨(Nat.le_of_ble_eq_true rfl), (Nat.le_of_ble_eq_true rfl)⟩) hS (fun q _ h => hFc q h) hFc (fun r3 _ t H1 locs ht hvm hw hB hz1 hk1 hS => ?_)
  obtain ⟨hP1, hK1, hD1⟩ := hB
  rw [ht] at hP1
  have hK1 := va_K.moved hvm.symm hK1
  obtain ⟨hP, hD⟩ := va_join (wr := [(h0, .inr (2, [.ref names_, .ref values_, .ref byRank_, .ref ranks_])), (byRank_, .inl (k_byRank, n_byRank, .inl F_byRank))]) (w1 := [(names_, .inr (6, [.int names_size_, .ref names_starts_, .ref names_lengths_, .ref names_text_, .int names_used_])), (names_lengths_, .inl (k_names_lengths, n_names_lengths, .inl F_names_lengths))]) hP hD [1, 2] [0, 3] rfl rfl (by decide) (by decide) hk1 hFc hP1 hD1
  have hK := (hK.sub (tys' := [(k_byRank, .int)]) [1] rfl).app hK1
  generalize H1 = H at hP hS ⊢
  have hP : va_P (dC, dI) vwCl [(h0, .inr (2, [.ref names_, .ref values_, .ref byRank_, .ref ranks_])), (byRank_, .inl (k_byRank, n_byRank, .inl F_byRank)), (names_, .inr (6, [.int names_size_, .ref names_starts_, .ref names_lengths_, .ref names_text_, .int names_used_])), (names_lengths_, .inl (k_names_lengths, n_names_lengths, .inl F_names_lengths))] H := hP
  have hD : va_D A [(h0, .inr (2, [.ref names_, .ref values_, .ref byRank_, .ref ranks_])), (byRank_, .inl (k_byRank, n_byRank, .inl F_byRank)), (names_, .inr (6, [.int names_size_, .ref names_starts_, .ref names_lengths_, .ref names_text_, .int names_used_])), (names_lengths_, .inl (k_names_lengths, n_names_lengths, .inl F_names_lengths))] := hD
  have hK : va_K (dC, dI) vwCl [(k_byRank, .int), (k_names_lengths, .int)] s := hK
  have hP := hP.sub (ws' := [(h0, .inr (2, [.ref names_, .ref values_, .ref byRank_, .ref ranks_])), (names_, .inr (6, [.int names_size_, .ref names_starts_, .ref names_lengths_, .ref names_text_, .int names_used_])), (names_lengths_, .inl (k_names_lengths, n_names_lengths, .inl F_names_lengths)), (byRank_, .inl (k_byRank, n_byRank, .inl F_byRank))]) [0, 2, 3, 1] rfl
  have hD := hD.sub (ws' := [(h0, .inr (2, [.ref names_, .ref values_, .ref byRank_, .ref ranks_])), (names_, .inr (6, [.int names_size_, .ref names_starts_, .ref names_lengths_, .ref names_text_, .int names_used_])), (names_lengths_, .inl (k_names_lengths, n_names_lengths, .inl F_names_lengths)), (byRank_, .inl (k_byRank, n_byRank, .inl F_byRank))]) [0, 2, 3, 1] (by decide) rfl
  have hK := hK.sub (tys' := [(k_names_lengths, .int), (k_byRank, .int)]) [1, 0] rfl
  refine W.widen (k := 0) (n := 0) (Nat.le_of_ble_eq_true rfl) (Nat.le_of_ble_eq_true rfl) ?_
  exact W.iret (v := r3) hx hb hr (fun t ht hW => ⟨⟨r3, (), rfl, hw, by rw [ht]; exact hP, va_K.moved hW.alike hK, hD⟩, hS.F ht⟩) hS.2.2 dc_Co_lengthAt_13

def wp_met_Co_valueAt (post : Int32 → Unit → Prop) (n_values : Nat) (n_byRank : Nat) (a0 : Int32) (F_values : Nat → Int32) (F_byRank : Nat → Int32) : Prop := vp_in a0 n_byRank ∧ (∀ y2 : Int32, y2 = F_byRank a0.toNatClampNeg → (vp_in y2 n_values ∧ (∀ y4 : Int32, y4 = F_values y2.toNatClampNeg → (post y4 ()))))
set_option maxHeartbeats 4000000 in
set_option maxRecDepth 100000 in
theorem met_Co_valueAt (l : Launch) (dC : Nat → ClassId) (dI : Nat → Nat → Nat) (n_values : Nat) (n_byRank : Nat) (h0 : Nat) (names_ : Nat) (values_ : Nat) (byRank_ : Nat) (ranks_ : Nat) (a0 : Int32) (F_values : Nat → Int32) (F_byRank : Nat → Int32) (k_values : ClassId) (k_byRank : ClassId) (sz : Nat) {post : Int32 → Unit → Prop} (hw : wp_met_Co_valueAt post n_values n_byRank a0 F_values F_byRank) : Met l my_Co_valueAt (Cond.code my_Co_valueAt cd_Co_valueAt 2 (some (.int)) :: tblG) ({ frames := 0, cells := 0, slots := 0, locals := 0 }) (va_Pc [.ref h0, .int a0] (fun U => U.heap.size = sz ∧ va_P (dC, dI) vwCl [(h0, .inr (2, [.ref names_, .ref values_, .ref byRank_, .ref ranks_])), (values_, .inl (k_values, n_values, .inl F_values)), (byRank_, .inl (k_byRank, n_byRank, .inl F_byRank))] U.heap ∧ va_K (dC, dI) vwCl [(k_values, .int), (k_byRank, .int)] U ∧ va_D (fun _ => True) [(h0, .inr (2, [.ref names_, .ref values_, .ref byRank_, .ref ranks_])), (values_, .inl (k_values, n_values, .inl F_values)), (byRank_, .inl (k_byRank, n_byRank, .inl F_byRank))])) (va_Qi post (fun (u : Unit) (t : State) => va_P (dC, dI) vwCl [(h0, .inr (2, [.ref names_, .ref values_, .ref byRank_, .ref ranks_])), (values_, .inl (k_values, n_values, .inl F_values)), (byRank_, .inl (k_byRank, n_byRank, .inl F_byRank))] t.heap ∧ va_K (dC, dI) vwCl [(k_values, .int), (k_byRank, .int)] t ∧ va_D (va_A [(h0, .inr (2, [.ref names_, .ref values_, .ref byRank_, .ref ranks_])), (values_, .inl (k_values, n_values, .inl F_values)), (byRank_, .inl (k_byRank, n_byRank, .inl F_byRank))] sz) [(h0, .inr (2, [.ref names_, .ref values_, .ref byRank_, .ref ranks_])), (values_, .inl (k_values, n_values, .inl F_values)), (byRank_, .inl (k_byRank, n_byRank, .inl F_byRank))]) (va_A [(h0, .inr (2, [.ref names_, .ref values_, .ref byRank_, .ref ranks_])), (values_, .inl (k_values, n_values, .inl F_values)), (byRank_, .inl (k_byRank, n_byRank, .inl F_byRank))] sz)) 0 0 (va_A [(h0, .inr (2, [.ref names_, .ref values_, .ref byRank_, .ref ranks_])), (values_, .inl (k_values, n_values, .inl F_values)), (byRank_, .inl (k_byRank, n_byRank, .inl F_byRank))] sz) := by
  refine Met.ofW (cc := cd_Co_valueAt) (maxL := 2) (ret := (some (.int))) (by decide) rfl ?_
  intro p e s m args below meth c s₁ B hml hv
  obtain ⟨rfl, hsz, hP, hK, hD0⟩ := hv
  have hx := B.exec
  have hb := B.bytes
  have hr := B.returns
  have hT : ∀ w ∈ tblG, w.before _ s = true := fun w h => atoms_spec (ws := (Cond.code my_Co_valueAt cd_Co_valueAt 2 (some (.int)) :: tblG)) B.pre w (List.mem_cons_of_mem _ h)
  have hown : s.vm.findClass "StrataBase$Constants" = some m.cls := findClass_of_methodNamed B.named
  have hlocks := B.notSynchronized
  subst hsz
  have hD := hD0.self (sz := s.heap.size)
  generalize hAe : va_A [(h0, .inr (2, [.ref names_, .ref values_, .ref byRank_, .ref ranks_])), (values_, .inl (k_values, n_values, .inl F_values)), (byRank_, .inl (k_byRank, n_byRank, .inl F_byRank))] s.heap.size = A at hD ⊢
  have hA : ∀ q : Nat, s.heap.size ≤ q → A q := fun q h => by rw [← hAe]; exact Or.inr h
  have hS : va_S A s.heap s.heap [] := va_S.rf
  have hl := lv_entry ([.ref h0, .int a0]) (n := 2) (Nat.le_of_ble_eq_true rfl)
  rw [lg_entry_eq]
  generalize (lg_sl ([.ref h0, .int a0]) ++ List.replicate (2 - (lg_sl ([.ref h0, .int a0])).length) Slot.unset).toArray = ls at hl ⊢
  have hl : lv_has ls 2 [(0, .ref h0), (1, .int a0)] := hl
  unfold wp_met_Co_valueAt at hw
  refine lv_aload_n hx hb dc_Co_valueAt_0 rfl (lv_at hl 0 rfl) ?_
  refine va_get (D := (dC, dI)) (ci := 2) (v := .ref values_) (C := "StrataBase$Constants") (T := tb_Co) (N := 4) hx hb hT in_Co hown hK hP 0 rfl rfl 1 (by decide) (hT _ wd_133) (fun _ h9 => h9) rfl dc_Co_valueAt_1 ?_
  refine lv_aload_n hx hb dc_Co_valueAt_4 rfl (lv_at hl 0 rfl) ?_
  refine va_get (D := (dC, dI)) (ci := 2) (v := .ref byRank_) (C := "StrataBase$Constants") (T := tb_Co) (N := 4) hx hb hT in_Co hown hK hP 0 rfl rfl 2 (by decide) (hT _ wd_134) (fun _ h9 => h9) rfl dc_Co_valueAt_5 ?_
  refine lv_iload_n hx hb dc_Co_valueAt_8 rfl (lv_at hl 1 rfl) ?_
  obtain ⟨hv1, hw⟩ := hw
  refine va_iald hx hb hK hP 2 1 rfl rfl hv1 dc_Co_valueAt_9 ?_
  refine lv_topi (fun y2 ey2 => ?_)
  have hw := hw y2 ey2
  obtain ⟨hv3, hw⟩ := hw
  refine va_iald hx hb hK hP 1 0 rfl rfl hv3 dc_Co_valueAt_10 ?_
  refine lv_topi (fun y4 ey4 => ?_)
  have hw := hw y4 ey4
  refine W.widen (k := 0) (n := 0) (Nat.le_of_ble_eq_true rfl) (Nat.le_of_ble_eq_true rfl) ?_
  exact W.iret (v := y4) hx hb hr (fun t ht hW => ⟨⟨y4, (), rfl, hw, by rw [ht]; exact hP, va_K.moved hW.alike hK, hD⟩, hS.F ht⟩) hS.2.2 dc_Co_valueAt_11

def wp_met_Co_byteAt (post : Int32 → Unit → Prop) (n_names_starts : Nat) (n_names_text : Nat) (n_byRank : Nat) (a0 : Int32) (a1 : Int32) (F_names_starts : Nat → Int32) (F_names_text : Nat → Int32) (F_byRank : Nat → Int32) : Prop := vp_in a0 n_byRank ∧ (∀ y2 : Int32, y2 = F_byRank a0.toNatClampNeg → (wp_met_Na_byteOf (fun (r3 : Int32) (_ : Unit) => (post r3 ())) n_names_starts n_names_text y2 a1 F_names_starts F_names_text))
set_option maxHeartbeats 4000000 in
set_option maxRecDepth 100000 in
theorem met_Co_byteAt (l : Launch) (dC : Nat → ClassId) (dI : Nat → Nat → Nat) (n_names_starts : Nat) (n_names_text : Nat) (n_byRank : Nat) (h0 : Nat) (names_ : Nat) (values_ : Nat) (byRank_ : Nat) (ranks_ : Nat) (names_starts_ : Nat) (names_lengths_ : Nat) (names_text_ : Nat) (a0 : Int32) (a1 : Int32) (names_size_ : Int32) (names_used_ : Int32) (F_names_starts : Nat → Int32) (F_names_text : Nat → Int32) (F_byRank : Nat → Int32) (k_names_starts : ClassId) (k_names_text : ClassId) (k_byRank : ClassId) (sz : Nat) {post : Int32 → Unit → Prop} (hw : wp_met_Co_byteAt post n_names_starts n_names_text n_byRank a0 a1 F_names_starts F_names_text F_byRank) : Met l my_Co_byteAt (Cond.code my_Co_byteAt cd_Co_byteAt 3 (some (.int)) :: tblG) ({ frames := 1, cells := 0, slots := 0, locals := 22 }) (va_Pc [.ref h0, .int a0, .int a1] (fun U => U.heap.size = sz ∧ va_P (dC, dI) vwCl [(h0, .inr (2, [.ref names_, .ref values_, .ref byRank_, .ref ranks_])), (names_, .inr (6, [.int names_size_, .ref names_starts_, .ref names_lengths_, .ref names_text_, .int names_used_])), (names_starts_, .inl (k_names_starts, n_names_starts, .inl F_names_starts)), (names_text_, .inl (k_names_text, n_names_text, .inl F_names_text)), (byRank_, .inl (k_byRank, n_byRank, .inl F_byRank))] U.heap ∧ va_K (dC, dI) vwCl [(k_names_starts, .int), (k_names_text, .byte), (k_byRank, .int)] U ∧ va_D (fun _ => True) [(h0, .inr (2, [.ref names_, .ref values_, .ref byRank_, .ref ranks_])), (names_, .inr (6, [.int names_size_, .ref names_starts_, .ref names_lengths_, .ref names_text_, .int names_used_])), (names_starts_, .inl (k_names_starts, n_names_starts, .inl F_names_starts)), (names_text_, .inl (k_names_text, n_names_text, .inl F_names_text)), (byRank_, .inl (k_byRank, n_byRank, .inl F_byRank))])) (va_Qi post (fun (u : Unit) (t : State) => va_P (dC, dI) vwCl [(h0, .inr (2, [.ref names_, .ref values_, .ref byRank_, .ref ranks_])), (names_, .inr (6, [.int names_size_, .ref names_starts_, .ref names_lengths_, .ref names_text_, .int names_used_])), (names_starts_, .inl (k_names_starts, n_names_starts, .inl F_names_starts)), (names_text_, .inl (k_names_text, n_names_text, .inl F_names_text)), (byRank_, .inl (k_byRank, n_byRank, .inl F_byRank))] t.heap ∧ va_K (dC, dI) vwCl [(k_names_starts, .int), (k_names_text, .byte), (k_byRank, .int)] t ∧ va_D (va_A [(h0, .inr (2, [.ref names_, .ref values_, .ref byRank_, .ref ranks_])), (names_, .inr (6, [.int names_size_, .ref names_starts_, .ref names_lengths_, .ref names_text_, .int names_used_])), (names_starts_, .inl (k_names_starts, n_names_starts, .inl F_names_starts)), (names_text_, .inl (k_names_text, n_names_text, .inl F_names_text)), (byRank_, .inl (k_byRank, n_byRank, .inl F_byRank))] sz) [(h0, .inr (2, [.ref names_, .ref values_, .ref byRank_, .ref ranks_])), (names_, .inr (6, [.int names_size_, .ref names_starts_, .ref names_lengths_, .ref names_text_, .int names_used_])), (names_starts_, .inl (k_names_starts, n_names_starts, .inl F_names_starts)), (names_text_, .inl (k_names_text, n_names_text, .inl F_names_text)), (byRank_, .inl (k_byRank, n_byRank, .inl F_byRank))]) (va_A [(h0, .inr (2, [.ref names_, .ref values_, .ref byRank_, .ref ranks_])), (names_, .inr (6, [.int names_size_, .ref names_starts_, .ref names_lengths_, .ref names_text_, .int names_used_])), (names_starts_, .inl (k_names_starts, n_names_starts, .inl F_names_starts)), (names_text_, .inl (k_names_text, n_names_text, .inl F_names_text)), (byRank_, .inl (k_byRank, n_byRank, .inl F_byRank))] sz)) 0 0 (va_A [(h0, .inr (2, [.ref names_, .ref values_, .ref byRank_, .ref ranks_])), (names_, .inr (6, [.int names_size_, .ref names_starts_, .ref names_lengths_, .ref names_text_, .int names_used_])), (names_starts_, .inl (k_names_starts, n_names_starts, .inl F_names_starts)), (names_text_, .inl (k_names_text, n_names_text, .inl F_names_text)), (byRank_, .inl (k_byRank, n_byRank, .inl F_byRank))] sz) := by
  refine Met.ofW (cc := cd_Co_byteAt) (maxL := 3) (ret := (some (.int))) (by decide) rfl ?_
  intro p e s m args below meth c s₁ B hml hv
  obtain ⟨rfl, hsz, hP, hK, hD0⟩ := hv
  have hx := B.exec
  have hb := B.bytes
  have hr := B.returns
  have hT : ∀ w ∈ tblG, w.before _ s = true := fun w h => atoms_spec (ws := (Cond.code my_Co_byteAt cd_Co_byteAt 3 (some (.int)) :: tblG)) B.pre w (List.mem_cons_of_mem _ h)
  have hown : s.vm.findClass "StrataBase$Constants" = some m.cls := findClass_of_methodNamed B.named
  have hlocks := B.notSynchronized
  subst hsz
  have hD := hD0.self (sz := s.heap.size)
  generalize hAe : va_A [(h0, .inr (2, [.ref names_, .ref values_, .ref byRank_, .ref ranks_])), (names_, .inr (6, [.int names_size_, .ref names_starts_, .ref names_lengths_, .ref names_text_, .int names_used_])), (names_starts_, .inl (k_names_starts, n_names_starts, .inl F_names_starts)), (names_text_, .inl (k_names_text, n_names_text, .inl F_names_text)), (byRank_, .inl (k_byRank, n_byRank, .inl F_byRank))] s.heap.size = A at hD ⊢
  have hA : ∀ q : Nat, s.heap.size ≤ q → A q := fun q h => by rw [← hAe]; exact Or.inr h
  have hS : va_S A s.heap s.heap [] := va_S.rf
  have hl := lv_entry ([.ref h0, .int a0, .int a1]) (n := 3) (Nat.le_of_ble_eq_true rfl)
  rw [lg_entry_eq]
  generalize (lg_sl ([.ref h0, .int a0, .int a1]) ++ List.replicate (3 - (lg_sl ([.ref h0, .int a0, .int a1])).length) Slot.unset).toArray = ls at hl ⊢
  have hl : lv_has ls 3 [(0, .ref h0), (1, .int a0), (2, .int a1)] := hl
  unfold wp_met_Co_byteAt at hw
  refine lv_aload_n hx hb dc_Co_byteAt_0 rfl (lv_at hl 0 rfl) ?_
  refine va_get (D := (dC, dI)) (ci := 2) (v := .ref names_) (C := "StrataBase$Constants") (T := tb_Co) (N := 4) hx hb hT in_Co hown hK hP 0 rfl rfl 0 (by decide) (hT _ wd_132) (fun _ h9 => h9) rfl dc_Co_byteAt_1 ?_
  refine lv_aload_n hx hb dc_Co_byteAt_4 rfl (lv_at hl 0 rfl) ?_
  refine va_get (D := (dC, dI)) (ci := 2) (v := .ref byRank_) (C := "StrataBase$Constants") (T := tb_Co) (N := 4) hx hb hT in_Co hown hK hP 0 rfl rfl 2 (by decide) (hT _ wd_134) (fun _ h9 => h9) rfl dc_Co_byteAt_5 ?_
  refine lv_iload_n hx hb dc_Co_byteAt_8 rfl (lv_at hl 1 rfl) ?_
  obtain ⟨hv1, hw⟩ := hw
  refine va_iald hx hb hK hP 4 2 rfl rfl hv1 dc_Co_byteAt_9 ?_
  refine lv_topi (fun y2 ey2 => ?_)
  have hw := hw y2 ey2
  refine lv_iload_n hx hb dc_Co_byteAt_10 rfl (lv_at hl 2 rfl) ?_
  have hPc := hP.sub (ws' := [(names_, .inr (6, [.int names_size_, .ref names_starts_, .ref names_lengths_, .ref names_text_, .int names_used_])), (names_starts_, .inl (k_names_starts, n_names_starts, .inl F_names_starts)), (names_text_, .inl (k_names_text, n_names_text, .inl F_names_text))]) [1, 2, 3] rfl
  have hDc := hD.sub (ws' := [(names_, .inr (6, [.int names_size_, .ref names_starts_, .ref names_lengths_, .ref names_text_, .int names_used_])), (names_starts_, .inl (k_names_starts, n_names_starts, .inl F_names_starts)), (names_text_, .inl (k_names_text, n_names_text, .inl F_names_text))]) [1, 2, 3] (by decide) rfl
  have hKc := hK.sub (tys' := [(k_names_starts, .int), (k_names_text, .byte)]) [0, 1] rfl
  have hFc := va_free (wc := [(names_, .inr (6, [.int names_size_, .ref names_starts_, .ref names_lengths_, .ref names_text_, .int names_used_])), (names_starts_, .inl (k_names_starts, n_names_starts, .inl F_names_starts)), (names_text_, .inl (k_names_text, n_names_text, .inl F_names_text))]) hD hS hA [1, 2, 3] rfl
  refine va_calli (va_runV (As := [.int y2, .int a1]) (rest := []) ⟨hx, hb, hml, hown, hT⟩ (met_Na_byteOf l dC dI n_names_starts n_names_text names_ names_starts_ names_lengths_ names_text_ y2 a1 names_size_ names_used_ F_names_starts F_names_text k_names_starts k_names_text s.heap.size hw) (cwV 2 hT (gd_V wd_1335 wd_1336 wd_1337 wd_4 wd_1338) rfl rfl rfl (by decide +kernel) ⟨Nat.le_of_ble_eq_true rfl, Nat.le_of_ble_eq_true rfl⟩) ⟨fun a U g mk q => by obtain ⟨q0, q1, qP, qK, qD⟩ := q; exact ⟨q0, q1, qP, va_K.moved (u := U) (U := U.calling g mk a) (Vm.Alike.refl U.vm) qK, qD⟩, va_recv hK hP (q0 := 1) (ci := 6) rfl rfl, fun U hU hW => ⟨rfl, by rw [hU], by rw [hU]; exact hPc, va_K.moved hW.alike hKc, hDc.weaken (fun _ _ _ _ => trivial)⟩⟩ rfl rfl hl.1 rfl (lv_room (Nat.le_of_ble_eq_true rfl)) dc_Co_byteAt_11 ⟨(Nat.le_of_ble_eq_true rfl), (Nat.le_of_ble_eq_true rfl)⟩) hS (fun q _ h => hFc q h) hFc (fun r3 _ t H1 locs ht hvm hw hB hz1 hk1 hS => ?_)
  obtain ⟨hP1, hK1, hD1⟩ := hB
  rw [ht] at hP1
  have hK1 := va_K.moved hvm.symm hK1
  obtain ⟨hP, hD⟩ := va_join (wr := [(h0, .inr (2, [.ref names_, .ref values_, .ref byRank_, .ref ranks_])), (byRank_, .inl (k_byRank, n_byRank, .inl F_byRank))]) (w1 := [(names_, .inr (6, [.int names_size_, .ref names_starts_, .ref names_lengths_, .ref names_text_, .int names_used_])), (names_starts_, .inl (k_names_starts, n_names_starts, .inl F_names_starts)), (names_text_, .inl (k_names_text, n_names_text, .inl F_names_text))]) hP hD [1, 2, 3] [0, 4] rfl rfl (by decide) (by decide) hk1 hFc hP1 hD1
  have hK := (hK.sub (tys' := [(k_byRank, .int)]) [2] rfl).app hK1
  generalize H1 = H at hP hS ⊢
  have hP : va_P (dC, dI) vwCl [(h0, .inr (2, [.ref names_, .ref values_, .ref byRank_, .ref ranks_])), (byRank_, .inl (k_byRank, n_byRank, .inl F_byRank)), (names_, .inr (6, [.int names_size_, .ref names_starts_, .ref names_lengths_, .ref names_text_, .int names_used_])), (names_starts_, .inl (k_names_starts, n_names_starts, .inl F_names_starts)), (names_text_, .inl (k_names_text, n_names_text, .inl F_names_text))] H := hP
  have hD : va_D A [(h0, .inr (2, [.ref names_, .ref values_, .ref byRank_, .ref ranks_])), (byRank_, .inl (k_byRank, n_byRank, .inl F_byRank)), (names_, .inr (6, [.int names_size_, .ref names_starts_, .ref names_lengths_, .ref names_text_, .int names_used_])), (names_starts_, .inl (k_names_starts, n_names_starts, .inl F_names_starts)), (names_text_, .inl (k_names_text, n_names_text, .inl F_names_text))] := hD
  have hK : va_K (dC, dI) vwCl [(k_byRank, .int), (k_names_starts, .int), (k_names_text, .byte)] s := hK
  have hP := hP.sub (ws' := [(h0, .inr (2, [.ref names_, .ref values_, .ref byRank_, .ref ranks_])), (names_, .inr (6, [.int names_size_, .ref names_starts_, .ref names_lengths_, .ref names_text_, .int names_used_])), (names_starts_, .inl (k_names_starts, n_names_starts, .inl F_names_starts)), (names_text_, .inl (k_names_text, n_names_text, .inl F_names_text)), (byRank_, .inl (k_byRank, n_byRank, .inl F_byRank))]) [0, 2, 3, 4, 1] rfl
  have hD := hD.sub (ws' := [(h0, .inr (2, [.ref names_, .ref values_, .ref byRank_, .ref ranks_])), (names_, .inr (6, [.int names_size_, .ref names_starts_, .ref names_lengths_, .ref names_text_, .int names_used_])), (names_starts_, .inl (k_names_starts, n_names_starts, .inl F_names_starts)), (names_text_, .inl (k_names_text, n_names_text, .inl F_names_text)), (byRank_, .inl (k_byRank, n_byRank, .inl F_byRank))]) [0, 2, 3, 4, 1] (by decide) rfl
  have hK := hK.sub (tys' := [(k_names_starts, .int), (k_names_text, .byte), (k_byRank, .int)]) [1, 2, 0] rfl
  refine W.widen (k := 0) (n := 0) (Nat.le_of_ble_eq_true rfl) (Nat.le_of_ble_eq_true rfl) ?_
  exact W.iret (v := r3) hx hb hr (fun t ht hW => ⟨⟨r3, (), rfl, hw, by rw [ht]; exact hP, va_K.moved hW.alike hK, hD⟩, hS.F ht⟩) hS.2.2 dc_Co_byteAt_14
