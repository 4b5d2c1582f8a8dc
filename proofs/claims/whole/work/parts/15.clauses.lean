theorem dc_Cl_codeOfRank_0 : decode cd_Cl_codeOfRank 0 = .ok (.iconst 2, 1) := by decide +kernel
theorem dc_Cl_codeOfRank_1 : decode cd_Cl_codeOfRank 1 = .ok (.iload_n 0, 1) := by decide +kernel
theorem dc_Cl_codeOfRank_2 : decode cd_Cl_codeOfRank 2 = .ok (.imul, 1) := by decide +kernel
theorem dc_Cl_codeOfRank_3 : decode cd_Cl_codeOfRank 3 = .ok (.iconst 1, 1) := by decide +kernel
theorem dc_Cl_codeOfRank_4 : decode cd_Cl_codeOfRank 4 = .ok (.iadd, 1) := by decide +kernel
theorem dc_Cl_codeOfRank_5 : decode cd_Cl_codeOfRank 5 = .ok (.ireturn, 1) := by decide +kernel
theorem dc_Cl_add_0 : decode cd_Cl_add 0 = .ok (.aload_n 0, 1) := by decide +kernel
theorem dc_Cl_add_1 : decode cd_Cl_add 1 = .ok (.getfield 37, 3) := by decide +kernel
theorem dc_Cl_add_4 : decode cd_Cl_add 4 = .ok (.iconst 1, 1) := by decide +kernel
theorem dc_Cl_add_5 : decode cd_Cl_add 5 = .ok (.isub, 1) := by decide +kernel
theorem dc_Cl_add_6 : decode cd_Cl_add 6 = .ok (.istore_n 2, 1) := by decide +kernel
theorem dc_Cl_add_7 : decode cd_Cl_add 7 = .ok (.aload_n 0, 1) := by decide +kernel
theorem dc_Cl_add_8 : decode cd_Cl_add 8 = .ok (.iload_n 2, 1) := by decide +kernel
theorem dc_Cl_add_9 : decode cd_Cl_add 9 = .ok (.aload_n 0, 1) := by decide +kernel
theorem dc_Cl_add_10 : decode cd_Cl_add 10 = .ok (.getfield 24, 3) := by decide +kernel
theorem dc_Cl_add_13 : decode cd_Cl_add 13 = .ok (.iload_n 2, 1) := by decide +kernel
theorem dc_Cl_add_14 : decode cd_Cl_add 14 = .ok (.iaload, 1) := by decide +kernel
theorem dc_Cl_add_15 : decode cd_Cl_add 15 = .ok (.iload_n 1, 1) := by decide +kernel
theorem dc_Cl_add_16 : decode cd_Cl_add 16 = .ok (.invokevirtual 40, 3) := by decide +kernel
theorem dc_Cl_add_19 : decode cd_Cl_add 19 = .ok (.iload_n 1, 1) := by decide +kernel
theorem dc_Cl_add_20 : decode cd_Cl_add 20 = .ok (.bipush 16, 2) := by decide +kernel
theorem dc_Cl_add_22 : decode cd_Cl_add 22 = .ok (.if_icmp .ge 15, 3) := by decide +kernel
theorem dc_Cl_add_25 : decode cd_Cl_add 25 = .ok (.aload_n 0, 1) := by decide +kernel
theorem dc_Cl_add_26 : decode cd_Cl_add 26 = .ok (.getfield 27, 3) := by decide +kernel
theorem dc_Cl_add_29 : decode cd_Cl_add 29 = .ok (.iload_n 2, 1) := by decide +kernel
theorem dc_Cl_add_30 : decode cd_Cl_add 30 = .ok (.dup2, 1) := by decide +kernel
theorem dc_Cl_add_31 : decode cd_Cl_add 31 = .ok (.iaload, 1) := by decide +kernel
theorem dc_Cl_add_32 : decode cd_Cl_add 32 = .ok (.iconst 1, 1) := by decide +kernel
theorem dc_Cl_add_33 : decode cd_Cl_add 33 = .ok (.iload_n 1, 1) := by decide +kernel
theorem dc_Cl_add_34 : decode cd_Cl_add 34 = .ok (.ishl, 1) := by decide +kernel
theorem dc_Cl_add_35 : decode cd_Cl_add 35 = .ok (.ior, 1) := by decide +kernel
theorem dc_Cl_add_36 : decode cd_Cl_add 36 = .ok (.iastore, 1) := by decide +kernel
theorem dc_Cl_add_37 : decode cd_Cl_add 37 = .ok (.aload_n 0, 1) := by decide +kernel
theorem dc_Cl_add_38 : decode cd_Cl_add 38 = .ok (.getfield 24, 3) := by decide +kernel
theorem dc_Cl_add_41 : decode cd_Cl_add 41 = .ok (.iload_n 2, 1) := by decide +kernel
theorem dc_Cl_add_42 : decode cd_Cl_add 42 = .ok (.dup2, 1) := by decide +kernel
theorem dc_Cl_add_43 : decode cd_Cl_add 43 = .ok (.iaload, 1) := by decide +kernel
theorem dc_Cl_add_44 : decode cd_Cl_add 44 = .ok (.iconst 1, 1) := by decide +kernel
theorem dc_Cl_add_45 : decode cd_Cl_add 45 = .ok (.iadd, 1) := by decide +kernel
theorem dc_Cl_add_46 : decode cd_Cl_add 46 = .ok (.iastore, 1) := by decide +kernel
theorem dc_Cl_add_47 : decode cd_Cl_add 47 = .ok (.return_, 1) := by decide +kernel
theorem dc_Cl_hasBody_0 : decode cd_Cl_hasBody 0 = .ok (.aload_n 0, 1) := by decide +kernel
theorem dc_Cl_hasBody_1 : decode cd_Cl_hasBody 1 = .ok (.getfield 11, 3) := by decide +kernel
theorem dc_Cl_hasBody_4 : decode cd_Cl_hasBody 4 = .ok (.iload_n 1, 1) := by decide +kernel
theorem dc_Cl_hasBody_5 : decode cd_Cl_hasBody 5 = .ok (.iconst 1, 1) := by decide +kernel
theorem dc_Cl_hasBody_6 : decode cd_Cl_hasBody 6 = .ok (.iadd, 1) := by decide +kernel
theorem dc_Cl_hasBody_7 : decode cd_Cl_hasBody 7 = .ok (.iaload, 1) := by decide +kernel
theorem dc_Cl_hasBody_8 : decode cd_Cl_hasBody 8 = .ok (.aload_n 0, 1) := by decide +kernel
theorem dc_Cl_hasBody_9 : decode cd_Cl_hasBody 9 = .ok (.getfield 11, 3) := by decide +kernel
theorem dc_Cl_hasBody_12 : decode cd_Cl_hasBody 12 = .ok (.iload_n 1, 1) := by decide +kernel
theorem dc_Cl_hasBody_13 : decode cd_Cl_hasBody 13 = .ok (.iaload, 1) := by decide +kernel
theorem dc_Cl_hasBody_14 : decode cd_Cl_hasBody 14 = .ok (.isub, 1) := by decide +kernel
theorem dc_Cl_hasBody_15 : decode cd_Cl_hasBody 15 = .ok (.iconst 1, 1) := by decide +kernel
theorem dc_Cl_hasBody_16 : decode cd_Cl_hasBody 16 = .ok (.if_icmp .le 7, 3) := by decide +kernel
theorem dc_Cl_hasBody_19 : decode cd_Cl_hasBody 19 = .ok (.iconst 1, 1) := by decide +kernel
theorem dc_Cl_hasBody_20 : decode cd_Cl_hasBody 20 = .ok (.goto 4, 3) := by decide +kernel
theorem dc_Cl_hasBody_23 : decode cd_Cl_hasBody 23 = .ok (.iconst 0, 1) := by decide +kernel
theorem dc_Cl_hasBody_24 : decode cd_Cl_hasBody 24 = .ok (.ireturn, 1) := by decide +kernel
theorem dc_Cl_keyOf_0 : decode cd_Cl_keyOf 0 = .ok (.lconst 0, 1) := by decide +kernel
theorem dc_Cl_keyOf_1 : decode cd_Cl_keyOf 1 = .ok (.lstore_n 3, 1) := by decide +kernel
theorem dc_Cl_keyOf_2 : decode cd_Cl_keyOf 2 = .ok (.iconst 0, 1) := by decide +kernel
theorem dc_Cl_keyOf_3 : decode cd_Cl_keyOf 3 = .ok (.istore 5, 2) := by decide +kernel
theorem dc_Cl_keyOf_5 : decode cd_Cl_keyOf 5 = .ok (.iload 5, 2) := by decide +kernel
theorem dc_Cl_keyOf_7 : decode cd_Cl_keyOf 7 = .ok (.aload_n 0, 1) := by decide +kernel
theorem dc_Cl_keyOf_8 : decode cd_Cl_keyOf 8 = .ok (.getfield 24, 3) := by decide +kernel
theorem dc_Cl_keyOf_11 : decode cd_Cl_keyOf 11 = .ok (.iload_n 1, 1) := by decide +kernel
theorem dc_Cl_keyOf_12 : decode cd_Cl_keyOf 12 = .ok (.iaload, 1) := by decide +kernel
theorem dc_Cl_keyOf_13 : decode cd_Cl_keyOf 13 = .ok (.if_icmp .ge 52, 3) := by decide +kernel
theorem dc_Cl_keyOf_16 : decode cd_Cl_keyOf 16 = .ok (.aload_n 0, 1) := by decide +kernel
theorem dc_Cl_keyOf_17 : decode cd_Cl_keyOf 17 = .ok (.iload_n 1, 1) := by decide +kernel
theorem dc_Cl_keyOf_18 : decode cd_Cl_keyOf 18 = .ok (.iload 5, 2) := by decide +kernel
theorem dc_Cl_keyOf_20 : decode cd_Cl_keyOf 20 = .ok (.invokevirtual 44, 3) := by decide +kernel
theorem dc_Cl_keyOf_23 : decode cd_Cl_keyOf 23 = .ok (.istore 6, 2) := by decide +kernel
theorem dc_Cl_keyOf_25 : decode cd_Cl_keyOf 25 = .ok (.iload 6, 2) := by decide +kernel
theorem dc_Cl_keyOf_27 : decode cd_Cl_keyOf 27 = .ok (.bipush 16, 2) := by decide +kernel
theorem dc_Cl_keyOf_29 : decode cd_Cl_keyOf 29 = .ok (.if_icmp .ge 11, 3) := by decide +kernel
theorem dc_Cl_keyOf_32 : decode cd_Cl_keyOf 32 = .ok (.aload_n 2, 1) := by decide +kernel
theorem dc_Cl_keyOf_33 : decode cd_Cl_keyOf 33 = .ok (.iload 6, 2) := by decide +kernel
theorem dc_Cl_keyOf_35 : decode cd_Cl_keyOf 35 = .ok (.iaload, 1) := by decide +kernel
theorem dc_Cl_keyOf_36 : decode cd_Cl_keyOf 36 = .ok (.i2l, 1) := by decide +kernel
theorem dc_Cl_keyOf_37 : decode cd_Cl_keyOf 37 = .ok (.goto 9, 3) := by decide +kernel
theorem dc_Cl_keyOf_40 : decode cd_Cl_keyOf 40 = .ok (.iload 6, 2) := by decide +kernel
theorem dc_Cl_keyOf_42 : decode cd_Cl_keyOf 42 = .ok (.bipush 16, 2) := by decide +kernel
theorem dc_Cl_keyOf_44 : decode cd_Cl_keyOf 44 = .ok (.isub, 1) := by decide +kernel
theorem dc_Cl_keyOf_45 : decode cd_Cl_keyOf 45 = .ok (.i2l, 1) := by decide +kernel
theorem dc_Cl_keyOf_46 : decode cd_Cl_keyOf 46 = .ok (.lstore 7, 2) := by decide +kernel
theorem dc_Cl_keyOf_48 : decode cd_Cl_keyOf 48 = .ok (.lload_n 3, 1) := by decide +kernel
theorem dc_Cl_keyOf_49 : decode cd_Cl_keyOf 49 = .ok (.lload 7, 2) := by decide +kernel
theorem dc_Cl_keyOf_51 : decode cd_Cl_keyOf 51 = .ok (.iload 5, 2) := by decide +kernel
theorem dc_Cl_keyOf_53 : decode cd_Cl_keyOf 53 = .ok (.invokestatic 48, 3) := by decide +kernel
theorem dc_Cl_keyOf_56 : decode cd_Cl_keyOf 56 = .ok (.lshl, 1) := by decide +kernel
theorem dc_Cl_keyOf_57 : decode cd_Cl_keyOf 57 = .ok (.lor, 1) := by decide +kernel
theorem dc_Cl_keyOf_58 : decode cd_Cl_keyOf 58 = .ok (.lstore_n 3, 1) := by decide +kernel
theorem dc_Cl_keyOf_59 : decode cd_Cl_keyOf 59 = .ok (.iinc 5 1, 3) := by decide +kernel
theorem dc_Cl_keyOf_62 : decode cd_Cl_keyOf 62 = .ok (.goto (-57), 3) := by decide +kernel
theorem dc_Cl_keyOf_65 : decode cd_Cl_keyOf 65 = .ok (.lload_n 3, 1) := by decide +kernel
theorem dc_Cl_keyOf_66 : decode cd_Cl_keyOf 66 = .ok (.lreturn, 1) := by decide +kernel
theorem dc_Cl_orderCode_0 : decode cd_Cl_orderCode 0 = .ok (.aload_n 0, 1) := by decide +kernel
theorem dc_Cl_orderCode_1 : decode cd_Cl_orderCode 1 = .ok (.getfield 30, 3) := by decide +kernel
theorem dc_Cl_orderCode_4 : decode cd_Cl_orderCode 4 = .ok (.iload_n 1, 1) := by decide +kernel
theorem dc_Cl_orderCode_5 : decode cd_Cl_orderCode 5 = .ok (.bipush 6, 2) := by decide +kernel
theorem dc_Cl_orderCode_7 : decode cd_Cl_orderCode 7 = .ok (.imul, 1) := by decide +kernel
theorem dc_Cl_orderCode_8 : decode cd_Cl_orderCode 8 = .ok (.iload_n 2, 1) := by decide +kernel
theorem dc_Cl_orderCode_9 : decode cd_Cl_orderCode 9 = .ok (.iadd, 1) := by decide +kernel
theorem dc_Cl_orderCode_10 : decode cd_Cl_orderCode 10 = .ok (.iaload, 1) := by decide +kernel
theorem dc_Cl_orderCode_11 : decode cd_Cl_orderCode 11 = .ok (.istore 4, 2) := by decide +kernel
theorem dc_Cl_orderCode_13 : decode cd_Cl_orderCode 13 = .ok (.iload 4, 2) := by decide +kernel
theorem dc_Cl_orderCode_15 : decode cd_Cl_orderCode 15 = .ok (.bipush 16, 2) := by decide +kernel
theorem dc_Cl_orderCode_17 : decode cd_Cl_orderCode 17 = .ok (.if_icmp .ge 14, 3) := by decide +kernel
theorem dc_Cl_orderCode_20 : decode cd_Cl_orderCode 20 = .ok (.iconst 2, 1) := by decide +kernel
theorem dc_Cl_orderCode_21 : decode cd_Cl_orderCode 21 = .ok (.aload_n 3, 1) := by decide +kernel
theorem dc_Cl_orderCode_22 : decode cd_Cl_orderCode 22 = .ok (.iload 4, 2) := by decide +kernel
theorem dc_Cl_orderCode_24 : decode cd_Cl_orderCode 24 = .ok (.iaload, 1) := by decide +kernel
theorem dc_Cl_orderCode_25 : decode cd_Cl_orderCode 25 = .ok (.imul, 1) := by decide +kernel
theorem dc_Cl_orderCode_26 : decode cd_Cl_orderCode 26 = .ok (.iconst 1, 1) := by decide +kernel
theorem dc_Cl_orderCode_27 : decode cd_Cl_orderCode 27 = .ok (.iadd, 1) := by decide +kernel
theorem dc_Cl_orderCode_28 : decode cd_Cl_orderCode 28 = .ok (.goto 8, 3) := by decide +kernel
theorem dc_Cl_orderCode_31 : decode cd_Cl_orderCode 31 = .ok (.iload 4, 2) := by decide +kernel
theorem dc_Cl_orderCode_33 : decode cd_Cl_orderCode 33 = .ok (.bipush 16, 2) := by decide +kernel
theorem dc_Cl_orderCode_35 : decode cd_Cl_orderCode 35 = .ok (.isub, 1) := by decide +kernel
theorem dc_Cl_orderCode_36 : decode cd_Cl_orderCode 36 = .ok (.ireturn, 1) := by decide +kernel
theorem dc_Cl_compares_0 : decode cd_Cl_compares 0 = .ok (.aload_n 0, 1) := by decide +kernel
theorem dc_Cl_compares_1 : decode cd_Cl_compares 1 = .ok (.iload_n 1, 1) := by decide +kernel
theorem dc_Cl_compares_2 : decode cd_Cl_compares 2 = .ok (.iconst 0, 1) := by decide +kernel
theorem dc_Cl_compares_3 : decode cd_Cl_compares 3 = .ok (.aload_n 2, 1) := by decide +kernel
theorem dc_Cl_compares_4 : decode cd_Cl_compares 4 = .ok (.invokevirtual 54, 3) := by decide +kernel
theorem dc_Cl_compares_7 : decode cd_Cl_compares 7 = .ok (.istore_n 3, 1) := by decide +kernel
theorem dc_Cl_compares_8 : decode cd_Cl_compares 8 = .ok (.aload_n 0, 1) := by decide +kernel
theorem dc_Cl_compares_9 : decode cd_Cl_compares 9 = .ok (.iload_n 1, 1) := by decide +kernel
theorem dc_Cl_compares_10 : decode cd_Cl_compares 10 = .ok (.iconst 1, 1) := by decide +kernel
theorem dc_Cl_compares_11 : decode cd_Cl_compares 11 = .ok (.aload_n 2, 1) := by decide +kernel
theorem dc_Cl_compares_12 : decode cd_Cl_compares 12 = .ok (.invokevirtual 54, 3) := by decide +kernel
theorem dc_Cl_compares_15 : decode cd_Cl_compares 15 = .ok (.istore 4, 2) := by decide +kernel
theorem dc_Cl_compares_17 : decode cd_Cl_compares 17 = .ok (.aload_n 0, 1) := by decide +kernel
theorem dc_Cl_compares_18 : decode cd_Cl_compares 18 = .ok (.getfield 15, 3) := by decide +kernel
theorem dc_Cl_compares_21 : decode cd_Cl_compares 21 = .ok (.iload_n 1, 1) := by decide +kernel
theorem dc_Cl_compares_22 : decode cd_Cl_compares 22 = .ok (.iaload, 1) := by decide +kernel
theorem dc_Cl_compares_23 : decode cd_Cl_compares 23 = .ok (.tableswitch 93 11 15 #[33, 45, 57, 69, 81], 33) := by decide +kernel
theorem dc_Cl_compares_56 : decode cd_Cl_compares 56 = .ok (.iload_n 3, 1) := by decide +kernel
theorem dc_Cl_compares_57 : decode cd_Cl_compares 57 = .ok (.iload 4, 2) := by decide +kernel
theorem dc_Cl_compares_59 : decode cd_Cl_compares 59 = .ok (.if_icmp .ne 7, 3) := by decide +kernel
theorem dc_Cl_compares_62 : decode cd_Cl_compares 62 = .ok (.iconst 1, 1) := by decide +kernel
theorem dc_Cl_compares_63 : decode cd_Cl_compares 63 = .ok (.goto 4, 3) := by decide +kernel
theorem dc_Cl_compares_66 : decode cd_Cl_compares 66 = .ok (.iconst 0, 1) := by decide +kernel
theorem dc_Cl_compares_67 : decode cd_Cl_compares 67 = .ok (.ireturn, 1) := by decide +kernel
theorem dc_Cl_compares_68 : decode cd_Cl_compares 68 = .ok (.iload_n 3, 1) := by decide +kernel
theorem dc_Cl_compares_69 : decode cd_Cl_compares 69 = .ok (.iload 4, 2) := by decide +kernel
theorem dc_Cl_compares_71 : decode cd_Cl_compares 71 = .ok (.if_icmp .eq 7, 3) := by decide +kernel
theorem dc_Cl_compares_74 : decode cd_Cl_compares 74 = .ok (.iconst 1, 1) := by decide +kernel
theorem dc_Cl_compares_75 : decode cd_Cl_compares 75 = .ok (.goto 4, 3) := by decide +kernel
theorem dc_Cl_compares_78 : decode cd_Cl_compares 78 = .ok (.iconst 0, 1) := by decide +kernel
theorem dc_Cl_compares_79 : decode cd_Cl_compares 79 = .ok (.ireturn, 1) := by decide +kernel
theorem dc_Cl_compares_80 : decode cd_Cl_compares 80 = .ok (.iload_n 3, 1) := by decide +kernel
theorem dc_Cl_compares_81 : decode cd_Cl_compares 81 = .ok (.iload 4, 2) := by decide +kernel
theorem dc_Cl_compares_83 : decode cd_Cl_compares 83 = .ok (.if_icmp .ge 7, 3) := by decide +kernel
theorem dc_Cl_compares_86 : decode cd_Cl_compares 86 = .ok (.iconst 1, 1) := by decide +kernel
theorem dc_Cl_compares_87 : decode cd_Cl_compares 87 = .ok (.goto 4, 3) := by decide +kernel
theorem dc_Cl_compares_90 : decode cd_Cl_compares 90 = .ok (.iconst 0, 1) := by decide +kernel
theorem dc_Cl_compares_91 : decode cd_Cl_compares 91 = .ok (.ireturn, 1) := by decide +kernel
theorem dc_Cl_compares_92 : decode cd_Cl_compares 92 = .ok (.iload_n 3, 1) := by decide +kernel
theorem dc_Cl_compares_93 : decode cd_Cl_compares 93 = .ok (.iload 4, 2) := by decide +kernel
theorem dc_Cl_compares_95 : decode cd_Cl_compares 95 = .ok (.if_icmp .gt 7, 3) := by decide +kernel
theorem dc_Cl_compares_98 : decode cd_Cl_compares 98 = .ok (.iconst 1, 1) := by decide +kernel
theorem dc_Cl_compares_99 : decode cd_Cl_compares 99 = .ok (.goto 4, 3) := by decide +kernel
theorem dc_Cl_compares_102 : decode cd_Cl_compares 102 = .ok (.iconst 0, 1) := by decide +kernel
theorem dc_Cl_compares_103 : decode cd_Cl_compares 103 = .ok (.ireturn, 1) := by decide +kernel
theorem dc_Cl_compares_104 : decode cd_Cl_compares 104 = .ok (.iload_n 3, 1) := by decide +kernel
theorem dc_Cl_compares_105 : decode cd_Cl_compares 105 = .ok (.iload 4, 2) := by decide +kernel
theorem dc_Cl_compares_107 : decode cd_Cl_compares 107 = .ok (.if_icmp .le 7, 3) := by decide +kernel
theorem dc_Cl_compares_110 : decode cd_Cl_compares 110 = .ok (.iconst 1, 1) := by decide +kernel
theorem dc_Cl_compares_111 : decode cd_Cl_compares 111 = .ok (.goto 4, 3) := by decide +kernel
theorem dc_Cl_compares_114 : decode cd_Cl_compares 114 = .ok (.iconst 0, 1) := by decide +kernel
theorem dc_Cl_compares_115 : decode cd_Cl_compares 115 = .ok (.ireturn, 1) := by decide +kernel
theorem dc_Cl_compares_116 : decode cd_Cl_compares 116 = .ok (.iload_n 3, 1) := by decide +kernel
theorem dc_Cl_compares_117 : decode cd_Cl_compares 117 = .ok (.iload 4, 2) := by decide +kernel
theorem dc_Cl_compares_119 : decode cd_Cl_compares 119 = .ok (.if_icmp .lt 7, 3) := by decide +kernel
theorem dc_Cl_compares_122 : decode cd_Cl_compares 122 = .ok (.iconst 1, 1) := by decide +kernel
theorem dc_Cl_compares_123 : decode cd_Cl_compares 123 = .ok (.goto 4, 3) := by decide +kernel
theorem dc_Cl_compares_126 : decode cd_Cl_compares 126 = .ok (.iconst 0, 1) := by decide +kernel
theorem dc_Cl_compares_127 : decode cd_Cl_compares 127 = .ok (.ireturn, 1) := by decide +kernel
theorem dc_Fa_clear_0 : decode cd_Fa_clear 0 = .ok (.aload_n 0, 1) := by decide +kernel
theorem dc_Fa_clear_1 : decode cd_Fa_clear 1 = .ok (.iconst 0, 1) := by decide +kernel
theorem dc_Fa_clear_2 : decode cd_Fa_clear 2 = .ok (.putfield 46, 3) := by decide +kernel
theorem dc_Fa_clear_5 : decode cd_Fa_clear 5 = .ok (.aload_n 0, 1) := by decide +kernel
theorem dc_Fa_clear_6 : decode cd_Fa_clear 6 = .ok (.iconst 0, 1) := by decide +kernel
theorem dc_Fa_clear_7 : decode cd_Fa_clear 7 = .ok (.putfield 50, 3) := by decide +kernel
theorem dc_Fa_clear_10 : decode cd_Fa_clear 10 = .ok (.aload_n 0, 1) := by decide +kernel
theorem dc_Fa_clear_11 : decode cd_Fa_clear 11 = .ok (.iconst 0, 1) := by decide +kernel
theorem dc_Fa_clear_12 : decode cd_Fa_clear 12 = .ok (.putfield 53, 3) := by decide +kernel
theorem dc_Fa_clear_15 : decode cd_Fa_clear 15 = .ok (.aload_n 0, 1) := by decide +kernel
theorem dc_Fa_clear_16 : decode cd_Fa_clear 16 = .ok (.iconst 0, 1) := by decide +kernel
theorem dc_Fa_clear_17 : decode cd_Fa_clear 17 = .ok (.putfield 57, 3) := by decide +kernel
theorem dc_Fa_clear_20 : decode cd_Fa_clear 20 = .ok (.aload_n 0, 1) := by decide +kernel
theorem dc_Fa_clear_21 : decode cd_Fa_clear 21 = .ok (.getfield 31, 3) := by decide +kernel
theorem dc_Fa_clear_24 : decode cd_Fa_clear 24 = .ok (.iconst 0, 1) := by decide +kernel
theorem dc_Fa_clear_25 : decode cd_Fa_clear 25 = .ok (.invokestatic 60, 3) := by decide +kernel
theorem dc_Fa_clear_28 : decode cd_Fa_clear 28 = .ok (.aload_n 0, 1) := by decide +kernel
theorem dc_Fa_clear_29 : decode cd_Fa_clear 29 = .ok (.getfield 21, 3) := by decide +kernel
theorem dc_Fa_clear_32 : decode cd_Fa_clear 32 = .ok (.iconst 0, 1) := by decide +kernel
theorem dc_Fa_clear_33 : decode cd_Fa_clear 33 = .ok (.invokestatic 60, 3) := by decide +kernel
theorem dc_Fa_clear_36 : decode cd_Fa_clear 36 = .ok (.aload_n 0, 1) := by decide +kernel
theorem dc_Fa_clear_37 : decode cd_Fa_clear 37 = .ok (.getfield 34, 3) := by decide +kernel
theorem dc_Fa_clear_40 : decode cd_Fa_clear 40 = .ok (.iconst (-1), 1) := by decide +kernel
theorem dc_Fa_clear_41 : decode cd_Fa_clear 41 = .ok (.invokestatic 60, 3) := by decide +kernel
theorem dc_Fa_clear_44 : decode cd_Fa_clear 44 = .ok (.aload_n 0, 1) := by decide +kernel
theorem dc_Fa_clear_45 : decode cd_Fa_clear 45 = .ok (.getfield 37, 3) := by decide +kernel
theorem dc_Fa_clear_48 : decode cd_Fa_clear 48 = .ok (.iconst (-1), 1) := by decide +kernel
theorem dc_Fa_clear_49 : decode cd_Fa_clear 49 = .ok (.invokestatic 60, 3) := by decide +kernel
theorem dc_Fa_clear_52 : decode cd_Fa_clear 52 = .ok (.aload_n 0, 1) := by decide +kernel
theorem dc_Fa_clear_53 : decode cd_Fa_clear 53 = .ok (.getfield 40, 3) := by decide +kernel
theorem dc_Fa_clear_56 : decode cd_Fa_clear 56 = .ok (.iconst (-1), 1) := by decide +kernel
theorem dc_Fa_clear_57 : decode cd_Fa_clear 57 = .ok (.invokestatic 60, 3) := by decide +kernel
theorem dc_Fa_clear_60 : decode cd_Fa_clear 60 = .ok (.aload_n 0, 1) := by decide +kernel
theorem dc_Fa_clear_61 : decode cd_Fa_clear 61 = .ok (.getfield 43, 3) := by decide +kernel
theorem dc_Fa_clear_64 : decode cd_Fa_clear 64 = .ok (.iconst (-1), 1) := by decide +kernel
theorem dc_Fa_clear_65 : decode cd_Fa_clear 65 = .ok (.invokestatic 60, 3) := by decide +kernel
theorem dc_Fa_clear_68 : decode cd_Fa_clear 68 = .ok (.return_, 1) := by decide +kernel
theorem dc_Fa_slotOf_0 : decode cd_Fa_slotOf 0 = .ok (.lload_n 2, 1) := by decide +kernel
theorem dc_Fa_slotOf_1 : decode cd_Fa_slotOf 1 = .ok (.lload_n 2, 1) := by decide +kernel
theorem dc_Fa_slotOf_2 : decode cd_Fa_slotOf 2 = .ok (.bipush 29, 2) := by decide +kernel
theorem dc_Fa_slotOf_4 : decode cd_Fa_slotOf 4 = .ok (.lushr, 1) := by decide +kernel
theorem dc_Fa_slotOf_5 : decode cd_Fa_slotOf 5 = .ok (.lxor, 1) := by decide +kernel
theorem dc_Fa_slotOf_6 : decode cd_Fa_slotOf 6 = .ok (.ldc2_w 76, 3) := by decide +kernel
theorem dc_Fa_slotOf_9 : decode cd_Fa_slotOf 9 = .ok (.lmul, 1) := by decide +kernel
theorem dc_Fa_slotOf_10 : decode cd_Fa_slotOf 10 = .ok (.iload_n 1, 1) := by decide +kernel
theorem dc_Fa_slotOf_11 : decode cd_Fa_slotOf 11 = .ok (.i2l, 1) := by decide +kernel
theorem dc_Fa_slotOf_12 : decode cd_Fa_slotOf 12 = .ok (.ldc2_w 78, 3) := by decide +kernel
theorem dc_Fa_slotOf_15 : decode cd_Fa_slotOf 15 = .ok (.lmul, 1) := by decide +kernel
theorem dc_Fa_slotOf_16 : decode cd_Fa_slotOf 16 = .ok (.ladd, 1) := by decide +kernel
theorem dc_Fa_slotOf_17 : decode cd_Fa_slotOf 17 = .ok (.lstore 4, 2) := by decide +kernel
theorem dc_Fa_slotOf_19 : decode cd_Fa_slotOf 19 = .ok (.lload 4, 2) := by decide +kernel
theorem dc_Fa_slotOf_21 : decode cd_Fa_slotOf 21 = .ok (.lload 4, 2) := by decide +kernel
theorem dc_Fa_slotOf_23 : decode cd_Fa_slotOf 23 = .ok (.bipush 31, 2) := by decide +kernel
theorem dc_Fa_slotOf_25 : decode cd_Fa_slotOf 25 = .ok (.lushr, 1) := by decide +kernel
theorem dc_Fa_slotOf_26 : decode cd_Fa_slotOf 26 = .ok (.lxor, 1) := by decide +kernel
theorem dc_Fa_slotOf_27 : decode cd_Fa_slotOf 27 = .ok (.ldc2_w 76, 3) := by decide +kernel
theorem dc_Fa_slotOf_30 : decode cd_Fa_slotOf 30 = .ok (.lmul, 1) := by decide +kernel
theorem dc_Fa_slotOf_31 : decode cd_Fa_slotOf 31 = .ok (.bipush 49, 2) := by decide +kernel
theorem dc_Fa_slotOf_33 : decode cd_Fa_slotOf 33 = .ok (.lushr, 1) := by decide +kernel
theorem dc_Fa_slotOf_34 : decode cd_Fa_slotOf 34 = .ok (.l2i, 1) := by decide +kernel
theorem dc_Fa_slotOf_35 : decode cd_Fa_slotOf 35 = .ok (.istore 6, 2) := by decide +kernel
theorem dc_Fa_slotOf_37 : decode cd_Fa_slotOf 37 = .ok (.iconst 0, 1) := by decide +kernel
theorem dc_Fa_slotOf_38 : decode cd_Fa_slotOf 38 = .ok (.istore 7, 2) := by decide +kernel
theorem dc_Fa_slotOf_40 : decode cd_Fa_slotOf 40 = .ok (.iload 7, 2) := by decide +kernel
theorem dc_Fa_slotOf_42 : decode cd_Fa_slotOf 42 = .ok (.ldc 30, 2) := by decide +kernel
theorem dc_Fa_slotOf_44 : decode cd_Fa_slotOf 44 = .ok (.if_icmp .ge 61, 3) := by decide +kernel
theorem dc_Fa_slotOf_47 : decode cd_Fa_slotOf 47 = .ok (.aload_n 0, 1) := by decide +kernel
theorem dc_Fa_slotOf_48 : decode cd_Fa_slotOf 48 = .ok (.getfield 31, 3) := by decide +kernel
theorem dc_Fa_slotOf_51 : decode cd_Fa_slotOf 51 = .ok (.iload 6, 2) := by decide +kernel
theorem dc_Fa_slotOf_53 : decode cd_Fa_slotOf 53 = .ok (.iaload, 1) := by decide +kernel
theorem dc_Fa_slotOf_54 : decode cd_Fa_slotOf 54 = .ok (.iconst 1, 1) := by decide +kernel
theorem dc_Fa_slotOf_55 : decode cd_Fa_slotOf 55 = .ok (.isub, 1) := by decide +kernel
theorem dc_Fa_slotOf_56 : decode cd_Fa_slotOf 56 = .ok (.istore 8, 2) := by decide +kernel
theorem dc_Fa_slotOf_58 : decode cd_Fa_slotOf 58 = .ok (.iload 8, 2) := by decide +kernel
theorem dc_Fa_slotOf_60 : decode cd_Fa_slotOf 60 = .ok (.ifCond .lt 26, 3) := by decide +kernel
theorem dc_Fa_slotOf_63 : decode cd_Fa_slotOf 63 = .ok (.aload_n 0, 1) := by decide +kernel
theorem dc_Fa_slotOf_64 : decode cd_Fa_slotOf 64 = .ok (.getfield 11, 3) := by decide +kernel
theorem dc_Fa_slotOf_67 : decode cd_Fa_slotOf 67 = .ok (.iload 8, 2) := by decide +kernel
theorem dc_Fa_slotOf_69 : decode cd_Fa_slotOf 69 = .ok (.laload, 1) := by decide +kernel
theorem dc_Fa_slotOf_70 : decode cd_Fa_slotOf 70 = .ok (.lload_n 2, 1) := by decide +kernel
theorem dc_Fa_slotOf_71 : decode cd_Fa_slotOf 71 = .ok (.lcmp, 1) := by decide +kernel
theorem dc_Fa_slotOf_72 : decode cd_Fa_slotOf 72 = .ok (.ifCond .ne 17, 3) := by decide +kernel
theorem dc_Fa_slotOf_75 : decode cd_Fa_slotOf 75 = .ok (.aload_n 0, 1) := by decide +kernel
theorem dc_Fa_slotOf_76 : decode cd_Fa_slotOf 76 = .ok (.getfield 24, 3) := by decide +kernel
theorem dc_Fa_slotOf_79 : decode cd_Fa_slotOf 79 = .ok (.iload 8, 2) := by decide +kernel
theorem dc_Fa_slotOf_81 : decode cd_Fa_slotOf 81 = .ok (.iaload, 1) := by decide +kernel
theorem dc_Fa_slotOf_82 : decode cd_Fa_slotOf 82 = .ok (.iload_n 1, 1) := by decide +kernel
theorem dc_Fa_slotOf_83 : decode cd_Fa_slotOf 83 = .ok (.if_icmp .ne 6, 3) := by decide +kernel
theorem dc_Fa_slotOf_86 : decode cd_Fa_slotOf 86 = .ok (.iload 6, 2) := by decide +kernel
theorem dc_Fa_slotOf_88 : decode cd_Fa_slotOf 88 = .ok (.ireturn, 1) := by decide +kernel
theorem dc_Fa_slotOf_89 : decode cd_Fa_slotOf 89 = .ok (.iload 6, 2) := by decide +kernel
theorem dc_Fa_slotOf_91 : decode cd_Fa_slotOf 91 = .ok (.iconst 1, 1) := by decide +kernel
theorem dc_Fa_slotOf_92 : decode cd_Fa_slotOf 92 = .ok (.iadd, 1) := by decide +kernel
theorem dc_Fa_slotOf_93 : decode cd_Fa_slotOf 93 = .ok (.sipush 32767, 3) := by decide +kernel
theorem dc_Fa_slotOf_96 : decode cd_Fa_slotOf 96 = .ok (.iand, 1) := by decide +kernel
theorem dc_Fa_slotOf_97 : decode cd_Fa_slotOf 97 = .ok (.istore 6, 2) := by decide +kernel
theorem dc_Fa_slotOf_99 : decode cd_Fa_slotOf 99 = .ok (.iinc 7 1, 3) := by decide +kernel
theorem dc_Fa_slotOf_102 : decode cd_Fa_slotOf 102 = .ok (.goto (-62), 3) := by decide +kernel
theorem dc_Fa_slotOf_105 : decode cd_Fa_slotOf 105 = .ok (.iload 6, 2) := by decide +kernel
theorem dc_Fa_slotOf_107 : decode cd_Fa_slotOf 107 = .ok (.ireturn, 1) := by decide +kernel
theorem dc_Fa_add_0 : decode cd_Fa_add 0 = .ok (.aload_n 0, 1) := by decide +kernel
theorem dc_Fa_add_1 : decode cd_Fa_add 1 = .ok (.iload_n 1, 1) := by decide +kernel
theorem dc_Fa_add_2 : decode cd_Fa_add 2 = .ok (.lload_n 2, 1) := by decide +kernel
theorem dc_Fa_add_3 : decode cd_Fa_add 3 = .ok (.invokevirtual 66, 3) := by decide +kernel
theorem dc_Fa_add_6 : decode cd_Fa_add 6 = .ok (.istore 5, 2) := by decide +kernel
theorem dc_Fa_add_8 : decode cd_Fa_add 8 = .ok (.aload_n 0, 1) := by decide +kernel
theorem dc_Fa_add_9 : decode cd_Fa_add 9 = .ok (.getfield 31, 3) := by decide +kernel
theorem dc_Fa_add_12 : decode cd_Fa_add 12 = .ok (.iload 5, 2) := by decide +kernel
theorem dc_Fa_add_14 : decode cd_Fa_add 14 = .ok (.iaload, 1) := by decide +kernel
theorem dc_Fa_add_15 : decode cd_Fa_add 15 = .ok (.ifCond .eq 4, 3) := by decide +kernel
theorem dc_Fa_add_18 : decode cd_Fa_add 18 = .ok (.return_, 1) := by decide +kernel
theorem dc_Fa_add_19 : decode cd_Fa_add 19 = .ok (.aload_n 0, 1) := by decide +kernel
theorem dc_Fa_add_20 : decode cd_Fa_add 20 = .ok (.getfield 46, 3) := by decide +kernel
theorem dc_Fa_add_23 : decode cd_Fa_add 23 = .ok (.sipush 20000, 3) := by decide +kernel
theorem dc_Fa_add_26 : decode cd_Fa_add 26 = .ok (.if_icmp .ne 9, 3) := by decide +kernel
theorem dc_Fa_add_29 : decode cd_Fa_add 29 = .ok (.aload_n 0, 1) := by decide +kernel
theorem dc_Fa_add_30 : decode cd_Fa_add 30 = .ok (.iconst 1, 1) := by decide +kernel
theorem dc_Fa_add_31 : decode cd_Fa_add 31 = .ok (.putfield 53, 3) := by decide +kernel
theorem dc_Fa_add_34 : decode cd_Fa_add 34 = .ok (.return_, 1) := by decide +kernel
theorem dc_Fa_add_35 : decode cd_Fa_add 35 = .ok (.aload_n 0, 1) := by decide +kernel
theorem dc_Fa_add_36 : decode cd_Fa_add 36 = .ok (.getfield 31, 3) := by decide +kernel
theorem dc_Fa_add_39 : decode cd_Fa_add 39 = .ok (.iload 5, 2) := by decide +kernel
theorem dc_Fa_add_41 : decode cd_Fa_add 41 = .ok (.aload_n 0, 1) := by decide +kernel
theorem dc_Fa_add_42 : decode cd_Fa_add 42 = .ok (.getfield 46, 3) := by decide +kernel
theorem dc_Fa_add_45 : decode cd_Fa_add 45 = .ok (.iconst 1, 1) := by decide +kernel
theorem dc_Fa_add_46 : decode cd_Fa_add 46 = .ok (.iadd, 1) := by decide +kernel
theorem dc_Fa_add_47 : decode cd_Fa_add 47 = .ok (.iastore, 1) := by decide +kernel
theorem dc_Fa_add_48 : decode cd_Fa_add 48 = .ok (.aload_n 0, 1) := by decide +kernel
theorem dc_Fa_add_49 : decode cd_Fa_add 49 = .ok (.getfield 11, 3) := by decide +kernel
theorem dc_Fa_add_52 : decode cd_Fa_add 52 = .ok (.aload_n 0, 1) := by decide +kernel
theorem dc_Fa_add_53 : decode cd_Fa_add 53 = .ok (.getfield 46, 3) := by decide +kernel
theorem dc_Fa_add_56 : decode cd_Fa_add 56 = .ok (.lload_n 2, 1) := by decide +kernel
theorem dc_Fa_add_57 : decode cd_Fa_add 57 = .ok (.lastore, 1) := by decide +kernel
theorem dc_Fa_add_58 : decode cd_Fa_add 58 = .ok (.aload_n 0, 1) := by decide +kernel
theorem dc_Fa_add_59 : decode cd_Fa_add 59 = .ok (.getfield 24, 3) := by decide +kernel
theorem dc_Fa_add_62 : decode cd_Fa_add 62 = .ok (.aload_n 0, 1) := by decide +kernel
theorem dc_Fa_add_63 : decode cd_Fa_add 63 = .ok (.getfield 46, 3) := by decide +kernel
theorem dc_Fa_add_66 : decode cd_Fa_add 66 = .ok (.iload_n 1, 1) := by decide +kernel
theorem dc_Fa_add_67 : decode cd_Fa_add 67 = .ok (.iastore, 1) := by decide +kernel
theorem dc_Fa_add_68 : decode cd_Fa_add 68 = .ok (.aload_n 0, 1) := by decide +kernel
theorem dc_Fa_add_69 : decode cd_Fa_add 69 = .ok (.getfield 15, 3) := by decide +kernel
theorem dc_Fa_add_72 : decode cd_Fa_add 72 = .ok (.aload_n 0, 1) := by decide +kernel
theorem dc_Fa_add_73 : decode cd_Fa_add 73 = .ok (.getfield 46, 3) := by decide +kernel
theorem dc_Fa_add_76 : decode cd_Fa_add 76 = .ok (.iload 4, 2) := by decide +kernel
theorem dc_Fa_add_78 : decode cd_Fa_add 78 = .ok (.iastore, 1) := by decide +kernel
theorem dc_Fa_add_79 : decode cd_Fa_add 79 = .ok (.aload_n 0, 1) := by decide +kernel
theorem dc_Fa_add_80 : decode cd_Fa_add 80 = .ok (.getfield 27, 3) := by decide +kernel
theorem dc_Fa_add_83 : decode cd_Fa_add 83 = .ok (.aload_n 0, 1) := by decide +kernel
theorem dc_Fa_add_84 : decode cd_Fa_add 84 = .ok (.getfield 46, 3) := by decide +kernel
theorem dc_Fa_add_87 : decode cd_Fa_add 87 = .ok (.iconst (-1), 1) := by decide +kernel
theorem dc_Fa_add_88 : decode cd_Fa_add 88 = .ok (.iastore, 1) := by decide +kernel
theorem dc_Fa_add_89 : decode cd_Fa_add 89 = .ok (.aload_n 0, 1) := by decide +kernel
theorem dc_Fa_add_90 : decode cd_Fa_add 90 = .ok (.aload_n 0, 1) := by decide +kernel
theorem dc_Fa_add_91 : decode cd_Fa_add 91 = .ok (.getfield 50, 3) := by decide +kernel
theorem dc_Fa_add_94 : decode cd_Fa_add 94 = .ok (.iload 4, 2) := by decide +kernel
theorem dc_Fa_add_96 : decode cd_Fa_add 96 = .ok (.invokestatic 70, 3) := by decide +kernel
theorem dc_Fa_add_99 : decode cd_Fa_add 99 = .ok (.putfield 50, 3) := by decide +kernel
theorem dc_Fa_add_102 : decode cd_Fa_add 102 = .ok (.aload_n 0, 1) := by decide +kernel
theorem dc_Fa_add_103 : decode cd_Fa_add 103 = .ok (.getfield 37, 3) := by decide +kernel
theorem dc_Fa_add_106 : decode cd_Fa_add 106 = .ok (.iload_n 1, 1) := by decide +kernel
theorem dc_Fa_add_107 : decode cd_Fa_add 107 = .ok (.iaload, 1) := by decide +kernel
theorem dc_Fa_add_108 : decode cd_Fa_add 108 = .ok (.iconst (-1), 1) := by decide +kernel
theorem dc_Fa_add_109 : decode cd_Fa_add 109 = .ok (.if_icmp .ne 16, 3) := by decide +kernel
theorem dc_Fa_add_112 : decode cd_Fa_add 112 = .ok (.aload_n 0, 1) := by decide +kernel
theorem dc_Fa_add_113 : decode cd_Fa_add 113 = .ok (.getfield 34, 3) := by decide +kernel
theorem dc_Fa_add_116 : decode cd_Fa_add 116 = .ok (.iload_n 1, 1) := by decide +kernel
theorem dc_Fa_add_117 : decode cd_Fa_add 117 = .ok (.aload_n 0, 1) := by decide +kernel
theorem dc_Fa_add_118 : decode cd_Fa_add 118 = .ok (.getfield 46, 3) := by decide +kernel
theorem dc_Fa_add_121 : decode cd_Fa_add 121 = .ok (.iastore, 1) := by decide +kernel
theorem dc_Fa_add_122 : decode cd_Fa_add 122 = .ok (.goto 18, 3) := by decide +kernel
theorem dc_Fa_add_125 : decode cd_Fa_add 125 = .ok (.aload_n 0, 1) := by decide +kernel
theorem dc_Fa_add_126 : decode cd_Fa_add 126 = .ok (.getfield 27, 3) := by decide +kernel
theorem dc_Fa_add_129 : decode cd_Fa_add 129 = .ok (.aload_n 0, 1) := by decide +kernel
theorem dc_Fa_add_130 : decode cd_Fa_add 130 = .ok (.getfield 37, 3) := by decide +kernel
theorem dc_Fa_add_133 : decode cd_Fa_add 133 = .ok (.iload_n 1, 1) := by decide +kernel
theorem dc_Fa_add_134 : decode cd_Fa_add 134 = .ok (.iaload, 1) := by decide +kernel
theorem dc_Fa_add_135 : decode cd_Fa_add 135 = .ok (.aload_n 0, 1) := by decide +kernel
theorem dc_Fa_add_136 : decode cd_Fa_add 136 = .ok (.getfield 46, 3) := by decide +kernel
theorem dc_Fa_add_139 : decode cd_Fa_add 139 = .ok (.iastore, 1) := by decide +kernel
theorem dc_Fa_add_140 : decode cd_Fa_add 140 = .ok (.aload_n 0, 1) := by decide +kernel
theorem dc_Fa_add_141 : decode cd_Fa_add 141 = .ok (.getfield 37, 3) := by decide +kernel
theorem dc_Fa_add_144 : decode cd_Fa_add 144 = .ok (.iload_n 1, 1) := by decide +kernel
theorem dc_Fa_add_145 : decode cd_Fa_add 145 = .ok (.aload_n 0, 1) := by decide +kernel
theorem dc_Fa_add_146 : decode cd_Fa_add 146 = .ok (.getfield 46, 3) := by decide +kernel
theorem dc_Fa_add_149 : decode cd_Fa_add 149 = .ok (.iastore, 1) := by decide +kernel
theorem dc_Fa_add_150 : decode cd_Fa_add 150 = .ok (.aload_n 0, 1) := by decide +kernel
theorem dc_Fa_add_151 : decode cd_Fa_add 151 = .ok (.getfield 21, 3) := by decide +kernel
theorem dc_Fa_add_154 : decode cd_Fa_add 154 = .ok (.iload_n 1, 1) := by decide +kernel
theorem dc_Fa_add_155 : decode cd_Fa_add 155 = .ok (.dup2, 1) := by decide +kernel
theorem dc_Fa_add_156 : decode cd_Fa_add 156 = .ok (.iaload, 1) := by decide +kernel
theorem dc_Fa_add_157 : decode cd_Fa_add 157 = .ok (.iconst 1, 1) := by decide +kernel
theorem dc_Fa_add_158 : decode cd_Fa_add 158 = .ok (.iadd, 1) := by decide +kernel
theorem dc_Fa_add_159 : decode cd_Fa_add 159 = .ok (.iastore, 1) := by decide +kernel
theorem dc_Fa_add_160 : decode cd_Fa_add 160 = .ok (.aload_n 0, 1) := by decide +kernel
theorem dc_Fa_add_161 : decode cd_Fa_add 161 = .ok (.dup, 1) := by decide +kernel
theorem dc_Fa_add_162 : decode cd_Fa_add 162 = .ok (.getfield 46, 3) := by decide +kernel
theorem dc_Fa_add_165 : decode cd_Fa_add 165 = .ok (.iconst 1, 1) := by decide +kernel
theorem dc_Fa_add_166 : decode cd_Fa_add 166 = .ok (.iadd, 1) := by decide +kernel
theorem dc_Fa_add_167 : decode cd_Fa_add 167 = .ok (.putfield 46, 3) := by decide +kernel
theorem dc_Fa_add_170 : decode cd_Fa_add 170 = .ok (.return_, 1) := by decide +kernel
theorem dc_Fa_mark_0 : decode cd_Fa_mark 0 = .ok (.aload_n 0, 1) := by decide +kernel
theorem dc_Fa_mark_1 : decode cd_Fa_mark 1 = .ok (.aload_n 0, 1) := by decide +kernel
theorem dc_Fa_mark_2 : decode cd_Fa_mark 2 = .ok (.getfield 46, 3) := by decide +kernel
theorem dc_Fa_mark_5 : decode cd_Fa_mark 5 = .ok (.putfield 57, 3) := by decide +kernel
theorem dc_Fa_mark_8 : decode cd_Fa_mark 8 = .ok (.iconst 0, 1) := by decide +kernel
theorem dc_Fa_mark_9 : decode cd_Fa_mark 9 = .ok (.istore_n 1, 1) := by decide +kernel
theorem dc_Fa_mark_10 : decode cd_Fa_mark 10 = .ok (.iload_n 1, 1) := by decide +kernel
theorem dc_Fa_mark_11 : decode cd_Fa_mark 11 = .ok (.aload_n 0, 1) := by decide +kernel
theorem dc_Fa_mark_12 : decode cd_Fa_mark 12 = .ok (.getfield 40, 3) := by decide +kernel
theorem dc_Fa_mark_15 : decode cd_Fa_mark 15 = .ok (.arraylength, 1) := by decide +kernel
theorem dc_Fa_mark_16 : decode cd_Fa_mark 16 = .ok (.if_icmp .ge 33, 3) := by decide +kernel
theorem dc_Fa_mark_19 : decode cd_Fa_mark 19 = .ok (.aload_n 0, 1) := by decide +kernel
theorem dc_Fa_mark_20 : decode cd_Fa_mark 20 = .ok (.getfield 43, 3) := by decide +kernel
theorem dc_Fa_mark_23 : decode cd_Fa_mark 23 = .ok (.iload_n 1, 1) := by decide +kernel
theorem dc_Fa_mark_24 : decode cd_Fa_mark 24 = .ok (.aload_n 0, 1) := by decide +kernel
theorem dc_Fa_mark_25 : decode cd_Fa_mark 25 = .ok (.getfield 40, 3) := by decide +kernel
theorem dc_Fa_mark_28 : decode cd_Fa_mark 28 = .ok (.iload_n 1, 1) := by decide +kernel
theorem dc_Fa_mark_29 : decode cd_Fa_mark 29 = .ok (.iaload, 1) := by decide +kernel
theorem dc_Fa_mark_30 : decode cd_Fa_mark 30 = .ok (.iastore, 1) := by decide +kernel
theorem dc_Fa_mark_31 : decode cd_Fa_mark 31 = .ok (.aload_n 0, 1) := by decide +kernel
theorem dc_Fa_mark_32 : decode cd_Fa_mark 32 = .ok (.getfield 40, 3) := by decide +kernel
theorem dc_Fa_mark_35 : decode cd_Fa_mark 35 = .ok (.iload_n 1, 1) := by decide +kernel
theorem dc_Fa_mark_36 : decode cd_Fa_mark 36 = .ok (.aload_n 0, 1) := by decide +kernel
theorem dc_Fa_mark_37 : decode cd_Fa_mark 37 = .ok (.getfield 37, 3) := by decide +kernel
theorem dc_Fa_mark_40 : decode cd_Fa_mark 40 = .ok (.iload_n 1, 1) := by decide +kernel
theorem dc_Fa_mark_41 : decode cd_Fa_mark 41 = .ok (.iaload, 1) := by decide +kernel
theorem dc_Fa_mark_42 : decode cd_Fa_mark 42 = .ok (.iastore, 1) := by decide +kernel
theorem dc_Fa_mark_43 : decode cd_Fa_mark 43 = .ok (.iinc 1 1, 3) := by decide +kernel
theorem dc_Fa_mark_46 : decode cd_Fa_mark 46 = .ok (.goto (-36), 3) := by decide +kernel
theorem dc_Fa_mark_49 : decode cd_Fa_mark 49 = .ok (.return_, 1) := by decide +kernel
theorem dc_Fa_hasFresh_0 : decode cd_Fa_hasFresh 0 = .ok (.aload_n 0, 1) := by decide +kernel
theorem dc_Fa_hasFresh_1 : decode cd_Fa_hasFresh 1 = .ok (.getfield 40, 3) := by decide +kernel
theorem dc_Fa_hasFresh_4 : decode cd_Fa_hasFresh 4 = .ok (.iload_n 1, 1) := by decide +kernel
theorem dc_Fa_hasFresh_5 : decode cd_Fa_hasFresh 5 = .ok (.iaload, 1) := by decide +kernel
theorem dc_Fa_hasFresh_6 : decode cd_Fa_hasFresh 6 = .ok (.aload_n 0, 1) := by decide +kernel
theorem dc_Fa_hasFresh_7 : decode cd_Fa_hasFresh 7 = .ok (.getfield 43, 3) := by decide +kernel
theorem dc_Fa_hasFresh_10 : decode cd_Fa_hasFresh 10 = .ok (.iload_n 1, 1) := by decide +kernel
theorem dc_Fa_hasFresh_11 : decode cd_Fa_hasFresh 11 = .ok (.iaload, 1) := by decide +kernel
theorem dc_Fa_hasFresh_12 : decode cd_Fa_hasFresh 12 = .ok (.if_icmp .eq 7, 3) := by decide +kernel
theorem dc_Fa_hasFresh_15 : decode cd_Fa_hasFresh 15 = .ok (.iconst 1, 1) := by decide +kernel
theorem dc_Fa_hasFresh_16 : decode cd_Fa_hasFresh 16 = .ok (.goto 4, 3) := by decide +kernel
theorem dc_Fa_hasFresh_19 : decode cd_Fa_hasFresh 19 = .ok (.iconst 0, 1) := by decide +kernel
theorem dc_Fa_hasFresh_20 : decode cd_Fa_hasFresh 20 = .ok (.ireturn, 1) := by decide +kernel
theorem dc_Fa_isEmpty_0 : decode cd_Fa_isEmpty 0 = .ok (.aload_n 0, 1) := by decide +kernel
theorem dc_Fa_isEmpty_1 : decode cd_Fa_isEmpty 1 = .ok (.getfield 40, 3) := by decide +kernel
theorem dc_Fa_isEmpty_4 : decode cd_Fa_isEmpty 4 = .ok (.iload_n 1, 1) := by decide +kernel
theorem dc_Fa_isEmpty_5 : decode cd_Fa_isEmpty 5 = .ok (.iaload, 1) := by decide +kernel
theorem dc_Fa_isEmpty_6 : decode cd_Fa_isEmpty 6 = .ok (.iconst (-1), 1) := by decide +kernel
theorem dc_Fa_isEmpty_7 : decode cd_Fa_isEmpty 7 = .ok (.if_icmp .ne 7, 3) := by decide +kernel
theorem dc_Fa_isEmpty_10 : decode cd_Fa_isEmpty 10 = .ok (.iconst 1, 1) := by decide +kernel
theorem dc_Fa_isEmpty_11 : decode cd_Fa_isEmpty 11 = .ok (.goto 4, 3) := by decide +kernel
theorem dc_Fa_isEmpty_14 : decode cd_Fa_isEmpty 14 = .ok (.iconst 0, 1) := by decide +kernel
theorem dc_Fa_isEmpty_15 : decode cd_Fa_isEmpty 15 = .ok (.ireturn, 1) := by decide +kernel
theorem dc_Fa_firstOf_0 : decode cd_Fa_firstOf 0 = .ok (.iload_n 2, 1) := by decide +kernel
theorem dc_Fa_firstOf_1 : decode cd_Fa_firstOf 1 = .ok (.ifCond .eq 13, 3) := by decide +kernel
theorem dc_Fa_firstOf_4 : decode cd_Fa_firstOf 4 = .ok (.aload_n 0, 1) := by decide +kernel
theorem dc_Fa_firstOf_5 : decode cd_Fa_firstOf 5 = .ok (.getfield 43, 3) := by decide +kernel
theorem dc_Fa_firstOf_8 : decode cd_Fa_firstOf 8 = .ok (.iload_n 1, 1) := by decide +kernel
theorem dc_Fa_firstOf_9 : decode cd_Fa_firstOf 9 = .ok (.iaload, 1) := by decide +kernel
theorem dc_Fa_firstOf_10 : decode cd_Fa_firstOf 10 = .ok (.iconst (-1), 1) := by decide +kernel
theorem dc_Fa_firstOf_11 : decode cd_Fa_firstOf 11 = .ok (.if_icmp .ne 7, 3) := by decide +kernel
theorem dc_Fa_firstOf_14 : decode cd_Fa_firstOf 14 = .ok (.iconst 1, 1) := by decide +kernel
theorem dc_Fa_firstOf_15 : decode cd_Fa_firstOf 15 = .ok (.goto 4, 3) := by decide +kernel
theorem dc_Fa_firstOf_18 : decode cd_Fa_firstOf 18 = .ok (.iconst 0, 1) := by decide +kernel
theorem dc_Fa_firstOf_19 : decode cd_Fa_firstOf 19 = .ok (.istore_n 3, 1) := by decide +kernel
theorem dc_Fa_firstOf_20 : decode cd_Fa_firstOf 20 = .ok (.iload_n 3, 1) := by decide +kernel
theorem dc_Fa_firstOf_21 : decode cd_Fa_firstOf 21 = .ok (.ifCond .eq 12, 3) := by decide +kernel
theorem dc_Fa_firstOf_24 : decode cd_Fa_firstOf 24 = .ok (.aload_n 0, 1) := by decide +kernel
theorem dc_Fa_firstOf_25 : decode cd_Fa_firstOf 25 = .ok (.getfield 34, 3) := by decide +kernel
theorem dc_Fa_firstOf_28 : decode cd_Fa_firstOf 28 = .ok (.iload_n 1, 1) := by decide +kernel
theorem dc_Fa_firstOf_29 : decode cd_Fa_firstOf 29 = .ok (.iaload, 1) := by decide +kernel
theorem dc_Fa_firstOf_30 : decode cd_Fa_firstOf 30 = .ok (.goto 14, 3) := by decide +kernel
theorem dc_Fa_firstOf_33 : decode cd_Fa_firstOf 33 = .ok (.aload_n 0, 1) := by decide +kernel
theorem dc_Fa_firstOf_34 : decode cd_Fa_firstOf 34 = .ok (.getfield 27, 3) := by decide +kernel
theorem dc_Fa_firstOf_37 : decode cd_Fa_firstOf 37 = .ok (.aload_n 0, 1) := by decide +kernel
theorem dc_Fa_firstOf_38 : decode cd_Fa_firstOf 38 = .ok (.getfield 43, 3) := by decide +kernel
theorem dc_Fa_firstOf_41 : decode cd_Fa_firstOf 41 = .ok (.iload_n 1, 1) := by decide +kernel
theorem dc_Fa_firstOf_42 : decode cd_Fa_firstOf 42 = .ok (.iaload, 1) := by decide +kernel
theorem dc_Fa_firstOf_43 : decode cd_Fa_firstOf 43 = .ok (.iaload, 1) := by decide +kernel
theorem dc_Fa_firstOf_44 : decode cd_Fa_firstOf 44 = .ok (.ireturn, 1) := by decide +kernel
theorem dc_Fa_lastOf_0 : decode cd_Fa_lastOf 0 = .ok (.aload_n 0, 1) := by decide +kernel
theorem dc_Fa_lastOf_1 : decode cd_Fa_lastOf 1 = .ok (.getfield 40, 3) := by decide +kernel
theorem dc_Fa_lastOf_4 : decode cd_Fa_lastOf 4 = .ok (.iload_n 1, 1) := by decide +kernel
theorem dc_Fa_lastOf_5 : decode cd_Fa_lastOf 5 = .ok (.iaload, 1) := by decide +kernel
theorem dc_Fa_lastOf_6 : decode cd_Fa_lastOf 6 = .ok (.ireturn, 1) := by decide +kernel
theorem dc_Fa_rankIn_0 : decode cd_Fa_rankIn 0 = .ok (.lload_n 0, 1) := by decide +kernel
theorem dc_Fa_rankIn_1 : decode cd_Fa_rankIn 1 = .ok (.bipush 50, 2) := by decide +kernel
theorem dc_Fa_rankIn_3 : decode cd_Fa_rankIn 3 = .ok (.bipush 10, 2) := by decide +kernel
theorem dc_Fa_rankIn_5 : decode cd_Fa_rankIn 5 = .ok (.iload_n 2, 1) := by decide +kernel
theorem dc_Fa_rankIn_6 : decode cd_Fa_rankIn 6 = .ok (.imul, 1) := by decide +kernel
theorem dc_Fa_rankIn_7 : decode cd_Fa_rankIn 7 = .ok (.isub, 1) := by decide +kernel
theorem dc_Fa_rankIn_8 : decode cd_Fa_rankIn 8 = .ok (.lshr, 1) := by decide +kernel
theorem dc_Fa_rankIn_9 : decode cd_Fa_rankIn 9 = .ok (.l2i, 1) := by decide +kernel
theorem dc_Fa_rankIn_10 : decode cd_Fa_rankIn 10 = .ok (.sipush 1023, 3) := by decide +kernel
theorem dc_Fa_rankIn_13 : decode cd_Fa_rankIn 13 = .ok (.iand, 1) := by decide +kernel
theorem dc_Fa_rankIn_14 : decode cd_Fa_rankIn 14 = .ok (.ireturn, 1) := by decide +kernel
theorem dc_Fa_after_0 : decode cd_Fa_after 0 = .ok (.aload_n 0, 1) := by decide +kernel
theorem dc_Fa_after_1 : decode cd_Fa_after 1 = .ok (.getfield 27, 3) := by decide +kernel
theorem dc_Fa_after_4 : decode cd_Fa_after 4 = .ok (.iload_n 1, 1) := by decide +kernel
theorem dc_Fa_after_5 : decode cd_Fa_after 5 = .ok (.iaload, 1) := by decide +kernel
theorem dc_Fa_after_6 : decode cd_Fa_after 6 = .ok (.ireturn, 1) := by decide +kernel
theorem dc_Fa_isVisible_0 : decode cd_Fa_isVisible 0 = .ok (.aload_n 0, 1) := by decide +kernel
theorem dc_Fa_isVisible_1 : decode cd_Fa_isVisible 1 = .ok (.getfield 31, 3) := by decide +kernel
theorem dc_Fa_isVisible_4 : decode cd_Fa_isVisible 4 = .ok (.aload_n 0, 1) := by decide +kernel
theorem dc_Fa_isVisible_5 : decode cd_Fa_isVisible 5 = .ok (.iload_n 1, 1) := by decide +kernel
theorem dc_Fa_isVisible_6 : decode cd_Fa_isVisible 6 = .ok (.lload_n 2, 1) := by decide +kernel
theorem dc_Fa_isVisible_7 : decode cd_Fa_isVisible 7 = .ok (.invokevirtual 66, 3) := by decide +kernel
theorem dc_Fa_isVisible_10 : decode cd_Fa_isVisible 10 = .ok (.iaload, 1) := by decide +kernel
theorem dc_Fa_isVisible_11 : decode cd_Fa_isVisible 11 = .ok (.iconst 1, 1) := by decide +kernel
theorem dc_Fa_isVisible_12 : decode cd_Fa_isVisible 12 = .ok (.isub, 1) := by decide +kernel
theorem dc_Fa_isVisible_13 : decode cd_Fa_isVisible 13 = .ok (.istore 4, 2) := by decide +kernel
theorem dc_Fa_isVisible_15 : decode cd_Fa_isVisible 15 = .ok (.iload 4, 2) := by decide +kernel
theorem dc_Fa_isVisible_17 : decode cd_Fa_isVisible 17 = .ok (.iconst (-1), 1) := by decide +kernel
theorem dc_Fa_isVisible_18 : decode cd_Fa_isVisible 18 = .ok (.if_icmp .eq 16, 3) := by decide +kernel
theorem dc_Fa_isVisible_21 : decode cd_Fa_isVisible 21 = .ok (.iload 4, 2) := by decide +kernel
theorem dc_Fa_isVisible_23 : decode cd_Fa_isVisible 23 = .ok (.aload_n 0, 1) := by decide +kernel
theorem dc_Fa_isVisible_24 : decode cd_Fa_isVisible 24 = .ok (.getfield 57, 3) := by decide +kernel
theorem dc_Fa_isVisible_27 : decode cd_Fa_isVisible 27 = .ok (.if_icmp .ge 7, 3) := by decide +kernel
theorem dc_Fa_isVisible_30 : decode cd_Fa_isVisible 30 = .ok (.iconst 1, 1) := by decide +kernel
theorem dc_Fa_isVisible_31 : decode cd_Fa_isVisible 31 = .ok (.goto 4, 3) := by decide +kernel
theorem dc_Fa_isVisible_34 : decode cd_Fa_isVisible 34 = .ok (.iconst 0, 1) := by decide +kernel
theorem dc_Fa_isVisible_35 : decode cd_Fa_isVisible 35 = .ok (.ireturn, 1) := by decide +kernel
theorem dc_Fa_find_0 : decode cd_Fa_find 0 = .ok (.aload_n 0, 1) := by decide +kernel
theorem dc_Fa_find_1 : decode cd_Fa_find 1 = .ok (.getfield 31, 3) := by decide +kernel
theorem dc_Fa_find_4 : decode cd_Fa_find 4 = .ok (.aload_n 0, 1) := by decide +kernel
theorem dc_Fa_find_5 : decode cd_Fa_find 5 = .ok (.iload_n 1, 1) := by decide +kernel
theorem dc_Fa_find_6 : decode cd_Fa_find 6 = .ok (.lload_n 2, 1) := by decide +kernel
theorem dc_Fa_find_7 : decode cd_Fa_find 7 = .ok (.invokevirtual 66, 3) := by decide +kernel
theorem dc_Fa_find_10 : decode cd_Fa_find 10 = .ok (.iaload, 1) := by decide +kernel
theorem dc_Fa_find_11 : decode cd_Fa_find 11 = .ok (.iconst 1, 1) := by decide +kernel
theorem dc_Fa_find_12 : decode cd_Fa_find 12 = .ok (.isub, 1) := by decide +kernel
theorem dc_Fa_find_13 : decode cd_Fa_find 13 = .ok (.ireturn, 1) := by decide +kernel
def wp_met_Cl_codeOfRank (post : Int32 → Unit → Prop) (a0 : Int32) : Prop := ∀ y1 : Int32, y1 = (2 : Int32) * a0 → (∀ y2 : Int32, y2 = y1 + (1 : Int32) → (post y2 ()))
set_option maxHeartbeats 4000000 in
set_option maxRecDepth 100000 in
theorem met_Cl_codeOfRank (l : Launch) (dC : Nat → ClassId) (dI : Nat → Nat → Nat) (a0 : Int32) (sz : Nat) {post : Int32 → Unit → Prop} (hw : wp_met_Cl_codeOfRank post a0) : Met l my_Cl_codeOfRank (Cond.code my_Cl_codeOfRank cd_Cl_codeOfRank 1 (some (.int)) :: tblG) ({ frames := 0, cells := 0, slots := 0, locals := 0 }) (va_Pc [.int a0] (fun U => U.heap.size = sz ∧ va_P (dC, dI) vwCl [] U.heap ∧ va_K (dC, dI) vwCl [] U ∧ va_D (fun _ => True) [])) (va_Qi post (fun (u : Unit) (t : State) => va_P (dC, dI) vwCl [] t.heap ∧ va_K (dC, dI) vwCl [] t ∧ va_D (va_A [] sz) []) (va_A [] sz)) 0 0 (va_A [] sz) := by
  refine Met.ofW (cc := cd_Cl_codeOfRank) (maxL := 1) (ret := (some (.int))) (by decide) rfl ?_
  intro p e s m args below meth c s₁ B hml hv
  obtain ⟨rfl, hsz, hP, hK, hD0⟩ := hv
  have hx := B.exec
  have hb := B.bytes
  have hr := B.returns
  have hT : ∀ w ∈ tblG, w.before _ s = true := fun w h => atoms_spec (ws := (Cond.code my_Cl_codeOfRank cd_Cl_codeOfRank 1 (some (.int)) :: tblG)) B.pre w (List.mem_cons_of_mem _ h)
  have hown : s.vm.findClass "StrataBase$Clauses" = some m.cls := findClass_of_methodNamed B.named
  have hlocks := B.notSynchronized
  subst hsz
  have hD := hD0.self (sz := s.heap.size)
  generalize hAe : va_A [] s.heap.size = A at hD ⊢
  have hA : ∀ q : Nat, s.heap.size ≤ q → A q := fun q h => by rw [← hAe]; exact Or.inr h
  have hS : va_S A s.heap s.heap [] := va_S.rf
  have hl := lv_entry ([.int a0]) (n := 1) (Nat.le_of_ble_eq_true rfl)
  rw [lg_entry_eq]
  generalize (lg_sl ([.int a0]) ++ List.replicate (1 - (lg_sl ([.int a0])).length) Slot.unset).toArray = ls at hl ⊢
  have hl : lv_has ls 1 [(0, .int a0)] := hl
  unfold wp_met_Cl_codeOfRank at hw
  refine lv_iconst (v := 2) hx hb dc_Cl_codeOfRank_0 (by decide) ?_
  refine lv_iload_n hx hb dc_Cl_codeOfRank_1 rfl (lv_at hl 0 rfl) ?_
  refine lv_imul hx hb dc_Cl_codeOfRank_2 ?_
  refine lv_topi (fun y1 ey1 => ?_)
  have hw := hw y1 ey1
  refine lv_iconst (v := 1) hx hb dc_Cl_codeOfRank_3 (by decide) ?_
  refine lv_iadd hx hb dc_Cl_codeOfRank_4 ?_
  refine lv_topi (fun y2 ey2 => ?_)
  have hw := hw y2 ey2
  refine W.widen (k := 0) (n := 0) (Nat.le_of_ble_eq_true rfl) (Nat.le_of_ble_eq_true rfl) ?_
  exact W.iret (v := y2) hx hb hr (fun t ht hW => ⟨⟨y2, (), rfl, hw, by rw [ht]; exact hP, va_K.moved hW.alike hK, hD⟩, hS.F ht⟩) hS.2.2 dc_Cl_codeOfRank_5

def jw_met_Cl_add_37 (post : ((Nat → Int32) × (Nat → Int32) × (Nat → Int32)) → Prop) (y1 : Int32) (n_sizes : Nat) (F_sizes : Nat → Int32) (o4 : Nat → Int32) : ((Nat → Int32)) → Prop
  | v13 => vp_in y1 n_sizes ∧ (∀ y15 : Int32, y15 = F_sizes y1.toNatClampNeg → (∀ y16 : Int32, y16 = y15 + (1 : Int32) → (vp_in y1 n_sizes ∧ (∀ g18 : Nat → Int32, g18 = upd F_sizes y1.toNatClampNeg y16 → (post (g18, v13, o4))))))
def wp_met_Cl_add (post : ((Nat → Int32) × (Nat → Int32) × (Nat → Int32)) → Prop) (n_sizes : Nat) (n_masks : Nat) (n_terms : Nat) (a0 : Int32) (literals_ : Int32) (F_sizes : Nat → Int32) (F_masks : Nat → Int32) (F_terms : Nat → Int32) : Prop := ∀ y1 : Int32, y1 = literals_ - (1 : Int32) → (vp_in y1 n_sizes ∧ (∀ y3 : Int32, y3 = F_sizes y1.toNatClampNeg → (wp_met_Cl_setTerm (fun (o4 : Nat → Int32) => ((((16 : Int32) ≤ a0 → (jw_met_Cl_add_37 post y1 n_sizes F_sizes o4 F_masks)) ∧ (¬ ((16 : Int32) ≤ a0) → (vp_in y1 n_masks ∧ (∀ y8 : Int32, y8 = F_masks y1.toNatClampNeg → (∀ y9 : Int32, y9 = (1 : Int32) <<< (a0 &&& 31) → (∀ y10 : Int32, y10 = y8 ||| y9 → (vp_in y1 n_masks ∧ (∀ g12 : Nat → Int32, g12 = upd F_masks y1.toNatClampNeg y10 → (jw_met_Cl_add_37 post y1 n_sizes F_sizes o4 g12))))))))))) n_terms y1 y3 a0 F_terms)))
set_option maxHeartbeats 4000000 in
set_option maxRecDepth 100000 in
theorem met_Cl_add (l : Launch) (dC : Nat → ClassId) (dI : Nat → Nat → Nat) (n_sizes : Nat) (n_masks : Nat) (n_terms : Nat) (h0 : Nat) (first_ : Nat) (kinds_ : Nat) (predicates_ : Nat) (places_ : Nat) (sizes_ : Nat) (masks_ : Nat) (terms_ : Nat) (a0 : Int32) (size_ : Int32) (literals_ : Int32) (F_sizes : Nat → Int32) (F_masks : Nat → Int32) (F_terms : Nat → Int32) (k_sizes : ClassId) (k_masks : ClassId) (k_terms : ClassId) (sz : Nat) {post : ((Nat → Int32) × (Nat → Int32) × (Nat → Int32)) → Prop} (hw : wp_met_Cl_add post n_sizes n_masks n_terms a0 literals_ F_sizes F_masks F_terms) : Met l my_Cl_add (Cond.code my_Cl_add cd_Cl_add 3 none :: tblG) ({ frames := 1, cells := 0, slots := 0, locals := 23 }) (va_Pc [.ref h0, .int a0] (fun U => U.heap.size = sz ∧ va_P (dC, dI) vwCl [(h0, .inr (1, [.int size_, .ref first_, .ref kinds_, .ref predicates_, .ref places_, .ref sizes_, .ref masks_, .ref terms_, .int literals_])), (sizes_, .inl (k_sizes, n_sizes, .inl F_sizes)), (masks_, .inl (k_masks, n_masks, .inl F_masks)), (terms_, .inl (k_terms, n_terms, .inl F_terms))] U.heap ∧ va_K (dC, dI) vwCl [(k_sizes, .int), (k_masks, .int), (k_terms, .int)] U ∧ va_D (fun _ => True) [(h0, .inr (1, [.int size_, .ref first_, .ref kinds_, .ref predicates_, .ref places_, .ref sizes_, .ref masks_, .ref terms_, .int literals_])), (sizes_, .inl (k_sizes, n_sizes, .inl F_sizes)), (masks_, .inl (k_masks, n_masks, .inl F_masks)), (terms_, .inl (k_terms, n_terms, .inl F_terms))])) (va_Qv post (fun (u : (Nat → Int32) × (Nat → Int32) × (Nat → Int32)) (t : State) => match u with | (o0, o1, o2) => va_P (dC, dI) vwCl [(h0, .inr (1, [.int size_, .ref first_, .ref kinds_, .ref predicates_, .ref places_, .ref sizes_, .ref masks_, .ref terms_, .int literals_])), (sizes_, .inl (k_sizes, n_sizes, .inl o0)), (masks_, .inl (k_masks, n_masks, .inl o1)), (terms_, .inl (k_terms, n_terms, .inl o2))] t.heap ∧ va_K (dC, dI) vwCl [(k_sizes, .int), (k_masks, .int), (k_terms, .int)] t ∧ va_D (va_A [(h0, .inr (1, [.int size_, .ref first_, .ref kinds_, .ref predicates_, .ref places_, .ref sizes_, .ref masks_, .ref terms_, .int literals_])), (sizes_, .inl (k_sizes, n_sizes, .inl F_sizes)), (masks_, .inl (k_masks, n_masks, .inl F_masks)), (terms_, .inl (k_terms, n_terms, .inl F_terms))] sz) [(h0, .inr (1, [.int size_, .ref first_, .ref kinds_, .ref predicates_, .ref places_, .ref sizes_, .ref masks_, .ref terms_, .int literals_])), (sizes_, .inl (k_sizes, n_sizes, .inl o0)), (masks_, .inl (k_masks, n_masks, .inl o1)), (terms_, .inl (k_terms, n_terms, .inl o2))]) (va_A [(h0, .inr (1, [.int size_, .ref first_, .ref kinds_, .ref predicates_, .ref places_, .ref sizes_, .ref masks_, .ref terms_, .int literals_])), (sizes_, .inl (k_sizes, n_sizes, .inl F_sizes)), (masks_, .inl (k_masks, n_masks, .inl F_masks)), (terms_, .inl (k_terms, n_terms, .inl F_terms))] sz)) 0 0 (va_A [(h0, .inr (1, [.int size_, .ref first_, .ref kinds_, .ref predicates_, .ref places_, .ref sizes_, .ref masks_, .ref terms_, .int literals_])), (sizes_, .inl (k_sizes, n_sizes, .inl F_sizes)), (masks_, .inl (k_masks, n_masks, .inl F_masks)), (terms_, .inl (k_terms, n_terms, .inl F_terms))] sz) := by
  refine Met.ofW (cc := cd_Cl_add) (maxL := 3) (ret := none) (by decide) rfl ?_
  intro p e s m args below meth c s₁ B hml hv
  obtain ⟨rfl, hsz, hP, hK, hD0⟩ := hv
  have hx := B.exec
  have hb := B.bytes
  have hr := B.returns
  have hT : ∀ w ∈ tblG, w.before _ s = true := fun w h => atoms_spec (ws := (Cond.code my_Cl_add cd_Cl_add 3 none :: tblG)) B.pre w (List.mem_cons_of_mem _ h)
  have hown : s.vm.findClass "StrataBase$Clauses" = some m.cls := findClass_of_methodNamed B.named
  have hlocks := B.notSynchronized
  subst hsz
  have hD := hD0.self (sz := s.heap.size)
  generalize hAe : va_A [(h0, .inr (1, [.int size_, .ref first_, .ref kinds_, .ref predicates_, .ref places_, .ref sizes_, .ref masks_, .ref terms_, .int literals_])), (sizes_, .inl (k_sizes, n_sizes, .inl F_sizes)), (masks_, .inl (k_masks, n_masks, .inl F_masks)), (terms_, .inl (k_terms, n_terms, .inl F_terms))] s.heap.size = A at hD ⊢
  have hA : ∀ q : Nat, s.heap.size ≤ q → A q := fun q h => by rw [← hAe]; exact Or.inr h
  have hS : va_S A s.heap s.heap [] := va_S.rf
  have hl := lv_entry ([.ref h0, .int a0]) (n := 3) (Nat.le_of_ble_eq_true rfl)
  rw [lg_entry_eq]
  generalize (lg_sl ([.ref h0, .int a0]) ++ List.replicate (3 - (lg_sl ([.ref h0, .int a0])).length) Slot.unset).toArray = ls at hl ⊢
  have hl : lv_has ls 3 [(0, .ref h0), (1, .int a0)] := hl
  unfold wp_met_Cl_add at hw
  refine lv_aload_n hx hb dc_Cl_add_0 rfl (lv_at hl 0 rfl) ?_
  refine va_get (D := (dC, dI)) (ci := 1) (v := .int literals_) (C := "StrataBase$Clauses") (T := tb_Cl) (N := 9) hx hb hT in_Cl hown hK hP 0 rfl rfl 8 (by decide) (hT _ wd_76) (fun _ h9 => h9) rfl dc_Cl_add_1 ?_
  refine lv_iconst (v := 1) hx hb dc_Cl_add_4 (by decide) ?_
  refine lv_isub hx hb dc_Cl_add_5 ?_
  refine lv_topi (fun y1 ey1 => ?_)
  have hw := hw y1 ey1
  refine lv_istore_n (lv' := [(2, .int y1), (0, .ref h0), (1, .int a0)]) hx hb dc_Cl_add_6 rfl hl (by decide) rfl (fun ls hl => ?_)
  refine lv_aload_n hx hb dc_Cl_add_7 rfl (lv_at hl 1 rfl) ?_
  refine lv_iload_n hx hb dc_Cl_add_8 rfl (lv_at hl 0 rfl) ?_
  refine lv_aload_n hx hb dc_Cl_add_9 rfl (lv_at hl 1 rfl) ?_
  refine va_get (D := (dC, dI)) (ci := 1) (v := .ref sizes_) (C := "StrataBase$Clauses") (T := tb_Cl) (N := 9) hx hb hT in_Cl hown hK hP 0 rfl rfl 5 (by decide) (hT _ wd_66) (fun _ h9 => h9) rfl dc_Cl_add_10 ?_
  refine lv_iload_n hx hb dc_Cl_add_13 rfl (lv_at hl 0 rfl) ?_
  obtain ⟨hv2, hw⟩ := hw
  refine va_iald hx hb hK hP 1 0 rfl rfl hv2 dc_Cl_add_14 ?_
  refine lv_topi (fun y3 ey3 => ?_)
  have hw := hw y3 ey3
  refine lv_iload_n hx hb dc_Cl_add_15 rfl (lv_at hl 2 rfl) ?_
  have hPc := hP.sub (ws' := [(h0, .inr (1, [.int size_, .ref first_, .ref kinds_, .ref predicates_, .ref places_, .ref sizes_, .ref masks_, .ref terms_, .int literals_])), (terms_, .inl (k_terms, n_terms, .inl F_terms))]) [0, 3] rfl
  have hDc := hD.sub (ws' := [(h0, .inr (1, [.int size_, .ref first_, .ref kinds_, .ref predicates_, .ref places_, .ref sizes_, .ref masks_, .ref terms_, .int literals_])), (terms_, .inl (k_terms, n_terms, .inl F_terms))]) [0, 3] (by decide) rfl
  have hKc := hK.sub (tys' := [(k_terms, .int)]) [2] rfl
  have hFc := va_free (wc := [(h0, .inr (1, [.int size_, .ref first_, .ref kinds_, .ref predicates_, .ref places_, .ref sizes_, .ref masks_, .ref terms_, .int literals_])), (terms_, .inl (k_terms, n_terms, .inl F_terms))]) hD hS hA [0, 3] rfl
  refine va_callv (va_runV (As := [.int y1, .int y3, .int a0]) (rest := []) ⟨hx, hb, hml, hown, hT⟩ (met_Cl_setTerm l dC dI n_terms h0 first_ kinds_ predicates_ places_ sizes_ masks_ terms_ y1 y3 a0 size_ literals_ F_terms k_terms s.heap.size hw) (cwV 3 hT (gd_V wd_728 wd_729 wd_730 wd_3 wd_731) rfl rfl rfl (by decide +kernel) ⟨Nat.le_of_ble_eq_true rfl, Nat.le_of_ble_eq_true rfl⟩) ⟨fun a U g mk q => by obtain ⟨q0, q1, qP, qK, qD⟩ := q; exact ⟨q0, q1, qP, va_K.moved (u := U) (U := U.calling g mk a) (Vm.Alike.refl U.vm) qK, qD⟩, va_recv hK hP (q0 := 0) (ci := 1) rfl rfl, fun U hU hW => ⟨rfl, by rw [hU], by rw [hU]; exact hPc, va_K.moved hW.alike hKc, hDc.weaken (fun _ _ _ _ => trivial)⟩⟩ rfl rfl hl.1 rfl (lv_room (Nat.le_of_ble_eq_true rfl)) dc_Cl_add_16 ⟨(Nat.le_of_ble_eq_true rfl), (Nat.le_of_ble_eq_true rfl)⟩) hS (fun q _ h => hFc q h) hFc (fun o4 t H1 locs ht hvm hw hB hz1 hk1 hS => ?_)
  obtain ⟨hP1, hK1, hD1⟩ := hB
  rw [ht] at hP1
  have hK1 := va_K.moved hvm.symm hK1
  obtain ⟨hP, hD⟩ := va_join (wr := [(sizes_, .inl (k_sizes, n_sizes, .inl F_sizes)), (masks_, .inl (k_masks, n_masks, .inl F_masks))]) (w1 := [(h0, .inr (1, [.int size_, .ref first_, .ref kinds_, .ref predicates_, .ref places_, .ref sizes_, .ref masks_, .ref terms_, .int literals_])), (terms_, .inl (k_terms, n_terms, .inl o4))]) hP hD [0, 3] [1, 2] rfl rfl (by decide) (by decide) hk1 hFc hP1 hD1
  have hK := (hK.sub (tys' := [(k_sizes, .int), (k_masks, .int)]) [0, 1] rfl).app hK1
  generalize H1 = H at hP hS ⊢
  have hP : va_P (dC, dI) vwCl [(sizes_, .inl (k_sizes, n_sizes, .inl F_sizes)), (masks_, .inl (k_masks, n_masks, .inl F_masks)), (h0, .inr (1, [.int size_, .ref first_, .ref kinds_, .ref predicates_, .ref places_, .ref sizes_, .ref masks_, .ref terms_, .int literals_])), (terms_, .inl (k_terms, n_terms, .inl o4))] H := hP
  have hD : va_D A [(sizes_, .inl (k_sizes, n_sizes, .inl F_sizes)), (masks_, .inl (k_masks, n_masks, .inl F_masks)), (h0, .inr (1, [.int size_, .ref first_, .ref kinds_, .ref predicates_, .ref places_, .ref sizes_, .ref masks_, .ref terms_, .int literals_])), (terms_, .inl (k_terms, n_terms, .inl o4))] := hD
  have hK : va_K (dC, dI) vwCl [(k_sizes, .int), (k_masks, .int), (k_terms, .int)] s := hK
  refine lv_iload_n hx hb dc_Cl_add_19 rfl (lv_at hl 2 rfl) ?_
  refine lv_bipush (v := 16) hx hb dc_Cl_add_20 (by decide) ?_
  refine jn_st (σ := (Nat → Int32)) (pc2 := 37) (fun x9 => jw_met_Cl_add_37 post y1 n_sizes F_sizes o4 x9) (fun x9 => match x9 with | v13 => []) (fun x9 H locs ls => match x9 with | v13 => va_K (dC, dI) vwCl [(k_sizes, .int), (k_masks, .int), (k_terms, .int)] s ∧ va_P (dC, dI) vwCl [(h0, .inr (1, [.int size_, .ref first_, .ref kinds_, .ref predicates_, .ref places_, .ref sizes_, .ref masks_, .ref terms_, .int literals_])), (sizes_, .inl (k_sizes, n_sizes, .inl F_sizes)), (masks_, .inl (k_masks, n_masks, .inl v13)), (terms_, .inl (k_terms, n_terms, .inl o4))] H ∧ va_D A [(h0, .inr (1, [.int size_, .ref first_, .ref kinds_, .ref predicates_, .ref places_, .ref sizes_, .ref masks_, .ref terms_, .int literals_])), (sizes_, .inl (k_sizes, n_sizes, .inl F_sizes)), (masks_, .inl (k_masks, n_masks, .inl v13)), (terms_, .inl (k_terms, n_terms, .inl o4))] ∧ va_S A s.heap H locs ∧ lv_has ls 3 [(0, .ref h0), (2, .int y1)]) ?_ (fun k6 => ?_)
  rotate_left
  · refine lv_icmp_ge (tgt := 37) hx hb dc_Cl_add_22 (by decide) (fun h22 => ?_) (fun h22 => ?_)
    · have hw := hw.1 h22
      exact k6 F_masks hw _ _ _ ⟨hK.sub [0, 1, 2] rfl, hP.sub [2, 0, 1, 3] rfl, hD.sub [2, 0, 1, 3] (by decide) rfl, hS, lv_sub hl [1, 0] rfl⟩
    · have hw := hw.2 h22
      refine lv_aload_n hx hb dc_Cl_add_25 rfl (lv_at hl 1 rfl) ?_
      refine va_get (D := (dC, dI)) (ci := 1) (v := .ref masks_) (C := "StrataBase$Clauses") (T := tb_Cl) (N := 9) hx hb hT in_Cl hown hK hP 2 rfl rfl 6 (by decide) (hT _ wd_71) (fun _ h9 => h9) rfl dc_Cl_add_26 ?_
      refine lv_iload_n hx hb dc_Cl_add_29 rfl (lv_at hl 0 rfl) ?_
      refine lv_dup2_11 hx hb dc_Cl_add_30 rfl rfl ?_
      obtain ⟨hv7, hw⟩ := hw
      refine va_iald hx hb hK hP 1 1 rfl rfl hv7 dc_Cl_add_31 ?_
      refine lv_topi (fun y8 ey8 => ?_)
      have hw := hw y8 ey8
      refine lv_iconst (v := 1) hx hb dc_Cl_add_32 (by decide) ?_
      refine lv_iload_n hx hb dc_Cl_add_33 rfl (lv_at hl 2 rfl) ?_
      refine lv_ishl hx hb dc_Cl_add_34 ?_
      refine lv_topi (fun y9 ey9 => ?_)
      have hw := hw y9 ey9
      refine lv_ior hx hb dc_Cl_add_35 ?_
      refine lv_topi (fun y10 ey10 => ?_)
      have hw := hw y10 ey10
      obtain ⟨hv11, hw⟩ := hw
      refine va_iast hx hb hK hP hD hS 1 1 rfl rfl hv11 dc_Cl_add_36 (fun H locs hP hD hS => ?_)
      have hP : va_P (dC, dI) vwCl [(sizes_, .inl (k_sizes, n_sizes, .inl F_sizes)), (masks_, .inl (k_masks, n_masks, .inl (upd F_masks y1.toNatClampNeg y10))), (h0, .inr (1, [.int size_, .ref first_, .ref kinds_, .ref predicates_, .ref places_, .ref sizes_, .ref masks_, .ref terms_, .int literals_])), (terms_, .inl (k_terms, n_terms, .inl o4))] H := hP
      have hD : va_D A [(sizes_, .inl (k_sizes, n_sizes, .inl F_sizes)), (masks_, .inl (k_masks, n_masks, .inl (upd F_masks y1.toNatClampNeg y10))), (h0, .inr (1, [.int size_, .ref first_, .ref kinds_, .ref predicates_, .ref places_, .ref sizes_, .ref masks_, .ref terms_, .int literals_])), (terms_, .inl (k_terms, n_terms, .inl o4))] := hD
      obtain ⟨g12, eg12⟩ : ∃ z9 : Nat → Int32, z9 = upd F_masks y1.toNatClampNeg y10 := ⟨_, rfl⟩
      rw [← eg12] at hP hD
      have hw := hw g12 eg12
      exact k6 g12 hw _ _ _ ⟨hK.sub [0, 1, 2] rfl, hP.sub [2, 0, 1, 3] rfl, hD.sub [2, 0, 1, 3] (by decide) rfl, hS, lv_sub hl [1, 0] rfl⟩
  intro x9 hw H locs ls hI
  obtain ⟨v13, rfl⟩ : ∃ z9, z9 = x9 := ⟨_, rfl⟩
  obtain ⟨hK, hP, hD, hS, hl⟩ := hI
  unfold jw_met_Cl_add_37 at hw
  refine W.eq (g2 := F0 m 37 ls []) rfl ?_
  refine lv_aload_n hx hb dc_Cl_add_37 rfl (lv_at hl 0 rfl) ?_
  refine va_get (D := (dC, dI)) (ci := 1) (v := .ref sizes_) (C := "StrataBase$Clauses") (T := tb_Cl) (N := 9) hx hb hT in_Cl hown hK hP 0 rfl rfl 5 (by decide) (hT _ wd_66) (fun _ h9 => h9) rfl dc_Cl_add_38 ?_
  refine lv_iload_n hx hb dc_Cl_add_41 rfl (lv_at hl 1 rfl) ?_
  refine lv_dup2_11 hx hb dc_Cl_add_42 rfl rfl ?_
  obtain ⟨hv14, hw⟩ := hw
  refine va_iald hx hb hK hP 1 0 rfl rfl hv14 dc_Cl_add_43 ?_
  refine lv_topi (fun y15 ey15 => ?_)
  have hw := hw y15 ey15
  refine lv_iconst (v := 1) hx hb dc_Cl_add_44 (by decide) ?_
  refine lv_iadd hx hb dc_Cl_add_45 ?_
  refine lv_topi (fun y16 ey16 => ?_)
  have hw := hw y16 ey16
  obtain ⟨hv17, hw⟩ := hw
  refine va_iast hx hb hK hP hD hS 1 0 rfl rfl hv17 dc_Cl_add_46 (fun H locs hP hD hS => ?_)
  have hP : va_P (dC, dI) vwCl [(h0, .inr (1, [.int size_, .ref first_, .ref kinds_, .ref predicates_, .ref places_, .ref sizes_, .ref masks_, .ref terms_, .int literals_])), (sizes_, .inl (k_sizes, n_sizes, .inl (upd F_sizes y1.toNatClampNeg y16))), (masks_, .inl (k_masks, n_masks, .inl v13)), (terms_, .inl (k_terms, n_terms, .inl o4))] H := hP
  have hD : va_D A [(h0, .inr (1, [.int size_, .ref first_, .ref kinds_, .ref predicates_, .ref places_, .ref sizes_, .ref masks_, .ref terms_, .int literals_])), (sizes_, .inl (k_sizes, n_sizes, .inl (upd F_sizes y1.toNatClampNeg y16))), (masks_, .inl (k_masks, n_masks, .inl v13)), (terms_, .inl (k_terms, n_terms, .inl o4))] := hD
  obtain ⟨g18, eg18⟩ : ∃ z9 : Nat → Int32, z9 = upd F_sizes y1.toNatClampNeg y16 := ⟨_, rfl⟩
  rw [← eg18] at hP hD
  have hw := hw g18 eg18
  refine W.widen (k := 0) (n := 0) (Nat.le_of_ble_eq_true rfl) (Nat.le_of_ble_eq_true rfl) ?_
  exact W.vret hx hb hr (fun t ht hW => ⟨⟨(g18, v13, o4), rfl, hw, by rw [ht]; exact hP, va_K.moved hW.alike hK, hD⟩, hS.F ht⟩) hS.2.2 dc_Cl_add_47

def wp_met_Cl_hasBody (post : Int32 → Unit → Prop) (n_first : Nat) (a0 : Int32) (F_first : Nat → Int32) : Prop := ∀ y1 : Int32, y1 = a0 + (1 : Int32) → (vp_in y1 n_first ∧ (∀ y3 : Int32, y3 = F_first y1.toNatClampNeg → (vp_in a0 n_first ∧ (∀ y5 : Int32, y5 = F_first a0.toNatClampNeg → (∀ y6 : Int32, y6 = y3 - y5 → (∀ y7 : Int32, y7 = (if y6 ≤ (1 : Int32) then (0 : Int32) else (1 : Int32)) → (post y7 ())))))))
set_option maxHeartbeats 4000000 in
set_option maxRecDepth 100000 in
theorem met_Cl_hasBody (l : Launch) (dC : Nat → ClassId) (dI : Nat → Nat → Nat) (n_first : Nat) (h0 : Nat) (first_ : Nat) (kinds_ : Nat) (predicates_ : Nat) (places_ : Nat) (sizes_ : Nat) (masks_ : Nat) (terms_ : Nat) (a0 : Int32) (size_ : Int32) (literals_ : Int32) (F_first : Nat → Int32) (k_first : ClassId) (sz : Nat) {post : Int32 → Unit → Prop} (hw : wp_met_Cl_hasBody post n_first a0 F_first) : Met l my_Cl_hasBody (Cond.code my_Cl_hasBody cd_Cl_hasBody 2 (some (.boolean)) :: tblG) ({ frames := 0, cells := 0, slots := 0, locals := 0 }) (va_Pc [.ref h0, .int a0] (fun U => U.heap.size = sz ∧ va_P (dC, dI) vwCl [(h0, .inr (1, [.int size_, .ref first_, .ref kinds_, .ref predicates_, .ref places_, .ref sizes_, .ref masks_, .ref terms_, .int literals_])), (first_, .inl (k_first, n_first, .inl F_first))] U.heap ∧ va_K (dC, dI) vwCl [(k_first, .int)] U ∧ va_D (fun _ => True) [(h0, .inr (1, [.int size_, .ref first_, .ref kinds_, .ref predicates_, .ref places_, .ref sizes_, .ref masks_, .ref terms_, .int literals_])), (first_, .inl (k_first, n_first, .inl F_first))])) (va_Qi post (fun (u : Unit) (t : State) => va_P (dC, dI) vwCl [(h0, .inr (1, [.int size_, .ref first_, .ref kinds_, .ref predicates_, .ref places_, .ref sizes_, .ref masks_, .ref terms_, .int literals_])), (first_, .inl (k_first, n_first, .inl F_first))] t.heap ∧ va_K (dC, dI) vwCl [(k_first, .int)] t ∧ va_D (va_A [(h0, .inr (1, [.int size_, .ref first_, .ref kinds_, .ref predicates_, .ref places_, .ref sizes_, .ref masks_, .ref terms_, .int literals_])), (first_, .inl (k_first, n_first, .inl F_first))] sz) [(h0, .inr (1, [.int size_, .ref first_, .ref kinds_, .ref predicates_, .ref places_, .ref sizes_, .ref masks_, .ref terms_, .int literals_])), (first_, .inl (k_first, n_first, .inl F_first))]) (va_A [(h0, .inr (1, [.int size_, .ref first_, .ref kinds_, .ref predicates_, .ref places_, .ref sizes_, .ref masks_, .ref terms_, .int literals_])), (first_, .inl (k_first, n_first, .inl F_first))] sz)) 0 0 (va_A [(h0, .inr (1, [.int size_, .ref first_, .ref kinds_, .ref predicates_, .ref places_, .ref sizes_, .ref masks_, .ref terms_, .int literals_])), (first_, .inl (k_first, n_first, .inl F_first))] sz) := by
  refine Met.ofW (cc := cd_Cl_hasBody) (maxL := 2) (ret := (some (.boolean))) (by decide) rfl ?_
  intro p e s m args below meth c s₁ B hml hv
  obtain ⟨rfl, hsz, hP, hK, hD0⟩ := hv
  have hx := B.exec
  have hb := B.bytes
  have hr := B.returns
  have hT : ∀ w ∈ tblG, w.before _ s = true := fun w h => atoms_spec (ws := (Cond.code my_Cl_hasBody cd_Cl_hasBody 2 (some (.boolean)) :: tblG)) B.pre w (List.mem_cons_of_mem _ h)
  have hown : s.vm.findClass "StrataBase$Clauses" = some m.cls := findClass_of_methodNamed B.named
  have hlocks := B.notSynchronized
  subst hsz
  have hD := hD0.self (sz := s.heap.size)
  generalize hAe : va_A [(h0, .inr (1, [.int size_, .ref first_, .ref kinds_, .ref predicates_, .ref places_, .ref sizes_, .ref masks_, .ref terms_, .int literals_])), (first_, .inl (k_first, n_first, .inl F_first))] s.heap.size = A at hD ⊢
  have hA : ∀ q : Nat, s.heap.size ≤ q → A q := fun q h => by rw [← hAe]; exact Or.inr h
  have hS : va_S A s.heap s.heap [] := va_S.rf
  have hl := lv_entry ([.ref h0, .int a0]) (n := 2) (Nat.le_of_ble_eq_true rfl)
  rw [lg_entry_eq]
  generalize (lg_sl ([.ref h0, .int a0]) ++ List.replicate (2 - (lg_sl ([.ref h0, .int a0])).length) Slot.unset).toArray = ls at hl ⊢
  have hl : lv_has ls 2 [(0, .ref h0), (1, .int a0)] := hl
  unfold wp_met_Cl_hasBody at hw
  refine lv_aload_n hx hb dc_Cl_hasBody_0 rfl (lv_at hl 0 rfl) ?_
  refine va_get (D := (dC, dI)) (ci := 1) (v := .ref first_) (C := "StrataBase$Clauses") (T := tb_Cl) (N := 9) hx hb hT in_Cl hown hK hP 0 rfl rfl 1 (by decide) (hT _ wd_51) (fun _ h9 => h9) rfl dc_Cl_hasBody_1 ?_
  refine lv_iload_n hx hb dc_Cl_hasBody_4 rfl (lv_at hl 1 rfl) ?_
  refine lv_iconst (v := 1) hx hb dc_Cl_hasBody_5 (by decide) ?_
  refine lv_iadd hx hb dc_Cl_hasBody_6 ?_
  refine lv_topi (fun y1 ey1 => ?_)
  have hw := hw y1 ey1
  obtain ⟨hv2, hw⟩ := hw
  refine va_iald hx hb hK hP 1 0 rfl rfl hv2 dc_Cl_hasBody_7 ?_
  refine lv_topi (fun y3 ey3 => ?_)
  have hw := hw y3 ey3
  refine lv_aload_n hx hb dc_Cl_hasBody_8 rfl (lv_at hl 0 rfl) ?_
  refine va_get (D := (dC, dI)) (ci := 1) (v := .ref first_) (C := "StrataBase$Clauses") (T := tb_Cl) (N := 9) hx hb hT in_Cl hown hK hP 0 rfl rfl 1 (by decide) (hT _ wd_51) (fun _ h9 => h9) rfl dc_Cl_hasBody_9 ?_
  refine lv_iload_n hx hb dc_Cl_hasBody_12 rfl (lv_at hl 1 rfl) ?_
  obtain ⟨hv4, hw⟩ := hw
  refine va_iald hx hb hK hP 1 0 rfl rfl hv4 dc_Cl_hasBody_13 ?_
  refine lv_topi (fun y5 ey5 => ?_)
  have hw := hw y5 ey5
  refine lv_isub hx hb dc_Cl_hasBody_14 ?_
  refine lv_topi (fun y6 ey6 => ?_)
  have hw := hw y6 ey6
  refine lv_iconst (v := 1) hx hb dc_Cl_hasBody_15 (by decide) ?_
  refine jn_top (pc2 := 24) (rest := []) (fun y7 => y7 = (if y6 ≤ (1 : Int32) then (0 : Int32) else (1 : Int32))) (fun y7 ey7 => ?_) (fun k9 => ?_)
  rotate_left
  · refine lv_icmp_le (tgt := 23) hx hb dc_Cl_hasBody_16 (by decide) (fun h16 => ?_) (fun h16 => ?_)
    · refine lv_iconst (v := 0) hx hb dc_Cl_hasBody_23 (by decide) ?_
      exact k9 (0 : Int32) (by rw [if_pos h16])
    · refine lv_iconst (v := 1) hx hb dc_Cl_hasBody_19 (by decide) ?_
      refine lv_goto (tgt := 24) hx hb dc_Cl_hasBody_20 (by decide) ?_
      exact k9 (1 : Int32) (by rw [if_neg h16])
  have hw := hw y7 ey7
  have hzy7 : y7 = 0 ∨ y7 = 1 := by
    rw [ey7]; repeat' split
    all_goals first | exact Or.inl rfl | exact Or.inr rfl
  refine W.widen (k := 0) (n := 0) (Nat.le_of_ble_eq_true rfl) (Nat.le_of_ble_eq_true rfl) ?_
  exact W.zret (v := y7) hx hb hr (nz_n hzy7) (fun t ht hW => ⟨⟨y7, (), rfl, hw, by rw [ht]; exact hP, va_K.moved hW.alike hK, hD⟩, hS.F ht⟩) hS.2.2 dc_Cl_hasBody_24

def lw_met_Cl_keyOf_5 (post : Int64 → Unit → Prop) (a0 : Int32) (n_sizes : Nat) (F_sizes : Nat → Int32) (n_a1 : Nat) (F_a1 : Nat → Int32) (n_terms : Nat) (F_terms : Nat → Int32) : Nat → (Int32 × Int64) → Prop
  | 0, _ => False
  | n1_ + 1, (v2, v3) => vp_in a0 n_sizes ∧ (∀ y5 : Int32, y5 = F_sizes a0.toNatClampNeg → (((y5 ≤ v2 → (post v3 ())) ∧ (¬ (y5 ≤ v2) → (wp_met_Cl_term (fun (r6 : Int32) (_ : Unit) => (((((16 : Int32) ≤ r6 → (True)) ∧ (¬ ((16 : Int32) ≤ r6) → (vp_in r6 n_a1 ∧ (True))))) ∧ (∀ y7 : Int64, y7 = (if (16 : Int32) ≤ r6 then ((r6 - (16 : Int32)).toInt64) else ((F_a1 r6.toNatClampNeg).toInt64)) → (wp_met_Fa_shiftOf (fun (r9 : Int32) (_ : Unit) => (∀ y10 : Int64, y10 = y7 <<< (r9.toInt64 &&& 63) → (∀ y11 : Int64, y11 = v3 ||| y10 → (lw_met_Cl_keyOf_5 post a0 n_sizes F_sizes n_a1 F_a1 n_terms F_terms n1_ ((v2 + 1), y11))))) v2)))) n_terms a0 v2 F_terms)))))
def wp_met_Cl_keyOf (post : Int64 → Unit → Prop) (n_sizes : Nat) (n_terms : Nat) (n_a1 : Nat) (a0 : Int32) (F_sizes : Nat → Int32) (F_terms : Nat → Int32) (F_a1 : Nat → Int32) : Prop := ∃ n9 : Nat, lw_met_Cl_keyOf_5 post a0 n_sizes F_sizes n_a1 F_a1 n_terms F_terms n9 ((0 : Int32), (0 : Int64))
set_option maxHeartbeats 4000000 in
set_option maxRecDepth 100000 in
theorem met_Cl_keyOf (l : Launch) (dC : Nat → ClassId) (dI : Nat → Nat → Nat) (n_sizes : Nat) (n_terms : Nat) (n_a1 : Nat) (h0 : Nat) (first_ : Nat) (kinds_ : Nat) (predicates_ : Nat) (places_ : Nat) (sizes_ : Nat) (masks_ : Nat) (terms_ : Nat) (a1 : Nat) (a0 : Int32) (size_ : Int32) (literals_ : Int32) (F_sizes : Nat → Int32) (F_terms : Nat → Int32) (F_a1 : Nat → Int32) (k_sizes : ClassId) (k_terms : ClassId) (k_a1 : ClassId) (sz : Nat) {post : Int64 → Unit → Prop} (hw : wp_met_Cl_keyOf post n_sizes n_terms n_a1 a0 F_sizes F_terms F_a1) : Met l my_Cl_keyOf (Cond.code my_Cl_keyOf cd_Cl_keyOf 9 (some (.long)) :: tblG) ({ frames := 1, cells := 0, slots := 0, locals := 22 }) (va_Pc [.ref h0, .int a0, .ref a1] (fun U => U.heap.size = sz ∧ va_P (dC, dI) vwCl [(h0, .inr (1, [.int size_, .ref first_, .ref kinds_, .ref predicates_, .ref places_, .ref sizes_, .ref masks_, .ref terms_, .int literals_])), (sizes_, .inl (k_sizes, n_sizes, .inl F_sizes)), (terms_, .inl (k_terms, n_terms, .inl F_terms)), (a1, .inl (k_a1, n_a1, .inl F_a1))] U.heap ∧ va_K (dC, dI) vwCl [(k_sizes, .int), (k_terms, .int), (k_a1, .int)] U ∧ va_D (fun _ => True) [(h0, .inr (1, [.int size_, .ref first_, .ref kinds_, .ref predicates_, .ref places_, .ref sizes_, .ref masks_, .ref terms_, .int literals_])), (sizes_, .inl (k_sizes, n_sizes, .inl F_sizes)), (terms_, .inl (k_terms, n_terms, .inl F_terms)), (a1, .inl (k_a1, n_a1, .inl F_a1))])) (va_Ql post (fun (u : Unit) (t : State) => va_P (dC, dI) vwCl [(h0, .inr (1, [.int size_, .ref first_, .ref kinds_, .ref predicates_, .ref places_, .ref sizes_, .ref masks_, .ref terms_, .int literals_])), (sizes_, .inl (k_sizes, n_sizes, .inl F_sizes)), (terms_, .inl (k_terms, n_terms, .inl F_terms)), (a1, .inl (k_a1, n_a1, .inl F_a1))] t.heap ∧ va_K (dC, dI) vwCl [(k_sizes, .int), (k_terms, .int), (k_a1, .int)] t ∧ va_D (va_A [(h0, .inr (1, [.int size_, .ref first_, .ref kinds_, .ref predicates_, .ref places_, .ref sizes_, .ref masks_, .ref terms_, .int literals_])), (sizes_, .inl (k_sizes, n_sizes, .inl F_sizes)), (terms_, .inl (k_terms, n_terms, .inl F_terms)), (a1, .inl (k_a1, n_a1, .inl F_a1))] sz) [(h0, .inr (1, [.int size_, .ref first_, .ref kinds_, .ref predicates_, .ref places_, .ref sizes_, .ref masks_, .ref terms_, .int literals_])), (sizes_, .inl (k_sizes, n_sizes, .inl F_sizes)), (terms_, .inl (k_terms, n_terms, .inl F_terms)), (a1, .inl (k_a1, n_a1, .inl F_a1))]) (va_A [(h0, .inr (1, [.int size_, .ref first_, .ref kinds_, .ref predicates_, .ref places_, .ref sizes_, .ref masks_, .ref terms_, .int literals_])), (sizes_, .inl (k_sizes, n_sizes, .inl F_sizes)), (terms_, .inl (k_terms, n_terms, .inl F_terms)), (a1, .inl (k_a1, n_a1, .inl F_a1))] sz)) 0 0 (va_A [(h0, .inr (1, [.int size_, .ref first_, .ref kinds_, .ref predicates_, .ref places_, .ref sizes_, .ref masks_, .ref terms_, .int literals_])), (sizes_, .inl (k_sizes, n_sizes, .inl F_sizes)), (terms_, .inl (k_terms, n_terms, .inl F_terms)), (a1, .inl (k_a1, n_a1, .inl F_a1))] sz) := by
  refine Met.ofW (cc := cd_Cl_keyOf) (maxL := 9) (ret := (some (.long))) (by decide) rfl ?_
  intro p e s m args below meth c s₁ B hml hv
  obtain ⟨rfl, hsz, hP, hK, hD0⟩ := hv
  have hx := B.exec
  have hb := B.bytes
  have hr := B.returns
  have hT : ∀ w ∈ tblG, w.before _ s = true := fun w h => atoms_spec (ws := (Cond.code my_Cl_keyOf cd_Cl_keyOf 9 (some (.long)) :: tblG)) B.pre w (List.mem_cons_of_mem _ h)
  have hown : s.vm.findClass "StrataBase$Clauses" = some m.cls := findClass_of_methodNamed B.named
  have hlocks := B.notSynchronized
  subst hsz
  have hD := hD0.self (sz := s.heap.size)
  generalize hAe : va_A [(h0, .inr (1, [.int size_, .ref first_, .ref kinds_, .ref predicates_, .ref places_, .ref sizes_, .ref masks_, .ref terms_, .int literals_])), (sizes_, .inl (k_sizes, n_sizes, .inl F_sizes)), (terms_, .inl (k_terms, n_terms, .inl F_terms)), (a1, .inl (k_a1, n_a1, .inl F_a1))] s.heap.size = A at hD ⊢
  have hA : ∀ q : Nat, s.heap.size ≤ q → A q := fun q h => by rw [← hAe]; exact Or.inr h
  have hS : va_S A s.heap s.heap [] := va_S.rf
  have hl := lv_entry ([.ref h0, .int a0, .ref a1]) (n := 9) (Nat.le_of_ble_eq_true rfl)
  rw [lg_entry_eq]
  generalize (lg_sl ([.ref h0, .int a0, .ref a1]) ++ List.replicate (9 - (lg_sl ([.ref h0, .int a0, .ref a1])).length) Slot.unset).toArray = ls at hl ⊢
  have hl : lv_has ls 9 [(0, .ref h0), (1, .int a0), (2, .ref a1)] := hl
  unfold wp_met_Cl_keyOf at hw
  refine lv_lconst (v := 0) hx hb dc_Cl_keyOf_0 rfl ?_
  refine lv_lstore_n (lv' := [(3, .long 0), (0, .ref h0), (1, .int a0), (2, .ref a1)]) hx hb dc_Cl_keyOf_1 rfl hl (by decide) rfl (fun ls hl => ?_)
  refine lv_iconst (v := 0) hx hb dc_Cl_keyOf_2 (by decide) ?_
  refine lv_istore (lv' := [(5, .int 0), (3, .long 0), (0, .ref h0), (1, .int a0), (2, .ref a1)]) hx hb dc_Cl_keyOf_3 hl (by decide) rfl (fun ls hl => ?_)
  obtain ⟨n9, hw⟩ := hw
  refine lp_fuel (σ := Int32 × Int64) _ (fun x9 H locs ls => match x9 with | (v2, v3) => va_K (dC, dI) vwCl [(k_sizes, .int), (k_terms, .int), (k_a1, .int)] s ∧ va_P (dC, dI) vwCl [(h0, .inr (1, [.int size_, .ref first_, .ref kinds_, .ref predicates_, .ref places_, .ref sizes_, .ref masks_, .ref terms_, .int literals_])), (sizes_, .inl (k_sizes, n_sizes, .inl F_sizes)), (terms_, .inl (k_terms, n_terms, .inl F_terms)), (a1, .inl (k_a1, n_a1, .inl F_a1))] H ∧ va_D A [(h0, .inr (1, [.int size_, .ref first_, .ref kinds_, .ref predicates_, .ref places_, .ref sizes_, .ref masks_, .ref terms_, .int literals_])), (sizes_, .inl (k_sizes, n_sizes, .inl F_sizes)), (terms_, .inl (k_terms, n_terms, .inl F_terms)), (a1, .inl (k_a1, n_a1, .inl F_a1))] ∧ va_S A s.heap H locs ∧ lv_has ls 9 [(5, .int v2), (3, .long v3), (0, .ref h0), (1, .int a0), (2, .ref a1)]) (fun x9 h9 => by simp only [lw_met_Cl_keyOf_5] at h9) ?_ hw ⟨hK.sub [0, 1, 2] rfl, hP.sub [0, 1, 2, 3] rfl, hD.sub [0, 1, 2, 3] (by decide) rfl, hS, lv_sub hl [0, 1, 2, 3, 4] rfl⟩
  intro n1_ x9 hw ih1 H locs ls hI
  obtain ⟨v2, v3⟩ := x9
  obtain ⟨hK, hP, hD, hS, hl⟩ := hI
  unfold lw_met_Cl_keyOf_5 at hw
  refine lv_iload hx hb dc_Cl_keyOf_5 (lv_at hl 0 rfl) ?_
  refine lv_aload_n hx hb dc_Cl_keyOf_7 rfl (lv_at hl 2 rfl) ?_
  refine va_get (D := (dC, dI)) (ci := 1) (v := .ref sizes_) (C := "StrataBase$Clauses") (T := tb_Cl) (N := 9) hx hb hT in_Cl hown hK hP 0 rfl rfl 5 (by decide) (hT _ wd_66) (fun _ h9 => h9) rfl dc_Cl_keyOf_8 ?_
  refine lv_iload_n hx hb dc_Cl_keyOf_11 rfl (lv_at hl 3 rfl) ?_
  obtain ⟨hv4, hw⟩ := hw
  refine va_iald hx hb hK hP 1 0 rfl rfl hv4 dc_Cl_keyOf_12 ?_
  refine lv_topi (fun y5 ey5 => ?_)
  have hw := hw y5 ey5
  refine lv_icmp_ge (tgt := 65) hx hb dc_Cl_keyOf_13 (by decide) (fun h13 => ?_) (fun h13 => ?_)
  · have hw := hw.1 h13
    refine lv_lload_n hx hb dc_Cl_keyOf_65 rfl (lv_at hl 1 rfl) ?_
    refine W.widen (k := 0) (n := 0) (Nat.le_of_ble_eq_true rfl) (Nat.le_of_ble_eq_true rfl) ?_
    exact W.lret (v := v3) hx hb hr (fun t ht hW => ⟨⟨v3, (), rfl, hw, by rw [ht]; exact hP, va_K.moved hW.alike hK, hD⟩, hS.F ht⟩) hS.2.2 dc_Cl_keyOf_66
  · have hw := hw.2 h13
    refine lv_aload_n hx hb dc_Cl_keyOf_16 rfl (lv_at hl 2 rfl) ?_
    refine lv_iload_n hx hb dc_Cl_keyOf_17 rfl (lv_at hl 3 rfl) ?_
    refine lv_iload hx hb dc_Cl_keyOf_18 (lv_at hl 0 rfl) ?_
    have hPc := hP.sub (ws' := [(h0, .inr (1, [.int size_, .ref first_, .ref kinds_, .ref predicates_, .ref places_, .ref sizes_, .ref masks_, .ref terms_, .int literals_])), (terms_, .inl (k_terms, n_terms, .inl F_terms))]) [0, 2] rfl
    have hDc := hD.sub (ws' := [(h0, .inr (1, [.int size_, .ref first_, .ref kinds_, .ref predicates_, .ref places_, .ref sizes_, .ref masks_, .ref terms_, .int literals_])), (terms_, .inl (k_terms, n_terms, .inl F_terms))]) [0, 2] (by decide) rfl
    have hKc := hK.sub (tys' := [(k_terms, .int)]) [1] rfl
    have hFc := va_free (wc := [(h0, .inr (1, [.int size_, .ref first_, .ref kinds_, .ref predicates_, .ref places_, .ref sizes_, .ref masks_, .ref terms_, .int literals_])), (terms_, .inl (k_terms, n_terms, .inl F_terms))]) hD hS hA [0, 2] rfl
    refine va_calli (va_runV (As := [.int a0, .int v2]) (rest := []) ⟨hx, hb, hml, hown, hT⟩ (met_Cl_term l dC dI n_terms h0 first_ kinds_ predicates_ places_ sizes_ masks_ terms_ a0 v2 size_ literals_ F_terms k_terms H.size hw) (cwV 2 hT (gd_V wd_1050 wd_887 wd_888 wd_3 wd_889) rfl rfl rfl (by decide +kernel) ⟨Nat.le_of_ble_eq_true rfl, Nat.le_of_ble_eq_true rfl⟩) ⟨fun a U g mk q => by obtain ⟨q0, q1, qP, qK, qD⟩ := q; exact ⟨q0, q1, qP, va_K.moved (u := U) (U := U.calling g mk a) (Vm.Alike.refl U.vm) qK, qD⟩, va_recv hK hP (q0 := 0) (ci := 1) rfl rfl, fun U hU hW => ⟨rfl, by rw [hU], by rw [hU]; exact hPc, va_K.moved hW.alike hKc, hDc.weaken (fun _ _ _ _ => trivial)⟩⟩ rfl rfl hl.1 rfl (lv_room (Nat.le_of_ble_eq_true rfl)) dc_Cl_keyOf_20 ⟨(Nat.le_of_ble_eq_true rfl), (Nat.le_of_ble_eq_true rfl)⟩) hS (fun q _ h => hFc q h) hFc (fun r6 _ t H1 locs ht hvm hw hB hz1 hk1 hS => ?_)
    obtain ⟨hP1, hK1, hD1⟩ := hB
    rw [ht] at hP1
    have hK1 := va_K.moved hvm.symm hK1
    obtain ⟨hP, hD⟩ := va_join (wr := [(sizes_, .inl (k_sizes, n_sizes, .inl F_sizes)), (a1, .inl (k_a1, n_a1, .inl F_a1))]) (w1 := [(h0, .inr (1, [.int size_, .ref first_, .ref kinds_, .ref predicates_, .ref places_, .ref sizes_, .ref masks_, .ref terms_, .int literals_])), (terms_, .inl (k_terms, n_terms, .inl F_terms))]) hP hD [0, 2] [1, 3] rfl rfl (by decide) (by decide) hk1 hFc hP1 hD1
    have hK := (hK.sub (tys' := [(k_sizes, .int), (k_a1, .int)]) [0, 2] rfl).app hK1
    generalize H1 = H at hP hS ⊢
    have hP : va_P (dC, dI) vwCl [(sizes_, .inl (k_sizes, n_sizes, .inl F_sizes)), (a1, .inl (k_a1, n_a1, .inl F_a1)), (h0, .inr (1, [.int size_, .ref first_, .ref kinds_, .ref predicates_, .ref places_, .ref sizes_, .ref masks_, .ref terms_, .int literals_])), (terms_, .inl (k_terms, n_terms, .inl F_terms))] H := hP
    have hD : va_D A [(sizes_, .inl (k_sizes, n_sizes, .inl F_sizes)), (a1, .inl (k_a1, n_a1, .inl F_a1)), (h0, .inr (1, [.int size_, .ref first_, .ref kinds_, .ref predicates_, .ref places_, .ref sizes_, .ref masks_, .ref terms_, .int literals_])), (terms_, .inl (k_terms, n_terms, .inl F_terms))] := hD
    have hK : va_K (dC, dI) vwCl [(k_sizes, .int), (k_a1, .int), (k_terms, .int)] s := hK
    refine lv_istore (lv' := [(6, .int r6), (5, .int v2), (3, .long v3), (0, .ref h0), (1, .int a0), (2, .ref a1)]) hx hb dc_Cl_keyOf_23 hl (by decide) rfl (fun ls hl => ?_)
    refine lv_iload hx hb dc_Cl_keyOf_25 (lv_at hl 0 rfl) ?_
    refine lv_bipush (v := 16) hx hb dc_Cl_keyOf_27 (by decide) ?_
    obtain ⟨hob, hw⟩ := hw
    refine jn_topl (pc2 := 46) (rest := []) (fun y7 => y7 = (if (16 : Int32) ≤ r6 then ((r6 - (16 : Int32)).toInt64) else ((F_a1 r6.toNatClampNeg).toInt64))) (fun y7 ey7 => ?_) (fun k9 => ?_)
    rotate_left
    · refine lv_icmp_ge (tgt := 40) hx hb dc_Cl_keyOf_29 (by decide) (fun h29 => ?_) (fun h29 => ?_)
      · have hob := hob.1 h29
        refine lv_iload hx hb dc_Cl_keyOf_40 (lv_at hl 0 rfl) ?_
        refine lv_bipush (v := 16) hx hb dc_Cl_keyOf_42 (by decide) ?_
        refine lv_isub hx hb dc_Cl_keyOf_44 ?_
        refine lv_i2l (v := (r6 - (16 : Int32)).toInt64) hx hb dc_Cl_keyOf_45 rfl ?_
        exact k9 ((r6 - (16 : Int32)).toInt64) (by rw [if_pos h29])
      · have hob := hob.2 h29
        refine lv_aload_n hx hb dc_Cl_keyOf_32 rfl (lv_at hl 5 rfl) ?_
        refine lv_iload hx hb dc_Cl_keyOf_33 (lv_at hl 0 rfl) ?_
        obtain ⟨hv8, hob⟩ := hob
        refine va_iald hx hb hK hP 1 1 rfl rfl hv8 dc_Cl_keyOf_35 ?_
        refine lv_i2l (v := (F_a1 r6.toNatClampNeg).toInt64) hx hb dc_Cl_keyOf_36 rfl ?_
        refine lv_goto (tgt := 46) hx hb dc_Cl_keyOf_37 (by decide) ?_
        exact k9 ((F_a1 r6.toNatClampNeg).toInt64) (by rw [if_neg h29])
    have hw := hw y7 ey7
    refine lv_lstore (lv' := [(7, .long y7), (6, .int r6), (5, .int v2), (3, .long v3), (0, .ref h0), (1, .int a0), (2, .ref a1)]) hx hb dc_Cl_keyOf_46 hl (by decide) rfl (fun ls hl => ?_)
    refine lv_lload_n hx hb dc_Cl_keyOf_48 rfl (lv_at hl 3 rfl) ?_
    refine lv_lload hx hb dc_Cl_keyOf_49 (lv_at hl 0 rfl) ?_
    refine lv_iload hx hb dc_Cl_keyOf_51 (lv_at hl 2 rfl) ?_
    have hPc := hP.sub (ws' := []) [] rfl
    have hDc := hD.sub (ws' := []) [] (by decide) rfl
    have hKc := hK.sub (tys' := []) [] rfl
    have hFc := va_free (wc := []) hD hS hA [] rfl
    refine va_calli (va_runS (As := [.int v2]) (rest := [.long y7, .long v3]) ⟨hx, hb, hml, hown, hT⟩ (met_Fa_shiftOf l dC dI v2 H.size hw) (va_cwS 1 hT (gd_S wd_1051 wd_1052 wd_8 wd_1053) rfl rfl rfl (by decide +kernel) ⟨Nat.le_of_ble_eq_true rfl, Nat.le_of_ble_eq_true rfl⟩) ⟨fun a U g mk q => by obtain ⟨q0, q1, qP, qK, qD⟩ := q; exact ⟨q0, q1, qP, va_K.moved (u := U) (U := U.calling g mk a) (Vm.Alike.refl U.vm) qK, qD⟩, fun U hU hW => ⟨rfl, by rw [hU], by rw [hU]; exact hPc, va_K.moved hW.alike hKc, hDc.weaken (fun _ _ _ _ => trivial)⟩⟩ rfl rfl hl.1 rfl (lv_room (Nat.le_of_ble_eq_true rfl)) dc_Cl_keyOf_53 ⟨(Nat.le_of_ble_eq_true rfl), (Nat.le_of_ble_eq_true rfl)⟩) hS (fun q _ h => hFc q h) hFc (fun r9 _ t H1 locs ht hvm hw hB hz1 hk1 hS => ?_)
    obtain ⟨hP1, hK1, hD1⟩ := hB
    rw [ht] at hP1
    have hK1 := va_K.moved hvm.symm hK1
    obtain ⟨hP, hD⟩ := va_join (wr := [(sizes_, .inl (k_sizes, n_sizes, .inl F_sizes)), (a1, .inl (k_a1, n_a1, .inl F_a1)), (h0, .inr (1, [.int size_, .ref first_, .ref kinds_, .ref predicates_, .ref places_, .ref sizes_, .ref masks_, .ref terms_, .int literals_])), (terms_, .inl (k_terms, n_terms, .inl F_terms))]) (w1 := []) hP hD [] [0, 1, 2, 3] rfl rfl (by decide) (by decide) hk1 hFc hP1 hD1
    have hK := (hK.sub (tys' := [(k_sizes, .int), (k_a1, .int), (k_terms, .int)]) [0, 1, 2] rfl).app hK1
    generalize H1 = H at hP hS ⊢
    have hP : va_P (dC, dI) vwCl [(sizes_, .inl (k_sizes, n_sizes, .inl F_sizes)), (a1, .inl (k_a1, n_a1, .inl F_a1)), (h0, .inr (1, [.int size_, .ref first_, .ref kinds_, .ref predicates_, .ref places_, .ref sizes_, .ref masks_, .ref terms_, .int literals_])), (terms_, .inl (k_terms, n_terms, .inl F_terms))] H := hP
    have hD : va_D A [(sizes_, .inl (k_sizes, n_sizes, .inl F_sizes)), (a1, .inl (k_a1, n_a1, .inl F_a1)), (h0, .inr (1, [.int size_, .ref first_, .ref kinds_, .ref predicates_, .ref places_, .ref sizes_, .ref masks_, .ref terms_, .int literals_])), (terms_, .inl (k_terms, n_terms, .inl F_terms))] := hD
    have hK : va_K (dC, dI) vwCl [(k_sizes, .int), (k_a1, .int), (k_terms, .int)] s := hK
    refine lv_lshl (v := y7 <<< (r9.toInt64 &&& 63)) hx hb dc_Cl_keyOf_56 rfl ?_
    refine lv_topl (fun y10 ey10 => ?_)
    have hw := hw y10 ey10
    refine lv_lor hx hb dc_Cl_keyOf_57 ?_
    refine lv_topl (fun y11 ey11 => ?_)
    have hw := hw y11 ey11
    refine lv_lstore_n (lv' := [(3, .long y11), (7, .long y7), (6, .int r6), (5, .int v2), (0, .ref h0), (1, .int a0), (2, .ref a1)]) hx hb dc_Cl_keyOf_58 rfl hl (by decide) rfl (fun ls hl => ?_)
    refine lv_iinc (k := 3) (v := v2 + 1) (lv' := [(5, .int (v2 + 1)), (3, .long y11), (7, .long y7), (6, .int r6), (0, .ref h0), (1, .int a0), (2, .ref a1)]) hx hb dc_Cl_keyOf_59 hl rfl rfl (by decide) rfl (fun ls hl => ?_)
    refine lv_goto (tgt := 5) hx hb dc_Cl_keyOf_62 (by decide) ?_
    exact ih1 ((v2 + 1), y11) hw _ _ _ ⟨hK.sub [0, 2, 1] rfl, hP.sub [2, 0, 3, 1] rfl, hD.sub [2, 0, 3, 1] (by decide) rfl, hS, lv_sub hl [0, 1, 4, 5, 6] rfl⟩

def wp_met_Cl_orderCode (post : Int32 → Unit → Prop) (n_terms : Nat) (n_a2 : Nat) (a0 : Int32) (a1 : Int32) (F_terms : Nat → Int32) (F_a2 : Nat → Int32) : Prop := ∀ y1 : Int32, y1 = a0 * (6 : Int32) → (∀ y2 : Int32, y2 = y1 + a1 → (vp_in y2 n_terms ∧ (∀ y4 : Int32, y4 = F_terms y2.toNatClampNeg → (((((16 : Int32) ≤ y4 → (True)) ∧ (¬ ((16 : Int32) ≤ y4) → (vp_in y4 n_a2 ∧ (True))))) ∧ (∀ y5 : Int32, y5 = (if (16 : Int32) ≤ y4 then (y4 - (16 : Int32)) else (((2 : Int32) * (F_a2 y4.toNatClampNeg)) + (1 : Int32))) → (post y5 ()))))))
set_option maxHeartbeats 4000000 in
set_option maxRecDepth 100000 in
theorem met_Cl_orderCode (l : Launch) (dC : Nat → ClassId) (dI : Nat → Nat → Nat) (n_terms : Nat) (n_a2 : Nat) (h0 : Nat) (first_ : Nat) (kinds_ : Nat) (predicates_ : Nat) (places_ : Nat) (sizes_ : Nat) (masks_ : Nat) (terms_ : Nat) (a2 : Nat) (a0 : Int32) (a1 : Int32) (size_ : Int32) (literals_ : Int32) (F_terms : Nat → Int32) (F_a2 : Nat → Int32) (k_terms : ClassId) (k_a2 : ClassId) (sz : Nat) {post : Int32 → Unit → Prop} (hw : wp_met_Cl_orderCode post n_terms n_a2 a0 a1 F_terms F_a2) : Met l my_Cl_orderCode (Cond.code my_Cl_orderCode cd_Cl_orderCode 5 (some (.int)) :: tblG) ({ frames := 0, cells := 0, slots := 0, locals := 0 }) (va_Pc [.ref h0, .int a0, .int a1, .ref a2] (fun U => U.heap.size = sz ∧ va_P (dC, dI) vwCl [(h0, .inr (1, [.int size_, .ref first_, .ref kinds_, .ref predicates_, .ref places_, .ref sizes_, .ref masks_, .ref terms_, .int literals_])), (terms_, .inl (k_terms, n_terms, .inl F_terms)), (a2, .inl (k_a2, n_a2, .inl F_a2))] U.heap ∧ va_K (dC, dI) vwCl [(k_terms, .int), (k_a2, .int)] U ∧ va_D (fun _ => True) [(h0, .inr (1, [.int size_, .ref first_, .ref kinds_, .ref predicates_, .ref places_, .ref sizes_, .ref masks_, .ref terms_, .int literals_])), (terms_, .inl (k_terms, n_terms, .inl F_terms)), (a2, .inl (k_a2, n_a2, .inl F_a2))])) (va_Qi post (fun (u : Unit) (t : State) => va_P (dC, dI) vwCl [(h0, .inr (1, [.int size_, .ref first_, .ref kinds_, .ref predicates_, .ref places_, .ref sizes_, .ref masks_, .ref terms_, .int literals_])), (terms_, .inl (k_terms, n_terms, .inl F_terms)), (a2, .inl (k_a2, n_a2, .inl F_a2))] t.heap ∧ va_K (dC, dI) vwCl [(k_terms, .int), (k_a2, .int)] t ∧ va_D (va_A [(h0, .inr (1, [.int size_, .ref first_, .ref kinds_, .ref predicates_, .ref places_, .ref sizes_, .ref masks_, .ref terms_, .int literals_])), (terms_, .inl (k_terms, n_terms, .inl F_terms)), (a2, .inl (k_a2, n_a2, .inl F_a2))] sz) [(h0, .inr (1, [.int size_, .ref first_, .ref kinds_, .ref predicates_, .ref places_, .ref sizes_, .ref masks_, .ref terms_, .int literals_])), (terms_, .inl (k_terms, n_terms, .inl F_terms)), (a2, .inl (k_a2, n_a2, .inl F_a2))]) (va_A [(h0, .inr (1, [.int size_, .ref first_, .ref kinds_, .ref predicates_, .ref places_, .ref sizes_, .ref masks_, .ref terms_, .int literals_])), (terms_, .inl (k_terms, n_terms, .inl F_terms)), (a2, .inl (k_a2, n_a2, .inl F_a2))] sz)) 0 0 (va_A [(h0, .inr (1, [.int size_, .ref first_, .ref kinds_, .ref predicates_, .ref places_, .ref sizes_, .ref masks_, .ref terms_, .int literals_])), (terms_, .inl (k_terms, n_terms, .inl F_terms)), (a2, .inl (k_a2, n_a2, .inl F_a2))] sz) := by
  refine Met.ofW (cc := cd_Cl_orderCode) (maxL := 5) (ret := (some (.int))) (by decide) rfl ?_
  intro p e s m args below meth c s₁ B hml hv
  obtain ⟨rfl, hsz, hP, hK, hD0⟩ := hv
  have hx := B.exec
  have hb := B.bytes
  have hr := B.returns
  have hT : ∀ w ∈ tblG, w.before _ s = true := fun w h => atoms_spec (ws := (Cond.code my_Cl_orderCode cd_Cl_orderCode 5 (some (.int)) :: tblG)) B.pre w (List.mem_cons_of_mem _ h)
  have hown : s.vm.findClass "StrataBase$Clauses" = some m.cls := findClass_of_methodNamed B.named
  have hlocks := B.notSynchronized
  subst hsz
  have hD := hD0.self (sz := s.heap.size)
  generalize hAe : va_A [(h0, .inr (1, [.int size_, .ref first_, .ref kinds_, .ref predicates_, .ref places_, .ref sizes_, .ref masks_, .ref terms_, .int literals_])), (terms_, .inl (k_terms, n_terms, .inl F_terms)), (a2, .inl (k_a2, n_a2, .inl F_a2))] s.heap.size = A at hD ⊢
  have hA : ∀ q : Nat, s.heap.size ≤ q → A q := fun q h => by rw [← hAe]; exact Or.inr h
  have hS : va_S A s.heap s.heap [] := va_S.rf
  have hl := lv_entry ([.ref h0, .int a0, .int a1, .ref a2]) (n := 5) (Nat.le_of_ble_eq_true rfl)
  rw [lg_entry_eq]
  generalize (lg_sl ([.ref h0, .int a0, .int a1, .ref a2]) ++ List.replicate (5 - (lg_sl ([.ref h0, .int a0, .int a1, .ref a2])).length) Slot.unset).toArray = ls at hl ⊢
  have hl : lv_has ls 5 [(0, .ref h0), (1, .int a0), (2, .int a1), (3, .ref a2)] := hl
  unfold wp_met_Cl_orderCode at hw
  refine lv_aload_n hx hb dc_Cl_orderCode_0 rfl (lv_at hl 0 rfl) ?_
  refine va_get (D := (dC, dI)) (ci := 1) (v := .ref terms_) (C := "StrataBase$Clauses") (T := tb_Cl) (N := 9) hx hb hT in_Cl hown hK hP 0 rfl rfl 7 (by decide) (hT _ wd_75) (fun _ h9 => h9) rfl dc_Cl_orderCode_1 ?_
  refine lv_iload_n hx hb dc_Cl_orderCode_4 rfl (lv_at hl 1 rfl) ?_
  refine lv_bipush (v := 6) hx hb dc_Cl_orderCode_5 (by decide) ?_
  refine lv_imul hx hb dc_Cl_orderCode_7 ?_
  refine lv_topi (fun y1 ey1 => ?_)
  have hw := hw y1 ey1
  refine lv_iload_n hx hb dc_Cl_orderCode_8 rfl (lv_at hl 2 rfl) ?_
  refine lv_iadd hx hb dc_Cl_orderCode_9 ?_
  refine lv_topi (fun y2 ey2 => ?_)
  have hw := hw y2 ey2
  obtain ⟨hv3, hw⟩ := hw
  refine va_iald hx hb hK hP 1 0 rfl rfl hv3 dc_Cl_orderCode_10 ?_
  refine lv_topi (fun y4 ey4 => ?_)
  have hw := hw y4 ey4
  refine lv_istore (lv' := [(4, .int y4), (0, .ref h0), (1, .int a0), (2, .int a1), (3, .ref a2)]) hx hb dc_Cl_orderCode_11 hl (by decide) rfl (fun ls hl => ?_)
  refine lv_iload hx hb dc_Cl_orderCode_13 (lv_at hl 0 rfl) ?_
  refine lv_bipush (v := 16) hx hb dc_Cl_orderCode_15 (by decide) ?_
  obtain ⟨hob, hw⟩ := hw
  refine jn_top (pc2 := 36) (rest := []) (fun y5 => y5 = (if (16 : Int32) ≤ y4 then (y4 - (16 : Int32)) else (((2 : Int32) * (F_a2 y4.toNatClampNeg)) + (1 : Int32)))) (fun y5 ey5 => ?_) (fun k9 => ?_)
  rotate_left
  · refine lv_icmp_ge (tgt := 31) hx hb dc_Cl_orderCode_17 (by decide) (fun h17 => ?_) (fun h17 => ?_)
    · have hob := hob.1 h17
      refine lv_iload hx hb dc_Cl_orderCode_31 (lv_at hl 0 rfl) ?_
      refine lv_bipush (v := 16) hx hb dc_Cl_orderCode_33 (by decide) ?_
      refine lv_isub hx hb dc_Cl_orderCode_35 ?_
      exact k9 (y4 - (16 : Int32)) (by rw [if_pos h17])
    · have hob := hob.2 h17
      refine lv_iconst (v := 2) hx hb dc_Cl_orderCode_20 (by decide) ?_
      refine lv_aload_n hx hb dc_Cl_orderCode_21 rfl (lv_at hl 4 rfl) ?_
      refine lv_iload hx hb dc_Cl_orderCode_22 (lv_at hl 0 rfl) ?_
      obtain ⟨hv6, hob⟩ := hob
      refine va_iald hx hb hK hP 2 1 rfl rfl hv6 dc_Cl_orderCode_24 ?_
      refine lv_imul hx hb dc_Cl_orderCode_25 ?_
      refine lv_iconst (v := 1) hx hb dc_Cl_orderCode_26 (by decide) ?_
      refine lv_iadd hx hb dc_Cl_orderCode_27 ?_
      refine lv_goto (tgt := 36) hx hb dc_Cl_orderCode_28 (by decide) ?_
      exact k9 (((2 : Int32) * (F_a2 y4.toNatClampNeg)) + (1 : Int32)) (by rw [if_neg h17])
  have hw := hw y5 ey5
  refine W.widen (k := 0) (n := 0) (Nat.le_of_ble_eq_true rfl) (Nat.le_of_ble_eq_true rfl) ?_
  exact W.iret (v := y5) hx hb hr (fun t ht hW => ⟨⟨y5, (), rfl, hw, by rw [ht]; exact hP, va_K.moved hW.alike hK, hD⟩, hS.F ht⟩) hS.2.2 dc_Cl_orderCode_36

def wp_met_Cl_compares (post : Int32 → Unit → Prop) (n_kinds : Nat) (n_terms : Nat) (n_a1 : Nat) (a0 : Int32) (F_kinds : Nat → Int32) (F_terms : Nat → Int32) (F_a1 : Nat → Int32) : Prop := wp_met_Cl_orderCode (fun (r1 : Int32) (_ : Unit) => (wp_met_Cl_orderCode (fun (r2 : Int32) (_ : Unit) => (vp_in a0 n_kinds ∧ (∀ y4 : Int32, y4 = F_kinds a0.toNatClampNeg → (((y4 = 11 → (∀ y5 : Int32, y5 = (if r1 = r2 then (1 : Int32) else (0 : Int32)) → (post y5 ()))) ∧ (¬ y4 = 11 → ((y4 = 12 → (∀ y6 : Int32, y6 = (if r1 = r2 then (0 : Int32) else (1 : Int32)) → (post y6 ()))) ∧ (¬ y4 = 12 → ((y4 = 13 → (∀ y7 : Int32, y7 = (if r2 ≤ r1 then (0 : Int32) else (1 : Int32)) → (post y7 ()))) ∧ (¬ y4 = 13 → ((y4 = 14 → (∀ y8 : Int32, y8 = (if r2 < r1 then (0 : Int32) else (1 : Int32)) → (post y8 ()))) ∧ (¬ y4 = 14 → ((y4 = 15 → (∀ y9 : Int32, y9 = (if r1 ≤ r2 then (0 : Int32) else (1 : Int32)) → (post y9 ()))) ∧ (¬ y4 = 15 → ∀ y10 : Int32, y10 = (if r1 < r2 then (0 : Int32) else (1 : Int32)) → (post y10 ()))))))))))))))) n_terms n_a1 a0 (1 : Int32) F_terms F_a1)) n_terms n_a1 a0 (0 : Int32) F_terms F_a1
set_option maxHeartbeats 4000000 in
set_option maxRecDepth 100000 in
theorem met_Cl_compares (l : Launch) (dC : Nat → ClassId) (dI : Nat → Nat → Nat) (n_kinds : Nat) (n_terms : Nat) (n_a1 : Nat) (h0 : Nat) (first_ : Nat) (kinds_ : Nat) (predicates_ : Nat) (places_ : Nat) (sizes_ : Nat) (masks_ : Nat) (terms_ : Nat) (a1 : Nat) (a0 : Int32) (size_ : Int32) (literals_ : Int32) (F_kinds : Nat → Int32) (F_terms : Nat → Int32) (F_a1 : Nat → Int32) (k_kinds : ClassId) (k_terms : ClassId) (k_a1 : ClassId) (sz : Nat) {post : Int32 → Unit → Prop} (hw : wp_met_Cl_compares post n_kinds n_terms n_a1 a0 F_kinds F_terms F_a1) : Met l my_Cl_compares (Cond.code my_Cl_compares cd_Cl_compares 5 (some (.boolean)) :: tblG) ({ frames := 1, cells := 0, slots := 0, locals := 24 }) (va_Pc [.ref h0, .int a0, .ref a1] (fun U => U.heap.size = sz ∧ va_P (dC, dI) vwCl [(h0, .inr (1, [.int size_, .ref first_, .ref kinds_, .ref predicates_, .ref places_, .ref sizes_, .ref masks_, .ref terms_, .int literals_])), (kinds_, .inl (k_kinds, n_kinds, .inl F_kinds)), (terms_, .inl (k_terms, n_terms, .inl F_terms)), (a1, .inl (k_a1, n_a1, .inl F_a1))] U.heap ∧ va_K (dC, dI) vwCl [(k_kinds, .int), (k_terms, .int), (k_a1, .int)] U ∧ va_D (fun _ => True) [(h0, .inr (1, [.int size_, .ref first_, .ref kinds_, .ref predicates_, .ref places_, .ref sizes_, .ref masks_, .ref terms_, .int literals_])), (kinds_, .inl (k_kinds, n_kinds, .inl F_kinds)), (terms_, .inl (k_terms, n_terms, .inl F_terms)), (a1, .inl (k_a1, n_a1, .inl F_a1))])) (va_Qi post (fun (u : Unit) (t : State) => va_P (dC, dI) vwCl [(h0, .inr (1, [.int size_, .ref first_, .ref kinds_, .ref predicates_, .ref places_, .ref sizes_, .ref masks_, .ref terms_, .int literals_])), (kinds_, .inl (k_kinds, n_kinds, .inl F_kinds)), (terms_, .inl (k_terms, n_terms, .inl F_terms)), (a1, .inl (k_a1, n_a1, .inl F_a1))] t.heap ∧ va_K (dC, dI) vwCl [(k_kinds, .int), (k_terms, .int), (k_a1, .int)] t ∧ va_D (va_A [(h0, .inr (1, [.int size_, .ref first_, .ref kinds_, .ref predicates_, .ref places_, .ref sizes_, .ref masks_, .ref terms_, .int literals_])), (kinds_, .inl (k_kinds, n_kinds, .inl F_kinds)), (terms_, .inl (k_terms, n_terms, .inl F_terms)), (a1, .inl (k_a1, n_a1, .inl F_a1))] sz) [(h0, .inr (1, [.int size_, .ref first_, .ref kinds_, .ref predicates_, .ref places_, .ref sizes_, .ref masks_, .ref terms_, .int literals_])), (kinds_, .inl (k_kinds, n_kinds, .inl F_kinds)), (terms_, .inl (k_terms, n_terms, .inl F_terms)), (a1, .inl (k_a1, n_a1, .inl F_a1))]) (va_A [(h0, .inr (1, [.int size_, .ref first_, .ref kinds_, .ref predicates_, .ref places_, .ref sizes_, .ref masks_, .ref terms_, .int literals_])), (kinds_, .inl (k_kinds, n_kinds, .inl F_kinds)), (terms_, .inl (k_terms, n_terms, .inl F_terms)), (a1, .inl (k_a1, n_a1, .inl F_a1))] sz)) 0 0 (va_A [(h0, .inr (1, [.int size_, .ref first_, .ref kinds_, .ref predicates_, .ref places_, .ref sizes_, .ref masks_, .ref terms_, .int literals_])), (kinds_, .inl (k_kinds, n_kinds, .inl F_kinds)), (terms_, .inl (k_terms, n_terms, .inl F_terms)), (a1, .inl (k_a1, n_a1, .inl F_a1))] sz) := by
  refine Met.ofW (cc := cd_Cl_compares) (maxL := 5) (ret := (some (.boolean))) (by decide) rfl ?_
  intro p e s m args below meth c s₁ B hml hv
  obtain ⟨rfl, hsz, hP, hK, hD0⟩ := hv
  have hx := B.exec
  have hb := B.bytes
  have hr := B.returns
  have hT : ∀ w ∈ tblG, w.before _ s = true := fun w h => atoms_spec (ws := (Cond.code my_Cl_compares cd_Cl_compares 5 (some (.boolean)) :: tblG)) B.pre w (List.mem_cons_of_mem _ h)
  have hown : s.vm.findClass "StrataBase$Clauses" = some m.cls := findClass_of_methodNamed B.named
  have hlocks := B.notSynchronized
  subst hsz
  have hD := hD0.self (sz := s.heap.size)
  generalize hAe : va_A [(h0, .inr (1, [.int size_, .ref first_, .ref kinds_, .ref predicates_, .ref places_, .ref sizes_, .ref masks_, .ref terms_, .int literals_])), (kinds_, .inl (k_kinds, n_kinds, .inl F_kinds)), (terms_, .inl (k_terms, n_terms, .inl F_terms)), (a1, .inl (k_a1, n_a1, .inl F_a1))] s.heap.size = A at hD ⊢
  have hA : ∀ q : Nat, s.heap.size ≤ q → A q := fun q h => by rw [← hAe]; exact Or.inr h
  have hS : va_S A s.heap s.heap [] := va_S.rf
  have hl := lv_entry ([.ref h0, .int a0, .ref a1]) (n := 5) (Nat.le_of_ble_eq_true rfl)
  rw [lg_entry_eq]
  generalize (lg_sl ([.ref h0, .int a0, .ref a1]) ++ List.replicate (5 - (lg_sl ([.ref h0, .int a0, .ref a1])).length) Slot.unset).toArray = ls at hl ⊢
  have hl : lv_has ls 5 [(0, .ref h0), (1, .int a0), (2, .ref a1)] := hl
  unfold wp_met_Cl_compares at hw
  refine lv_aload_n hx hb dc_Cl_compares_0 rfl (lv_at hl 0 rfl) ?_
  refine lv_iload_n hx hb dc_Cl_compares_1 rfl (lv_at hl 1 rfl) ?_
  refine lv_iconst (v := 0) hx hb dc_Cl_compares_2 (by decide) ?_
  refine lv_aload_n hx hb dc_Cl_compares_3 rfl (lv_at hl 2 rfl) ?_
  have hPc := hP.sub (ws' := [(h0, .inr (1, [.int size_, .ref first_, .ref kinds_, .ref predicates_, .ref places_, .ref sizes_, .ref masks_, .ref terms_, .int literals_])), (terms_, .inl (k_terms, n_terms, .inl F_terms)), (a1, .inl (k_a1, n_a1, .inl F_a1))]) [0, 2, 3] rfl
  have hDc := hD.sub (ws' := [(h0, .inr (1, [.int size_, .ref first_, .ref kinds_, .ref predicates_, .ref places_, .ref sizes_, .ref masks_, .ref terms_, .int literals_])), (terms_, .inl (k_terms, n_terms, .inl F_terms)), (a1, .inl (k_a1, n_a1, .inl F_a1))]) [0, 2, 3] (by decide) rfl
  have hKc := hK.sub (tys' := [(k_terms, .int), (k_a1, .int)]) [1, 2] rfl
  have hFc := va_free (wc := [(h0, .inr (1, [.int size_, .ref first_, .ref kinds_, .ref predicates_, .ref places_, .ref sizes_, .ref masks_, .ref terms_, .int literals_])), (terms_, .inl (k_terms, n_terms, .inl F_terms)), (a1, .inl (k_a1, n_a1, .inl F_a1))]) hD hS hA [0, 2, 3] rfl
  refine va_calli (va_runV (As := [.int a0, .int 0, .ref a1]) (rest := []) ⟨hx, hb, hml, hown, hT⟩ (met_Cl_orderCode l dC dI n_terms n_a1 h0 first_ kinds_ predicates_ places_ sizes_ masks_ terms_ a1 a0 (0 : Int32) size_ literals_ F_terms F_a1 k_terms k_a1 s.heap.size hw) (cwV 3 hT (gd_V wd_1188 wd_1190 sl_Cl_orderCode wd_3 wd_1191) rfl rfl rfl (by decide +kernel) ⟨Nat.le_of_ble_eq_true rfl, Nat.le_of_ble_eq_true rfl⟩) ⟨fun a U g mk q => by obtain ⟨q0, q1, qP, qK, qD⟩ := q; exact ⟨q0, q1, qP, va_K.moved (u := U) (U := U.calling g mk a) (Vm.Alike.refl U.vm) qK, qD⟩, va_recv hK hP (q0 := 0) (ci := 1) rfl rfl, fun U hU hW => ⟨rfl, by rw [hU], by rw [hU]; exact hPc, va_K.moved hW.alike hKc, hDc.weaken (fun _ _ _ _ => trivial)⟩⟩ rfl rfl hl.1 rfl (lv_room (Nat.le_of_ble_eq_true rfl)) dc_Cl_compares_4 ⟨(Nat.le_of_ble_eq_true rfl), (Nat.le_of_ble_eq_true rfl)⟩) hS (fun q _ h => hFc q h) hFc (fun r1 _ t H1 locs ht hvm hw hB hz1 hk1 hS => ?_)
  obtain ⟨hP1, hK1, hD1⟩ := hB
  rw [ht] at hP1
  have hK1 := va_K.moved hvm.symm hK1
  obtain ⟨hP, hD⟩ := va_join (wr := [(kinds_, .inl (k_kinds, n_kinds, .inl F_kinds))]) (w1 := [(h0, .inr (1, [.int size_, .ref first_, .ref kinds_, .ref predicates_, .ref places_, .ref sizes_, .ref masks_, .ref terms_, .int literals_])), (terms_, .inl (k_terms, n_terms, .inl F_terms)), (a1, .inl (k_a1, n_a1, .inl F_a1))]) hP hD [0, 2, 3] [1] rfl rfl (by decide) (by decide) hk1 hFc hP1 hD1
  have hK := (hK.sub (tys' := [(k_kinds, .int)]) [0] rfl).app hK1
  generalize H1 = H at hP hS ⊢
  have hP : va_P (dC, dI) vwCl [(kinds_, .inl (k_kinds, n_kinds, .inl F_kinds)), (h0, .inr (1, [.int size_, .ref first_, .ref kinds_, .ref predicates_, .ref places_, .ref sizes_, .ref masks_, .ref terms_, .int literals_])), (terms_, .inl (k_terms, n_terms, .inl F_terms)), (a1, .inl (k_a1, n_a1, .inl F_a1))] H := hP
  have hD : va_D A [(kinds_, .inl (k_kinds, n_kinds, .inl F_kinds)), (h0, .inr (1, [.int size_, .ref first_, .ref kinds_, .ref predicates_, .ref places_, .ref sizes_, .ref masks_, .ref terms_, .int literals_])), (terms_, .inl (k_terms, n_terms, .inl F_terms)), (a1, .inl (k_a1, n_a1, .inl F_a1))] := hD
  have hK : va_K (dC, dI) vwCl [(k_kinds, .int), (k_terms, .int), (k_a1, .int)] s := hK
  refine lv_istore_n (lv' := [(3, .int r1), (0, .ref h0), (1, .int a0), (2, .ref a1)]) hx hb dc_Cl_compares_7 rfl hl (by decide) rfl (fun ls hl => ?_)
  refine lv_aload_n hx hb dc_Cl_compares_8 rfl (lv_at hl 1 rfl) ?_
  refine lv_iload_n hx hb dc_Cl_compares_9 rfl (lv_at hl 2 rfl) ?_
  refine lv_iconst (v := 1) hx hb dc_Cl_compares_10 (by decide) ?_
  refine lv_aload_n hx hb dc_Cl_compares_11 rfl (lv_at hl 3 rfl) ?_
  have hPc := hP.sub (ws' := [(h0, .inr (1, [.int size_, .ref first_, .ref kinds_, .ref predicates_, .ref places_, .ref sizes_, .ref masks_, .ref terms_, .int literals_])), (terms_, .inl (k_terms, n_terms, .inl F_terms)), (a1, .inl (k_a1, n_a1, .inl F_a1))]) [1, 2, 3] rfl
  have hDc := hD.sub (ws' := [(h0, .inr (1, [.int size_, .ref first_, .ref kinds_, .ref predicates_, .ref places_, .ref sizes_, .ref masks_, .ref terms_, .int literals_])), (terms_, .inl (k_terms, n_terms, .inl F_terms)), (a1, .inl (k_a1, n_a1, .inl F_a1))]) [1, 2, 3] (by decide) rfl
  have hKc := hK.sub (tys' := [(k_terms, .int), (k_a1, .int)]) [1, 2] rfl
  have hFc := va_free (wc := [(h0, .inr (1, [.int size_, .ref first_, .ref kinds_, .ref predicates_, .ref places_, .ref sizes_, .ref masks_, .ref terms_, .int literals_])), (terms_, .inl (k_terms, n_terms, .inl F_terms)), (a1, .inl (k_a1, n_a1, .inl F_a1))]) hD hS hA [1, 2, 3] rfl
  refine va_calli (va_runV (As := [.int a0, .int 1, .ref a1]) (rest := []) ⟨hx, hb, hml, hown, hT⟩ (met_Cl_orderCode l dC dI n_terms n_a1 h0 first_ kinds_ predicates_ places_ sizes_ masks_ terms_ a1 a0 (1 : Int32) size_ literals_ F_terms F_a1 k_terms k_a1 H.size hw) (cwV 3 hT (gd_V wd_1188 wd_1190 sl_Cl_orderCode wd_3 wd_1191) rfl rfl rfl (by decide +kernel) ⟨Nat.le_of_ble_eq_true rfl, Nat.le_of_ble_eq_true rfl⟩) ⟨fun a U g mk q => by obtain ⟨q0, q1, qP, qK, qD⟩ := q; exact ⟨q0, q1, qP, va_K.moved (u := U) (U := U.calling g mk a) (Vm.Alike.refl U.vm) qK, qD⟩, va_recv hK hP (q0 := 1) (ci := 1) rfl rfl, fun U hU hW => ⟨rfl, by rw [hU], by rw [hU]; exact hPc, va_K.moved hW.alike hKc, hDc.weaken (fun _ _ _ _ => trivial)⟩⟩ rfl rfl hl.1 rfl (lv_room (Nat.le_of_ble_eq_true rfl)) dc_Cl_compares_12 ⟨(Nat.le_of_ble_eq_true rfl), (Nat.le_of_ble_eq_true rfl)⟩) hS (fun q _ h => hFc q h) hFc (fun r2 _ t H1 locs ht hvm hw hB hz1 hk1 hS => ?_)
  obtain ⟨hP1, hK1, hD1⟩ := hB
  rw [ht] at hP1
  have hK1 := va_K.moved hvm.symm hK1
  obtain ⟨hP, hD⟩ := va_join (wr := [(kinds_, .inl (k_kinds, n_kinds, .inl F_kinds))]) (w1 := [(h0, .inr (1, [.int size_, .ref first_, .ref kinds_, .ref predicates_, .ref places_, .ref sizes_, .ref masks_, .ref terms_, .int literals_])), (terms_, .inl (k_terms, n_terms, .inl F_terms)), (a1, .inl (k_a1, n_a1, .inl F_a1))]) hP hD [1, 2, 3] [0] rfl rfl (by decide) (by decide) hk1 hFc hP1 hD1
  have hK := (hK.sub (tys' := [(k_kinds, .int)]) [0] rfl).app hK1
  generalize H1 = H at hP hS ⊢
  have hP : va_P (dC, dI) vwCl [(kinds_, .inl (k_kinds, n_kinds, .inl F_kinds)), (h0, .inr (1, [.int size_, .ref first_, .ref kinds_, .ref predicates_, .ref places_, .ref sizes_, .ref masks_, .ref terms_, .int literals_])), (terms_, .inl (k_terms, n_terms, .inl F_terms)), (a1, .inl (k_a1, n_a1, .inl F_a1))] H := hP
  have hD : va_D A [(kinds_, .inl (k_kinds, n_kinds, .inl F_kinds)), (h0, .inr (1, [.int size_, .ref first_, .ref kinds_, .ref predicates_, .ref places_, .ref sizes_, .ref masks_, .ref terms_, .int literals_])), (terms_, .inl (k_terms, n_terms, .inl F_terms)), (a1, .inl (k_a1, n_a1, .inl F_a1))] := hD
  have hK : va_K (dC, dI) vwCl [(k_kinds, .int), (k_terms, .int), (k_a1, .int)] s := hK
  refine lv_istore (lv' := [(4, .int r2), (3, .int r1), (0, .ref h0), (1, .int a0), (2, .ref a1)]) hx hb dc_Cl_compares_15 hl (by decide) rfl (fun ls hl => ?_)
  refine lv_aload_n hx hb dc_Cl_compares_17 rfl (lv_at hl 2 rfl) ?_
  refine va_get (D := (dC, dI)) (ci := 1) (v := .ref kinds_) (C := "StrataBase$Clauses") (T := tb_Cl) (N := 9) hx hb hT in_Cl hown hK hP 1 rfl rfl 2 (by decide) (hT _ wd_54) (fun _ h9 => h9) rfl dc_Cl_compares_18 ?_
  refine lv_iload_n hx hb dc_Cl_compares_21 rfl (lv_at hl 3 rfl) ?_
  obtain ⟨hv3, hw⟩ := hw
  refine va_iald hx hb hK hP 0 0 rfl rfl hv3 dc_Cl_compares_22 ?_
  refine lv_topi (fun y4 ey4 => ?_)
  have hw := hw y4 ey4
  rcases Decidable.em (y4 = 11) with hc23_11 | hc23_11
  · have hw := hw.1 hc23_11
    refine lv_tableIn (off := 33) (tgt := 56) hx hb dc_Cl_compares_23 (by rw [hc23_11]; decide) (by rw [hc23_11]; decide) (by rw [hc23_11]; decide) (by decide) ?_
    refine lv_iload_n hx hb dc_Cl_compares_56 rfl (lv_at hl 1 rfl) ?_
    refine lv_iload hx hb dc_Cl_compares_57 (lv_at hl 0 rfl) ?_
    refine jn_top (pc2 := 67) (rest := []) (fun y5 => y5 = (if r1 = r2 then (1 : Int32) else (0 : Int32))) (fun y5 ey5 => ?_) (fun k9 => ?_)
    rotate_left
    · refine lv_icmp_ne (tgt := 66) hx hb dc_Cl_compares_59 (by decide) (fun h59 => ?_) (fun h59 => ?_)
      · refine lv_iconst (v := 0) hx hb dc_Cl_compares_66 (by decide) ?_
        exact k9 (0 : Int32) (by rw [if_neg h59])
      · refine lv_iconst (v := 1) hx hb dc_Cl_compares_62 (by decide) ?_
        refine lv_goto (tgt := 67) hx hb dc_Cl_compares_63 (by decide) ?_
        exact k9 (1 : Int32) (by rw [if_pos h59])
    have hw := hw y5 ey5
    have hzy5 : y5 = 0 ∨ y5 = 1 := by
      rw [ey5]; repeat' split
      all_goals first | exact Or.inl rfl | exact Or.inr rfl
    have hP := hP.sub (ws' := [(h0, .inr (1, [.int size_, .ref first_, .ref kinds_, .ref predicates_, .ref places_, .ref sizes_, .ref masks_, .ref terms_, .int literals_])), (kinds_, .inl (k_kinds, n_kinds, .inl F_kinds)), (terms_, .inl (k_terms, n_terms, .inl F_terms)), (a1, .inl (k_a1, n_a1, .inl F_a1))]) [1, 0, 2, 3] rfl
    have hD := hD.sub (ws' := [(h0, .inr (1, [.int size_, .ref first_, .ref kinds_, .ref predicates_, .ref places_, .ref sizes_, .ref masks_, .ref terms_, .int literals_])), (kinds_, .inl (k_kinds, n_kinds, .inl F_kinds)), (terms_, .inl (k_terms, n_terms, .inl F_terms)), (a1, .inl (k_a1, n_a1, .inl F_a1))]) [1, 0, 2, 3] (by decide) rfl
    have hK := hK.sub (tys' := [(k_kinds, .int), (k_terms, .int), (k_a1, .int)]) [0, 1, 2] rfl
    refine W.widen (k := 0) (n := 0) (Nat.le_of_ble_eq_true rfl) (Nat.le_of_ble_eq_true rfl) ?_
    exact W.zret (v := y5) hx hb hr (nz_n hzy5) (fun t ht hW => ⟨⟨y5, (), rfl, hw, by rw [ht]; exact hP, va_K.moved hW.alike hK, hD⟩, hS.F ht⟩) hS.2.2 dc_Cl_compares_67
  have hw := hw.2 hc23_11
  rcases Decidable.em (y4 = 12) with hc23_12 | hc23_12
  · have hw := hw.1 hc23_12
    refine lv_tableIn (off := 45) (tgt := 68) hx hb dc_Cl_compares_23 (by rw [hc23_12]; decide) (by rw [hc23_12]; decide) (by rw [hc23_12]; decide) (by decide) ?_
    refine lv_iload_n hx hb dc_Cl_compares_68 rfl (lv_at hl 1 rfl) ?_
    refine lv_iload hx hb dc_Cl_compares_69 (lv_at hl 0 rfl) ?_
    refine jn_top (pc2 := 79) (rest := []) (fun y6 => y6 = (if r1 = r2 then (0 : Int32) else (1 : Int32))) (fun y6 ey6 => ?_) (fun k9 => ?_)
    rotate_left
    · refine lv_icmp_eq (tgt := 78) hx hb dc_Cl_compares_71 (by decide) (fun h71 => ?_) (fun h71 => ?_)
      · refine lv_iconst (v := 0) hx hb dc_Cl_compares_78 (by decide) ?_
        exact k9 (0 : Int32) (by rw [if_pos h71])
      · refine lv_iconst (v := 1) hx hb dc_Cl_compares_74 (by decide) ?_
        refine lv_goto (tgt := 79) hx hb dc_Cl_compares_75 (by decide) ?_
        exact k9 (1 : Int32) (by rw [if_neg h71])
    have hw := hw y6 ey6
    have hzy6 : y6 = 0 ∨ y6 = 1 := by
      rw [ey6]; repeat' split
      all_goals first | exact Or.inl rfl | exact Or.inr rfl
    have hP := hP.sub (ws' := [(h0, .inr (1, [.int size_, .ref first_, .ref kinds_, .ref predicates_, .ref places_, .ref sizes_, .ref masks_, .ref terms_, .int literals_])), (kinds_, .inl (k_kinds, n_kinds, .inl F_kinds)), (terms_, .inl (k_terms, n_terms, .inl F_terms)), (a1, .inl (k_a1, n_a1, .inl F_a1))]) [1, 0, 2, 3] rfl
    have hD := hD.sub (ws' := [(h0, .inr (1, [.int size_, .ref first_, .ref kinds_, .ref predicates_, .ref places_, .ref sizes_, .ref masks_, .ref terms_, .int literals_])), (kinds_, .inl (k_kinds, n_kinds, .inl F_kinds)), (terms_, .inl (k_terms, n_terms, .inl F_terms)), (a1, .inl (k_a1, n_a1, .inl F_a1))]) [1, 0, 2, 3] (by decide) rfl
    have hK := hK.sub (tys' := [(k_kinds, .int), (k_terms, .int), (k_a1, .int)]) [0, 1, 2] rfl
    refine W.widen (k := 0) (n := 0) (Nat.le_of_ble_eq_true rfl) (Nat.le_of_ble_eq_true rfl) ?_
    exact W.zret (v := y6) hx hb hr (nz_n hzy6) (fun t ht hW => ⟨⟨y6, (), rfl, hw, by rw [ht]; exact hP, va_K.moved hW.alike hK, hD⟩, hS.F ht⟩) hS.2.2 dc_Cl_compares_79
  have hw := hw.2 hc23_12
  rcases Decidable.em (y4 = 13) with hc23_13 | hc23_13
  · have hw := hw.1 hc23_13
    refine lv_tableIn (off := 57) (tgt := 80) hx hb dc_Cl_compares_23 (by rw [hc23_13]; decide) (by rw [hc23_13]; decide) (by rw [hc23_13]; decide) (by decide) ?_
    refine lv_iload_n hx hb dc_Cl_compares_80 rfl (lv_at hl 1 rfl) ?_
    refine lv_iload hx hb dc_Cl_compares_81 (lv_at hl 0 rfl) ?_
    refine jn_top (pc2 := 91) (rest := []) (fun y7 => y7 = (if r2 ≤ r1 then (0 : Int32) else (1 : Int32))) (fun y7 ey7 => ?_) (fun k9 => ?_)
    rotate_left
    · refine lv_icmp_ge (tgt := 90) hx hb dc_Cl_compares_83 (by decide) (fun h83 => ?_) (fun h83 => ?_)
      · refine lv_iconst (v := 0) hx hb dc_Cl_compares_90 (by decide) ?_
        exact k9 (0 : Int32) (by rw [if_pos h83])
      · refine lv_iconst (v := 1) hx hb dc_Cl_compares_86 (by decide) ?_
        refine lv_goto (tgt := 91) hx hb dc_Cl_compares_87 (by decide) ?_
        exact k9 (1 : Int32) (by rw [if_neg h83])
    have hw := hw y7 ey7
    have hzy7 : y7 = 0 ∨ y7 = 1 := by
      rw [ey7]; repeat' split
      all_goals first | exact Or.inl rfl | exact Or.inr rfl
    have hP := hP.sub (ws' := [(h0, .inr (1, [.int size_, .ref first_, .ref kinds_, .ref predicates_, .ref places_, .ref sizes_, .ref masks_, .ref terms_, .int literals_])), (kinds_, .inl (k_kinds, n_kinds, .inl F_kinds)), (terms_, .inl (k_terms, n_terms, .inl F_terms)), (a1, .inl (k_a1, n_a1, .inl F_a1))]) [1, 0, 2, 3] rfl
    have hD := hD.sub (ws' := [(h0, .inr (1, [.int size_, .ref first_, .ref kinds_, .ref predicates_, .ref places_, .ref sizes_, .ref masks_, .ref terms_, .int literals_])), (kinds_, .inl (k_kinds, n_kinds, .inl F_kinds)), (terms_, .inl (k_terms, n_terms, .inl F_terms)), (a1, .inl (k_a1, n_a1, .inl F_a1))]) [1, 0, 2, 3] (by decide) rfl
    have hK := hK.sub (tys' := [(k_kinds, .int), (k_terms, .int), (k_a1, .int)]) [0, 1, 2] rfl
    refine W.widen (k := 0) (n := 0) (Nat.le_of_ble_eq_true rfl) (Nat.le_of_ble_eq_true rfl) ?_
    exact W.zret (v := y7) hx hb hr (nz_n hzy7) (fun t ht hW => ⟨⟨y7, (), rfl, hw, by rw [ht]; exact hP, va_K.moved hW.alike hK, hD⟩, hS.F ht⟩) hS.2.2 dc_Cl_compares_91
  have hw := hw.2 hc23_13
  rcases Decidable.em (y4 = 14) with hc23_14 | hc23_14
  · have hw := hw.1 hc23_14
    refine lv_tableIn (off := 69) (tgt := 92) hx hb dc_Cl_compares_23 (by rw [hc23_14]; decide) (by rw [hc23_14]; decide) (by rw [hc23_14]; decide) (by decide) ?_
    refine lv_iload_n hx hb dc_Cl_compares_92 rfl (lv_at hl 1 rfl) ?_
    refine lv_iload hx hb dc_Cl_compares_93 (lv_at hl 0 rfl) ?_
    refine jn_top (pc2 := 103) (rest := []) (fun y8 => y8 = (if r2 < r1 then (0 : Int32) else (1 : Int32))) (fun y8 ey8 => ?_) (fun k9 => ?_)
    rotate_left
    · refine lv_icmp_gt (tgt := 102) hx hb dc_Cl_compares_95 (by decide) (fun h95 => ?_) (fun h95 => ?_)
      · refine lv_iconst (v := 0) hx hb dc_Cl_compares_102 (by decide) ?_
        exact k9 (0 : Int32) (by rw [if_pos h95])
      · refine lv_iconst (v := 1) hx hb dc_Cl_compares_98 (by decide) ?_
        refine lv_goto (tgt := 103) hx hb dc_Cl_compares_99 (by decide) ?_
        exact k9 (1 : Int32) (by rw [if_neg h95])
    have hw := hw y8 ey8
    have hzy8 : y8 = 0 ∨ y8 = 1 := by
      rw [ey8]; repeat' split
      all_goals first | exact Or.inl rfl | exact Or.inr rfl
    have hP := hP.sub (ws' := [(h0, .inr (1, [.int size_, .ref first_, .ref kinds_, .ref predicates_, .ref places_, .ref sizes_, .ref masks_, .ref terms_, .int literals_])), (kinds_, .inl (k_kinds, n_kinds, .inl F_kinds)), (terms_, .inl (k_terms, n_terms, .inl F_terms)), (a1, .inl (k_a1, n_a1, .inl F_a1))]) [1, 0, 2, 3] rfl
    have hD := hD.sub (ws' := [(h0, .inr (1, [.int size_, .ref first_, .ref kinds_, .ref predicates_, .ref places_, .ref sizes_, .ref masks_, .ref terms_, .int literals_])), (kinds_, .inl (k_kinds, n_kinds, .inl F_kinds)), (terms_, .inl (k_terms, n_terms, .inl F_terms)), (a1, .inl (k_a1, n_a1, .inl F_a1))]) [1, 0, 2, 3] (by decide) rfl
    have hK := hK.sub (tys' := [(k_kinds, .int), (k_terms, .int), (k_a1, .int)]) [0, 1, 2] rfl
    refine W.widen (k := 0) (n := 0) (Nat.le_of_ble_eq_true rfl) (Nat.le_of_ble_eq_true rfl) ?_
    exact W.zret (v := y8) hx hb hr (nz_n hzy8) (fun t ht hW => ⟨⟨y8, (), rfl, hw, by rw [ht]; exact hP, va_K.moved hW.alike hK, hD⟩, hS.F ht⟩) hS.2.2 dc_Cl_compares_103
  have hw := hw.2 hc23_14
  rcases Decidable.em (y4 = 15) with hc23_15 | hc23_15
  · have hw := hw.1 hc23_15
    refine lv_tableIn (off := 81) (tgt := 104) hx hb dc_Cl_compares_23 (by rw [hc23_15]; decide) (by rw [hc23_15]; decide) (by rw [hc23_15]; decide) (by decide) ?_
    refine lv_iload_n hx hb dc_Cl_compares_104 rfl (lv_at hl 1 rfl) ?_
    refine lv_iload hx hb dc_Cl_compares_105 (lv_at hl 0 rfl) ?_
    refine jn_top (pc2 := 115) (rest := []) (fun y9 => y9 = (if r1 ≤ r2 then (0 : Int32) else (1 : Int32))) (fun y9 ey9 => ?_) (fun k9 => ?_)
    rotate_left
    · refine lv_icmp_le (tgt := 114) hx hb dc_Cl_compares_107 (by decide) (fun h107 => ?_) (fun h107 => ?_)
      · refine lv_iconst (v := 0) hx hb dc_Cl_compares_114 (by decide) ?_
        exact k9 (0 : Int32) (by rw [if_pos h107])
      · refine lv_iconst (v := 1) hx hb dc_Cl_compares_110 (by decide) ?_
        refine lv_goto (tgt := 115) hx hb dc_Cl_compares_111 (by decide) ?_
        exact k9 (1 : Int32) (by rw [if_neg h107])
    have hw := hw y9 ey9
    have hzy9 : y9 = 0 ∨ y9 = 1 := by
      rw [ey9]; repeat' split
      all_goals first | exact Or.inl rfl | exact Or.inr rfl
    have hP := hP.sub (ws' := [(h0, .inr (1, [.int size_, .ref first_, .ref kinds_, .ref predicates_, .ref places_, .ref sizes_, .ref masks_, .ref terms_, .int literals_])), (kinds_, .inl (k_kinds, n_kinds, .inl F_kinds)), (terms_, .inl (k_terms, n_terms, .inl F_terms)), (a1, .inl (k_a1, n_a1, .inl F_a1))]) [1, 0, 2, 3] rfl
    have hD := hD.sub (ws' := [(h0, .inr (1, [.int size_, .ref first_, .ref kinds_, .ref predicates_, .ref places_, .ref sizes_, .ref masks_, .ref terms_, .int literals_])), (kinds_, .inl (k_kinds, n_kinds, .inl F_kinds)), (terms_, .inl (k_terms, n_terms, .inl F_terms)), (a1, .inl (k_a1, n_a1, .inl F_a1))]) [1, 0, 2, 3] (by decide) rfl
    have hK := hK.sub (tys' := [(k_kinds, .int), (k_terms, .int), (k_a1, .int)]) [0, 1, 2] rfl
    refine W.widen (k := 0) (n := 0) (Nat.le_of_ble_eq_true rfl) (Nat.le_of_ble_eq_true rfl) ?_
    exact W.zret (v := y9) hx hb hr (nz_n hzy9) (fun t ht hW => ⟨⟨y9, (), rfl, hw, by rw [ht]; exact hP, va_K.moved hW.alike hK, hD⟩, hS.F ht⟩) hS.2.2 dc_Cl_compares_115
  have hw := hw.2 hc23_15
  have hc23_11 := sw_ne (k := 11) hc23_11 (by decide)
  have hc23_12 := sw_ne (k := 12) hc23_12 (by decide)
  have hc23_13 := sw_ne (k := 13) hc23_13 (by decide)
  have hc23_14 := sw_ne (k := 14) hc23_14 (by decide)
  have hc23_15 := sw_ne (k := 15) hc23_15 (by decide)
  refine lv_tableOut (tgt := 116) hx hb dc_Cl_compares_23 (by omega) (by decide) ?_
  refine lv_iload_n hx hb dc_Cl_compares_116 rfl (lv_at hl 1 rfl) ?_
  refine lv_iload hx hb dc_Cl_compares_117 (lv_at hl 0 rfl) ?_
  refine jn_top (pc2 := 127) (rest := []) (fun y10 => y10 = (if r1 < r2 then (0 : Int32) else (1 : Int32))) (fun y10 ey10 => ?_) (fun k9 => ?_)
  rotate_left
  · refine lv_icmp_lt (tgt := 126) hx hb dc_Cl_compares_119 (by decide) (fun h119 => ?_) (fun h119 => ?_)
    · refine lv_iconst (v := 0) hx hb dc_Cl_compares_126 (by decide) ?_
      exact k9 (0 : Int32) (by rw [if_pos h119])
    · refine lv_iconst (v := 1) hx hb dc_Cl_compares_122 (by decide) ?_
      refine lv_goto (tgt := 127) hx hb dc_Cl_compares_123 (by decide) ?_
      exact k9 (1 : Int32) (by rw [if_neg h119])
  have hw := hw y10 ey10
  have hzy10 : y10 = 0 ∨ y10 = 1 := by
    rw [ey10]; repeat' split
    all_goals first | exact Or.inl rfl | exact Or.inr rfl
  have hP := hP.sub (ws' := [(h0, .inr (1, [.int size_, .ref first_, .ref kinds_, .ref predicates_, .ref places_, .ref sizes_, .ref masks_, .ref terms_, .int literals_])), (kinds_, .inl (k_kinds, n_kinds, .inl F_kinds)), (terms_, .inl (k_terms, n_terms, .inl F_terms)), (a1, .inl (k_a1, n_a1, .inl F_a1))]) [1, 0, 2, 3] rfl
  have hD := hD.sub (ws' := [(h0, .inr (1, [.int size_, .ref first_, .ref kinds_, .ref predicates_, .ref places_, .ref sizes_, .ref masks_, .ref terms_, .int literals_])), (kinds_, .inl (k_kinds, n_kinds, .inl F_kinds)), (terms_, .inl (k_terms, n_terms, .inl F_terms)), (a1, .inl (k_a1, n_a1, .inl F_a1))]) [1, 0, 2, 3] (by decide) rfl
  have hK := hK.sub (tys' := [(k_kinds, .int), (k_terms, .int), (k_a1, .int)]) [0, 1, 2] rfl
  refine W.widen (k := 0) (n := 0) (Nat.le_of_ble_eq_true rfl) (Nat.le_of_ble_eq_true rfl) ?_
  exact W.zret (v := y10) hx hb hr (nz_n hzy10) (fun t ht hW => ⟨⟨y10, (), rfl, hw, by rw [ht]; exact hP, va_K.moved hW.alike hK, hD⟩, hS.F ht⟩) hS.2.2 dc_Cl_compares_127

def wp_met_Fa_clear (post : (Int32 × Int32 × Int32 × Int32 × (Nat → Int32) × (Nat → Int32) × (Nat → Int32) × (Nat → Int32) × (Nat → Int32) × (Nat → Int32)) → Prop) (F_amounts : Nat → Int32) (F_slots : Nat → Int32) (F_oldest : Nat → Int32) (F_newest : Nat → Int32) (F_known : Nat → Int32) (F_knownBefore : Nat → Int32) : Prop := wp_met_Ar_fill (fun (o1 : Nat → Int32) => (wp_met_Ar_fill (fun (o3 : Nat → Int32) => (wp_met_Ar_fill (fun (o5 : Nat → Int32) => (wp_met_Ar_fill (fun (o7 : Nat → Int32) => (wp_met_Ar_fill (fun (o9 : Nat → Int32) => (wp_met_Ar_fill (fun (o11 : Nat → Int32) => (post ((0 : Int32), (0 : Int32), (0 : Int32), (0 : Int32), o3, o1, o5, o7, o9, o11))) 64 ((-1) : Int32) F_knownBefore)) 64 ((-1) : Int32) F_known)) 64 ((-1) : Int32) F_newest)) 64 ((-1) : Int32) F_oldest)) 64 (0 : Int32) F_amounts)) 32768 (0 : Int32) F_slots
set_option maxHeartbeats 4000000 in
set_option maxRecDepth 100000 in
theorem met_Fa_clear (l : Launch) (dC : Nat → ClassId) (dI : Nat → Nat → Nat) (h0 : Nat) (keys_ : Nat) (stages_ : Nat) (amounts_ : Nat) (predicates_ : Nat) (next_ : Nat) (slots_ : Nat) (oldest_ : Nat) (newest_ : Nat) (known_ : Nat) (knownBefore_ : Nat) (size_ : Int32) (highest_ : Int32) (full_ : Int32) (visible_ : Int32) (F_amounts : Nat → Int32) (F_slots : Nat → Int32) (F_oldest : Nat → Int32) (F_newest : Nat → Int32) (F_known : Nat → Int32) (F_knownBefore : Nat → Int32) (k_amounts : ClassId) (k_slots : ClassId) (k_oldest : ClassId) (k_newest : ClassId) (k_known : ClassId) (k_knownBefore : ClassId) (sz : Nat) {post : (Int32 × Int32 × Int32 × Int32 × (Nat → Int32) × (Nat → Int32) × (Nat → Int32) × (Nat → Int32) × (Nat → Int32) × (Nat → Int32)) → Prop} (hw : wp_met_Fa_clear post F_amounts F_slots F_oldest F_newest F_known F_knownBefore) : Met l my_Fa_clear (Cond.code my_Fa_clear cd_Fa_clear 1 none :: tblG) ({ frames := 1, cells := 0, slots := 0, locals := 23 }) (va_Pc [.ref h0] (fun U => U.heap.size = sz ∧ va_P (dC, dI) vwCl [(h0, .inr (3, [.int size_, .int highest_, .int full_, .ref keys_, .ref stages_, .ref amounts_, .ref predicates_, .ref next_, .ref slots_, .ref oldest_, .ref newest_, .ref known_, .ref knownBefore_, .int visible_])), (amounts_, .inl (k_amounts, 64, .inl F_amounts)), (slots_, .inl (k_slots, 32768, .inl F_slots)), (oldest_, .inl (k_oldest, 64, .inl F_oldest)), (newest_, .inl (k_newest, 64, .inl F_newest)), (known_, .inl (k_known, 64, .inl F_known)), (knownBefore_, .inl (k_knownBefore, 64, .inl F_knownBefore))] U.heap ∧ va_K (dC, dI) vwCl [(k_amounts, .int), (k_slots, .int), (k_oldest, .int), (k_newest, .int), (k_known, .int), (k_knownBefore, .int)] U ∧ va_D (fun _ => True) [(h0, .inr (3, [.int size_, .int highest_, .int full_, .ref keys_, .ref stages_, .ref amounts_, .ref predicates_, .ref next_, .ref slots_, .ref oldest_, .ref newest_, .ref known_, .ref knownBefore_, .int visible_])), (amounts_, .inl (k_amounts, 64, .inl F_amounts)), (slots_, .inl (k_slots, 32768, .inl F_slots)), (oldest_, .inl (k_oldest, 64, .inl F_oldest)), (newest_, .inl (k_newest, 64, .inl F_newest)), (known_, .inl (k_known, 64, .inl F_known)), (knownBefore_, .inl (k_knownBefore, 64, .inl F_knownBefore))])) (va_Qv post (fun (u : Int32 × Int32 × Int32 × Int32 × (Nat → Int32) × (Nat → Int32) × (Nat → Int32) × (Nat → Int32) × (Nat → Int32) × (Nat → Int32)) (t : State) => match u with | (o0, o1, o2, o3, o4, o5, o6, o7, o8, o9) => va_P (dC, dI) vwCl [(h0, .inr (3, [.int o0, .int o1, .int o2, .ref keys_, .ref stages_, .ref amounts_, .ref predicates_, .ref next_, .ref slots_, .ref oldest_, .ref newest_, .ref known_, .ref knownBefore_, .int o3])), (amounts_, .inl (k_amounts, 64, .inl o4)), (slots_, .inl (k_slots, 32768, .inl o5)), (oldest_, .inl (k_oldest, 64, .inl o6)), (newest_, .inl (k_newest, 64, .inl o7)), (known_, .inl (k_known, 64, .inl o8)), (knownBefore_, .inl (k_knownBefore, 64, .inl o9))] t.heap ∧ va_K (dC, dI) vwCl [(k_amounts, .int), (k_slots, .int), (k_oldest, .int), (k_newest, .int), (k_known, .int), (k_knownBefore, .int)] t ∧ va_D (va_A [(h0, .inr (3, [.int size_, .int highest_, .int full_, .ref keys_, .ref stages_, .ref amounts_, .ref predicates_, .ref next_, .ref slots_, .ref oldest_, .ref newest_, .ref known_, .ref knownBefore_, .int visible_])), (amounts_, .inl (k_amounts, 64, .inl F_amounts)), (slots_, .inl (k_slots, 32768, .inl F_slots)), (oldest_, .inl (k_oldest, 64, .inl F_oldest)), (newest_, .inl (k_newest, 64, .inl F_newest)), (known_, .inl (k_known, 64, .inl F_known)), (knownBefore_, .inl (k_knownBefore, 64, .inl F_knownBefore))] sz) [(h0, .inr (3, [.int o0, .int o1, .int o2, .ref keys_, .ref stages_, .ref amounts_, .ref predicates_, .ref next_, .ref slots_, .ref oldest_, .ref newest_, .ref known_, .ref knownBefore_, .int o3])), (amounts_, .inl (k_amounts, 64, .inl o4)), (slots_, .inl (k_slots, 32768, .inl o5)), (oldest_, .inl (k_oldest, 64, .inl o6)), (newest_, .inl (k_newest, 64, .inl o7)), (known_, .inl (k_known, 64, .inl o8)), (knownBefore_, .inl (k_knownBefore, 64, .inl o9))]) (va_A [(h0, .inr (3, [.int size_, .int highest_, .int full_, .ref keys_, .ref stages_, .ref amounts_, .ref predicates_, .ref next_, .ref slots_, .ref oldest_, .ref newest_, .ref known_, .ref knownBefore_, .int visible_])), (amounts_, .inl (k_amounts, 64, .inl F_amounts)), (slots_, .inl (k_slots, 32768, .inl F_slots)), (oldest_, .inl (k_oldest, 64, .inl F_oldest)), (newest_, .inl (k_newest, 64, .inl F_newest)), (known_, .inl (k_known, 64, .inl F_known)), (knownBefore_, .inl (k_knownBefore, 64, .inl F_knownBefore))] sz)) 0 0 (va_A [(h0, .inr (3, [.int size_, .int highest_, .int full_, .ref keys_, .ref stages_, .ref amounts_, .ref predicates_, .ref next_, .ref slots_, .ref oldest_, .ref newest_, .ref known_, .ref knownBefore_, .int visible_])), (amounts_, .inl (k_amounts, 64, .inl F_amounts)), (slots_, .inl (k_slots, 32768, .inl F_slots)), (oldest_, .inl (k_oldest, 64, .inl F_oldest)), (newest_, .inl (k_newest, 64, .inl F_newest)), (known_, .inl (k_known, 64, .inl F_known)), (knownBefore_, .inl (k_knownBefore, 64, .inl F_knownBefore))] sz) := by
  refine Met.ofW (cc := cd_Fa_clear) (maxL := 1) (ret := none) (by decide) rfl ?_
  intro p e s m args below meth c s₁ B hml hv
  obtain ⟨rfl, hsz, hP, hK, hD0⟩ := hv
  have hx := B.exec
  have hb := B.bytes
  have hr := B.returns
  have hT : ∀ w ∈ tblG, w.before _ s = true := fun w h => atoms_spec (ws := (Cond.code my_Fa_clear cd_Fa_clear 1 none :: tblG)) B.pre w (List.mem_cons_of_mem _ h)
  have hown : s.vm.findClass "StrataBase$Facts" = some m.cls := findClass_of_methodNamed B.named
  have hlocks := B.notSynchronized
  subst hsz
  have hD := hD0.self (sz := s.heap.size)
  generalize hAe : va_A [(h0, .inr (3, [.int size_, .int highest_, .int full_, .ref keys_, .ref stages_, .ref amounts_, .ref predicates_, .ref next_, .ref slots_, .ref oldest_, .ref newest_, .ref known_, .ref knownBefore_, .int visible_])), (amounts_, .inl (k_amounts, 64, .inl F_amounts)), (slots_, .inl (k_slots, 32768, .inl F_slots)), (oldest_, .inl (k_oldest, 64, .inl F_oldest)), (newest_, .inl (k_newest, 64, .inl F_newest)), (known_, .inl (k_known, 64, .inl F_known)), (knownBefore_, .inl (k_knownBefore, 64, .inl F_knownBefore))] s.heap.size = A at hD ⊢
  have hA : ∀ q : Nat, s.heap.size ≤ q → A q := fun q h => by rw [← hAe]; exact Or.inr h
  have hS : va_S A s.heap s.heap [] := va_S.rf
  have hl := lv_entry ([.ref h0]) (n := 1) (Nat.le_of_ble_eq_true rfl)
  rw [lg_entry_eq]
  generalize (lg_sl ([.ref h0]) ++ List.replicate (1 - (lg_sl ([.ref h0])).length) Slot.unset).toArray = ls at hl ⊢
  have hl : lv_has ls 1 [(0, .ref h0)] := hl
  unfold wp_met_Fa_clear at hw
  refine lv_aload_n hx hb dc_Fa_clear_0 rfl (lv_at hl 0 rfl) ?_
  refine lv_iconst (v := 0) hx hb dc_Fa_clear_1 (by decide) ?_
  refine va_put (D := (dC, dI)) (ci := 3) (v := .int 0) (ty := .int) (C := "StrataBase$Facts") (T := tb_Fa) (N := 14) hx hb hT in_Fa ty_Fa tk_Fa nm_Fa hown hK hP hD hS 0 rfl rfl 0 (by decide) (hT _ wd_289) (fun _ h9 => h9) rfl (by decide +kernel) rfl rfl (Nat.le_of_ble_eq_true rfl) dc_Fa_clear_2 (fun H locs hP hD hS => ?_)
  have hP : va_P (dC, dI) vwCl [(h0, .inr (3, [.int 0, .int highest_, .int full_, .ref keys_, .ref stages_, .ref amounts_, .ref predicates_, .ref next_, .ref slots_, .ref oldest_, .ref newest_, .ref known_, .ref knownBefore_, .int visible_])), (amounts_, .inl (k_amounts, 64, .inl F_amounts)), (slots_, .inl (k_slots, 32768, .inl F_slots)), (oldest_, .inl (k_oldest, 64, .inl F_oldest)), (newest_, .inl (k_newest, 64, .inl F_newest)), (known_, .inl (k_known, 64, .inl F_known)), (knownBefore_, .inl (k_knownBefore, 64, .inl F_knownBefore))] H := hP
  have hD : va_D A [(h0, .inr (3, [.int 0, .int highest_, .int full_, .ref keys_, .ref stages_, .ref amounts_, .ref predicates_, .ref next_, .ref slots_, .ref oldest_, .ref newest_, .ref known_, .ref knownBefore_, .int visible_])), (amounts_, .inl (k_amounts, 64, .inl F_amounts)), (slots_, .inl (k_slots, 32768, .inl F_slots)), (oldest_, .inl (k_oldest, 64, .inl F_oldest)), (newest_, .inl (k_newest, 64, .inl F_newest)), (known_, .inl (k_known, 64, .inl F_known)), (knownBefore_, .inl (k_knownBefore, 64, .inl F_knownBefore))] := hD
  refine lv_aload_n hx hb dc_Fa_clear_5 rfl (lv_at hl 0 rfl) ?_
  refine lv_iconst (v := 0) hx hb dc_Fa_clear_6 (by decide) ?_
  refine va_put (D := (dC, dI)) (ci := 3) (v := .int 0) (ty := .int) (C := "StrataBase$Facts") (T := tb_Fa) (N := 14) hx hb hT in_Fa ty_Fa tk_Fa nm_Fa hown hK hP hD hS 0 rfl rfl 1 (by decide) (hT _ wd_292) (fun _ h9 => h9) rfl (by decide +kernel) rfl rfl (Nat.le_of_ble_eq_true rfl) dc_Fa_clear_7 (fun H locs hP hD hS => ?_)
  have hP : va_P (dC, dI) vwCl [(h0, .inr (3, [.int 0, .int 0, .int full_, .ref keys_, .ref stages_, .ref amounts_, .ref predicates_, .ref next_, .ref slots_, .ref oldest_, .ref newest_, .ref known_, .ref knownBefore_, .int visible_])), (amounts_, .inl (k_amounts, 64, .inl F_amounts)), (slots_, .inl (k_slots, 32768, .inl F_slots)), (oldest_, .inl (k_oldest, 64, .inl F_oldest)), (newest_, .inl (k_newest, 64, .inl F_newest)), (known_, .inl (k_known, 64, .inl F_known)), (knownBefore_, .inl (k_knownBefore, 64, .inl F_knownBefore))] H := hP
  have hD : va_D A [(h0, .inr (3, [.int 0, .int 0, .int full_, .ref keys_, .ref stages_, .ref amounts_, .ref predicates_, .ref next_, .ref slots_, .ref oldest_, .ref newest_, .ref known_, .ref knownBefore_, .int visible_])), (amounts_, .inl (k_amounts, 64, .inl F_amounts)), (slots_, .inl (k_slots, 32768, .inl F_slots)), (oldest_, .inl (k_oldest, 64, .inl F_oldest)), (newest_, .inl (k_newest, 64, .inl F_newest)), (known_, .inl (k_known, 64, .inl F_known)), (knownBefore_, .inl (k_knownBefore, 64, .inl F_knownBefore))] := hD
  refine lv_aload_n hx hb dc_Fa_clear_10 rfl (lv_at hl 0 rfl) ?_
  refine lv_iconst (v := 0) hx hb dc_Fa_clear_11 (by decide) ?_
  refine va_put (D := (dC, dI)) (ci := 3) (v := .int 0) (ty := .boolean) (C := "StrataBase$Facts") (T := tb_Fa) (N := 14) hx hb hT in_Fa ty_Fa tk_Fa nm_Fa hown hK hP hD hS 0 rfl rfl 2 (by decide) (hT _ wd_294) (fun _ h9 => h9) rfl (by decide +kernel) (by decide) (by decide) (Nat.le_of_ble_eq_true rfl) dc_Fa_clear_12 (fun H locs hP hD hS => ?_)
  have hP : va_P (dC, dI) vwCl [(h0, .inr (3, [.int 0, .int 0, .int 0, .ref keys_, .ref stages_, .ref amounts_, .ref predicates_, .ref next_, .ref slots_, .ref oldest_, .ref newest_, .ref known_, .ref knownBefore_, .int visible_])), (amounts_, .inl (k_amounts, 64, .inl F_amounts)), (slots_, .inl (k_slots, 32768, .inl F_slots)), (oldest_, .inl (k_oldest, 64, .inl F_oldest)), (newest_, .inl (k_newest, 64, .inl F_newest)), (known_, .inl (k_known, 64, .inl F_known)), (knownBefore_, .inl (k_knownBefore, 64, .inl F_knownBefore))] H := hP
  have hD : va_D A [(h0, .inr (3, [.int 0, .int 0, .int 0, .ref keys_, .ref stages_, .ref amounts_, .ref predicates_, .ref next_, .ref slots_, .ref oldest_, .ref newest_, .ref known_, .ref knownBefore_, .int visible_])), (amounts_, .inl (k_amounts, 64, .inl F_amounts)), (slots_, .inl (k_slots, 32768, .inl F_slots)), (oldest_, .inl (k_oldest, 64, .inl F_oldest)), (newest_, .inl (k_newest, 64, .inl F_newest)), (known_, .inl (k_known, 64, .inl F_known)), (knownBefore_, .inl (k_knownBefore, 64, .inl F_knownBefore))] := hD
  refine lv_aload_n hx hb dc_Fa_clear_15 rfl (lv_at hl 0 rfl) ?_
  refine lv_iconst (v := 0) hx hb dc_Fa_clear_16 (by decide) ?_
  refine va_put (D := (dC, dI)) (ci := 3) (v := .int 0) (ty := .int) (C := "StrataBase$Facts") (T := tb_Fa) (N := 14) hx hb hT in_Fa ty_Fa tk_Fa nm_Fa hown hK hP hD hS 0 rfl rfl 13 (by decide) (hT _ wd_310) (fun _ h9 => h9) rfl (by decide +kernel) rfl rfl (Nat.le_of_ble_eq_true rfl) dc_Fa_clear_17 (fun H locs hP hD hS => ?_)
  have hP : va_P (dC, dI) vwCl [(h0, .inr (3, [.int 0, .int 0, .int 0, .ref keys_, .ref stages_, .ref amounts_, .ref predicates_, .ref next_, .ref slots_, .ref oldest_, .ref newest_, .ref known_, .ref knownBefore_, .int 0])), (amounts_, .inl (k_amounts, 64, .inl F_amounts)), (slots_, .inl (k_slots, 32768, .inl F_slots)), (oldest_, .inl (k_oldest, 64, .inl F_oldest)), (newest_, .inl (k_newest, 64, .inl F_newest)), (known_, .inl (k_known, 64, .inl F_known)), (knownBefore_, .inl (k_knownBefore, 64, .inl F_knownBefore))] H := hP
  have hD : va_D A [(h0, .inr (3, [.int 0, .int 0, .int 0, .ref keys_, .ref stages_, .ref amounts_, .ref predicates_, .ref next_, .ref slots_, .ref oldest_, .ref newest_, .ref known_, .ref knownBefore_, .int 0])), (amounts_, .inl (k_amounts, 64, .inl F_amounts)), (slots_, .inl (k_slots, 32768, .inl F_slots)), (oldest_, .inl (k_oldest, 64, .inl F_oldest)), (newest_, .inl (k_newest, 64, .inl F_newest)), (known_, .inl (k_known, 64, .inl F_known)), (knownBefore_, .inl (k_knownBefore, 64, .inl F_knownBefore))] := hD
  refine lv_aload_n hx hb dc_Fa_clear_20 rfl (lv_at hl 0 rfl) ?_
  refine va_get (D := (dC, dI)) (ci := 3) (v := .ref slots_) (C := "StrataBase$Facts") (T := tb_Fa) (N := 14) hx hb hT in_Fa hown hK hP 0 rfl rfl 8 (by decide) (hT _ wd_305) (fun _ h9 => h9) rfl dc_Fa_clear_21 ?_
  refine lv_iconst (v := 0) hx hb dc_Fa_clear_24 (by decide) ?_
  have hPc := hP.sub (ws' := [(slots_, .inl (k_slots, 32768, .inl F_slots))]) [2] rfl
  have hDc := hD.sub (ws' := [(slots_, .inl (k_slots, 32768, .inl F_slots))]) [2] (by decide) rfl
  have hKc := hK.sub (tys' := [(k_slots, .int)]) [1] rfl
  have hFc := va_free (wc := [(slots_, .inl (k_slots, 32768, .inl F_slots))]) hD hS hA [2] rfl
  refine va_callv (va_runS (As := [.ref slots_, .int 0]) (rest := []) ⟨hx, hb, hml, hown, hT⟩ (met_Ar_fill l dC dI 32768 slots_ (0 : Int32) F_slots k_slots H.size hw) (va_cwS 2 hT (gd_S wd_1024 wd_597 wd_19 wd_598) rfl rfl rfl (by decide +kernel) ⟨Nat.le_of_ble_eq_true rfl, Nat.le_of_ble_eq_true rfl⟩) ⟨fun a U g mk q => by obtain ⟨q0, q1, qP, qK, qD⟩ := q; exact ⟨q0, q1, qP, va_K.moved (u := U) (U := U.calling g mk a) (Vm.Alike.refl U.vm) qK, qD⟩, fun U hU hW => ⟨rfl, by rw [hU], by rw [hU]; exact hPc, va_K.moved hW.alike hKc, hDc.weaken (fun _ _ _ _ => trivial)⟩⟩ rfl rfl hl.1 rfl (lv_room (Nat.le_of_ble_eq_true rfl)) dc_Fa_clear_25 ⟨(Nat.le_of_ble_eq_true rfl), (Nat.le_of_ble_eq_true rfl)⟩) hS (fun q _ h => hFc q h) hFc (fun o1 t H1 locs ht hvm hw hB hz1 hk1 hS => ?_)
  obtain ⟨hP1, hK1, hD1⟩ := hB
  rw [ht] at hP1
  have hK1 := va_K.moved hvm.symm hK1
  obtain ⟨hP, hD⟩ := va_join (wr := [(h0, .inr (3, [.int 0, .int 0, .int 0, .ref keys_, .ref stages_, .ref amounts_, .ref predicates_, .ref next_, .ref slots_, .ref oldest_, .ref newest_, .ref known_, .ref knownBefore_, .int 0])), (amounts_, .inl (k_amounts, 64, .inl F_amounts)), (oldest_, .inl (k_oldest, 64, .inl F_oldest)), (newest_, .inl (k_newest, 64, .inl F_newest)), (known_, .inl (k_known, 64, .inl F_known)), (knownBefore_, .inl (k_knownBefore, 64, .inl F_knownBefore))]) (w1 := [(slots_, .inl (k_slots, 32768, .inl o1))]) hP hD [2] [0, 1, 3, 4, 5, 6] rfl rfl (by decide) (by decide) hk1 hFc hP1 hD1
  have hK := (hK.sub (tys' := [(k_amounts, .int), (k_oldest, .int), (k_newest, .int), (k_known, .int), (k_knownBefore, .int)]) [0, 2, 3, 4, 5] rfl).app hK1
  generalize H1 = H at hP hS ⊢
  have hP : va_P (dC, dI) vwCl [(h0, .inr (3, [.int 0, .int 0, .int 0, .ref keys_, .ref stages_, .ref amounts_, .ref predicates_, .ref next_, .ref slots_, .ref oldest_, .ref newest_, .ref known_, .ref knownBefore_, .int 0])), (amounts_, .inl (k_amounts, 64, .inl F_amounts)), (oldest_, .inl (k_oldest, 64, .inl F_oldest)), (newest_, .inl (k_newest, 64, .inl F_newest)), (known_, .inl (k_known, 64, .inl F_known)), (knownBefore_, .inl (k_knownBefore, 64, .inl F_knownBefore)), (slots_, .inl (k_slots, 32768, .inl o1))] H := hP
  have hD : va_D A [(h0, .inr (3, [.int 0, .int 0, .int 0, .ref keys_, .ref stages_, .ref amounts_, .ref predicates_, .ref next_, .ref slots_, .ref oldest_, .ref newest_, .ref known_, .ref knownBefore_, .int 0])), (amounts_, .inl (k_amounts, 64, .inl F_amounts)), (oldest_, .inl (k_oldest, 64, .inl F_oldest)), (newest_, .inl (k_newest, 64, .inl F_newest)), (known_, .inl (k_known, 64, .inl F_known)), (knownBefore_, .inl (k_knownBefore, 64, .inl F_knownBefore)), (slots_, .inl (k_slots, 32768, .inl o1))] := hD
  have hK : va_K (dC, dI) vwCl [(k_amounts, .int), (k_oldest, .int), (k_newest, .int), (k_known, .int), (k_knownBefore, .int), (k_slots, .int)] s := hK
  refine lv_aload_n hx hb dc_Fa_clear_28 rfl (lv_at hl 0 rfl) ?_
  refine va_get (D := (dC, dI)) (ci := 3) (v := .ref amounts_) (C := "StrataBase$Facts") (T := tb_Fa) (N := 14) hx hb hT in_Fa hown hK hP 0 rfl rfl 5 (by decide) (hT _ wd_301) (fun _ h9 => h9) rfl dc_Fa_clear_29 ?_
  refine lv_iconst (v := 0) hx hb dc_Fa_clear_32 (by decide) ?_
  have hPc := hP.sub (ws' := [(amounts_, .inl (k_amounts, 64, .inl F_amounts))]) [1] rfl
  have hDc := hD.sub (ws' := [(amounts_, .inl (k_amounts, 64, .inl F_amounts))]) [1] (by decide) rfl
  have hKc := hK.sub (tys' := [(k_amounts, .int)]) [0] rfl
  have hFc := va_free (wc := [(amounts_, .inl (k_amounts, 64, .inl F_amounts))]) hD hS hA [1] rfl
  refine va_callv (va_runS (As := [.ref amounts_, .int 0]) (rest := []) ⟨hx, hb, hml, hown, hT⟩ (met_Ar_fill l dC dI 64 amounts_ (0 : Int32) F_amounts k_amounts H.size hw) (va_cwS 2 hT (gd_S wd_1024 wd_597 wd_19 wd_598) rfl rfl rfl (by decide +kernel) ⟨Nat.le_of_ble_eq_true rfl, Nat.le_of_ble_eq_true rfl⟩) ⟨fun a U g mk q => by obtain ⟨q0, q1, qP, qK, qD⟩ := q; exact ⟨q0, q1, qP, va_K.moved (u := U) (U := U.calling g mk a) (Vm.Alike.refl U.vm) qK, qD⟩, fun U hU hW => ⟨rfl, by rw [hU], by rw [hU]; exact hPc, va_K.moved hW.alike hKc, hDc.weaken (fun _ _ _ _ => trivial)⟩⟩ rfl rfl hl.1 rfl (lv_room (Nat.le_of_ble_eq_true rfl)) dc_Fa_clear_33 ⟨(Nat.le_of_ble_eq_true rfl), (Nat.le_of_ble_eq_true rfl)⟩) hS (fun q _ h => hFc q h) hFc (fun o3 t H1 locs ht hvm hw hB hz1 hk1 hS => ?_)
  obtain ⟨hP1, hK1, hD1⟩ := hB
  rw [ht] at hP1
  have hK1 := va_K.moved hvm.symm hK1
  obtain ⟨hP, hD⟩ := va_join (wr := [(h0, .inr (3, [.int 0, .int 0, .int 0, .ref keys_, .ref stages_, .ref amounts_, .ref predicates_, .ref next_, .ref slots_, .ref oldest_, .ref newest_, .ref known_, .ref knownBefore_, .int 0])), (oldest_, .inl (k_oldest, 64, .inl F_oldest)), (newest_, .inl (k_newest, 64, .inl F_newest)), (known_, .inl (k_known, 64, .inl F_known)), (knownBefore_, .inl (k_knownBefore, 64, .inl F_knownBefore)), (slots_, .inl (k_slots, 32768, .inl o1))]) (w1 := [(amounts_, .inl (k_amounts, 64, .inl o3))]) hP hD [1] [0, 2, 3, 4, 5, 6] rfl rfl (by decide) (by decide) hk1 hFc hP1 hD1
  have hK := (hK.sub (tys' := [(k_oldest, .int), (k_newest, .int), (k_known, .int), (k_knownBefore, .int), (k_slots, .int)]) [1, 2, 3, 4, 5] rfl).app hK1
  generalize H1 = H at hP hS ⊢
  have hP : va_P (dC, dI) vwCl [(h0, .inr (3, [.int 0, .int 0, .int 0, .ref keys_, .ref stages_, .ref amounts_, .ref predicates_, .ref next_, .ref slots_, .ref oldest_, .ref newest_, .ref known_, .ref knownBefore_, .int 0])), (oldest_, .inl (k_oldest, 64, .inl F_oldest)), (newest_, .inl (k_newest, 64, .inl F_newest)), (known_, .inl (k_known, 64, .inl F_known)), (knownBefore_, .inl (k_knownBefore, 64, .inl F_knownBefore)), (slots_, .inl (k_slots, 32768, .inl o1)), (amounts_, .inl (k_amounts, 64, .inl o3))] H := hP
  have hD : va_D A [(h0, .inr (3, [.int 0, .int 0, .int 0, .ref keys_, .ref stages_, .ref amounts_, .ref predicates_, .ref next_, .ref slots_, .ref oldest_, .ref newest_, .ref known_, .ref knownBefore_, .int 0])), (oldest_, .inl (k_oldest, 64, .inl F_oldest)), (newest_, .inl (k_newest, 64, .inl F_newest)), (known_, .inl (k_known, 64, .inl F_known)), (knownBefore_, .inl (k_knownBefore, 64, .inl F_knownBefore)), (slots_, .inl (k_slots, 32768, .inl o1)), (amounts_, .inl (k_amounts, 64, .inl o3))] := hD
  have hK : va_K (dC, dI) vwCl [(k_oldest, .int), (k_newest, .int), (k_known, .int), (k_knownBefore, .int), (k_slots, .int), (k_amounts, .int)] s := hK
  refine lv_aload_n hx hb dc_Fa_clear_36 rfl (lv_at hl 0 rfl) ?_
  refine va_get (D := (dC, dI)) (ci := 3) (v := .ref oldest_) (C := "StrataBase$Facts") (T := tb_Fa) (N := 14) hx hb hT in_Fa hown hK hP 0 rfl rfl 9 (by decide) (hT _ wd_306) (fun _ h9 => h9) rfl dc_Fa_clear_37 ?_
  refine lv_iconst (v := (-1)) hx hb dc_Fa_clear_40 (by decide) ?_
  have hPc := hP.sub (ws' := [(oldest_, .inl (k_oldest, 64, .inl F_oldest))]) [1] rfl
  have hDc := hD.sub (ws' := [(oldest_, .inl (k_oldest, 64, .inl F_oldest))]) [1] (by decide) rfl
  have hKc := hK.sub (tys' := [(k_oldest, .int)]) [0] rfl
  have hFc := va_free (wc := [(oldest_, .inl (k_oldest, 64, .inl F_oldest))]) hD hS hA [1] rfl
  refine va_callv (va_runS (As := [.ref oldest_, .int (-1)]) (rest := []) ⟨hx, hb, hml, hown, hT⟩ (met_Ar_fill l dC dI 64 oldest_ ((-1) : Int32) F_oldest k_oldest H.size hw) (va_cwS 2 hT (gd_S wd_1024 wd_597 wd_19 wd_598) rfl rfl rfl (by decide +kernel) ⟨Nat.le_of_ble_eq_true rfl, Nat.le_of_ble_eq_true rfl⟩) ⟨fun a U g mk q => by obtain ⟨q0, q1, qP, qK, qD⟩ := q; exact ⟨q0, q1, qP, va_K.moved (u := U) (U := U.calling g mk a) (Vm.Alike.refl U.vm) qK, qD⟩, fun U hU hW => ⟨rfl, by rw [hU], by rw [hU]; exact hPc, va_K.moved hW.alike hKc, hDc.weaken (fun _ _ _ _ => trivial)⟩⟩ rfl rfl hl.1 rfl (lv_room (Nat.le_of_ble_eq_true rfl)) dc_Fa_clear_41 ⟨(Nat.le_of_ble_eq_true rfl), (Nat.le_of_ble_eq_true rfl)⟩) hS (fun q _ h => hFc q h) hFc (fun o5 t H1 locs ht hvm hw hB hz1 hk1 hS => ?_)
  obtain ⟨hP1, hK1, hD1⟩ := hB
  rw [ht] at hP1
  have hK1 := va_K.moved hvm.symm hK1
  obtain ⟨hP, hD⟩ := va_join (wr := [(h0, .inr (3, [.int 0, .int 0, .int 0, .ref keys_, .ref stages_, .ref amounts_, .ref predicates_, .ref next_, .ref slots_, .ref oldest_, .ref newest_, .ref known_, .ref knownBefore_, .int 0])), (newest_, .inl (k_newest, 64, .inl F_newest)), (known_, .inl (k_known, 64, .inl F_known)), (knownBefore_, .inl (k_knownBefore, 64, .inl F_knownBefore)), (slots_, .inl (k_slots, 32768, .inl o1)), (amounts_, .inl (k_amounts, 64, .inl o3))]) (w1 := [(oldest_, .inl (k_oldest, 64, .inl o5))]) hP hD [1] [0, 2, 3, 4, 5, 6] rfl rfl (by decide) (by decide) hk1 hFc hP1 hD1
  have hK := (hK.sub (tys' := [(k_newest, .int), (k_known, .int), (k_knownBefore, .int), (k_slots, .int), (k_amounts, .int)]) [1, 2, 3, 4, 5] rfl).app hK1
  generalize H1 = H at hP hS ⊢
  have hP : va_P (dC, dI) vwCl [(h0, .inr (3, [.int 0, .int 0, .int 0, .ref keys_, .ref stages_, .ref amounts_, .ref predicates_, .ref next_, .ref slots_, .ref oldest_, .ref newest_, .ref known_, .ref knownBefore_, .int 0])), (newest_, .inl (k_newest, 64, .inl F_newest)), (known_, .inl (k_known, 64, .inl F_known)), (knownBefore_, .inl (k_knownBefore, 64, .inl F_knownBefore)), (slots_, .inl (k_slots, 32768, .inl o1)), (amounts_, .inl (k_amounts, 64, .inl o3)), (oldest_, .inl (k_oldest, 64, .inl o5))] H := hP
  have hD : va_D A [(h0, .inr (3, [.int 0, .int 0, .int 0, .ref keys_, .ref stages_, .ref amounts_, .ref predicates_, .ref next_, .ref slots_, .ref oldest_, .ref newest_, .ref known_, .ref knownBefore_, .int 0])), (newest_, .inl (k_newest, 64, .inl F_newest)), (known_, .inl (k_known, 64, .inl F_known)), (knownBefore_, .inl (k_knownBefore, 64, .inl F_knownBefore)), (slots_, .inl (k_slots, 32768, .inl o1)), (amounts_, .inl (k_amounts, 64, .inl o3)), (oldest_, .inl (k_oldest, 64, .inl o5))] := hD
  have hK : va_K (dC, dI) vwCl [(k_newest, .int), (k_known, .int), (k_knownBefore, .int), (k_slots, .int), (k_amounts, .int), (k_oldest, .int)] s := hK
  refine lv_aload_n hx hb dc_Fa_clear_44 rfl (lv_at hl 0 rfl) ?_
  refine va_get (D := (dC, dI)) (ci := 3) (v := .ref newest_) (C := "StrataBase$Facts") (T := tb_Fa) (N := 14) hx hb hT in_Fa hown hK hP 0 rfl rfl 10 (by decide) (hT _ wd_307) (fun _ h9 => h9) rfl dc_Fa_clear_45 ?_
  refine lv_iconst (v := (-1)) hx hb dc_Fa_clear_48 (by decide) ?_
  have hPc := hP.sub (ws' := [(newest_, .inl (k_newest, 64, .inl F_newest))]) [1] rfl
  have hDc := hD.sub (ws' := [(newest_, .inl (k_newest, 64, .inl F_newest))]) [1] (by decide) rfl
  have hKc := hK.sub (tys' := [(k_newest, .int)]) [0] rfl
  have hFc := va_free (wc := [(newest_, .inl (k_newest, 64, .inl F_newest))]) hD hS hA [1] rfl
  refine va_callv (va_runS (As := [.ref newest_, .int (-1)]) (rest := []) ⟨hx, hb, hml, hown, hT⟩ (met_Ar_fill l dC dI 64 newest_ ((-1) : Int32) F_newest k_newest H.size hw) (va_cwS 2 hT (gd_S wd_1024 wd_597 wd_19 wd_598) rfl rfl rfl (by decide +kernel) ⟨Nat.le_of_ble_eq_true rfl, Nat.le_of_ble_eq_true rfl⟩) ⟨fun a U g mk q => by obtain ⟨q0, q1, qP, qK, qD⟩ := q; exact ⟨q0, q1, qP, va_K.moved (u := U) (U := U.calling g mk a) (Vm.Alike.refl U.vm) qK, qD⟩, fun U hU hW => ⟨rfl, by rw [hU], by rw [hU]; exact hPc, va_K.moved hW.alike hKc, hDc.weaken (fun _ _ _ _ => trivial)⟩⟩ rfl rfl hl.1 rfl (lv_room (Nat.le_of_ble_eq_true rfl)) dc_Fa_clear_49 ⟨(Nat.le_of_ble_eq_true rfl), (Nat.le_of_ble_eq_true rfl)⟩) hS (fun q _ h => hFc q h) hFc (fun o7 t H1 locs ht hvm hw hB hz1 hk1 hS => ?_)
  obtain ⟨hP1, hK1, hD1⟩ := hB
  rw [ht] at hP1
  have hK1 := va_K.moved hvm.symm hK1
  obtain ⟨hP, hD⟩ := va_join (wr := [(h0, .inr (3, [.int 0, .int 0, .int 0, .ref keys_, .ref stages_, .ref amounts_, .ref predicates_, .ref next_, .ref slots_, .ref oldest_, .ref newest_, .ref known_, .ref knownBefore_, .int 0])), (known_, .inl (k_known, 64, .inl F_known)), (knownBefore_, .inl (k_knownBefore, 64, .inl F_knownBefore)), (slots_, .inl (k_slots, 32768, .inl o1)), (amounts_, .inl (k_amounts, 64, .inl o3)), (oldest_, .inl (k_oldest, 64, .inl o5))]) (w1 := [(newest_, .inl (k_newest, 64, .inl o7))]) hP hD [1] [0, 2, 3, 4, 5, 6] rfl rfl (by decide) (by decide) hk1 hFc hP1 hD1
  have hK := (hK.sub (tys' := [(k_known, .int), (k_knownBefore, .int), (k_slots, .int), (k_amounts, .int), (k_oldest, .int)]) [1, 2, 3, 4, 5] rfl).app hK1
  generalize H1 = H at hP hS ⊢
  have hP : va_P (dC, dI) vwCl [(h0, .inr (3, [.int 0, .int 0, .int 0, .ref keys_, .ref stages_, .ref amounts_, .ref predicates_, .ref next_, .ref slots_, .ref oldest_, .ref newest_, .ref known_, .ref knownBefore_, .int 0])), (known_, .inl (k_known, 64, .inl F_known)), (knownBefore_, .inl (k_knownBefore, 64, .inl F_knownBefore)), (slots_, .inl (k_slots, 32768, .inl o1)), (amounts_, .inl (k_amounts, 64, .inl o3)), (oldest_, .inl (k_oldest, 64, .inl o5)), (newest_, .inl (k_newest, 64, .inl o7))] H := hP
  have hD : va_D A [(h0, .inr (3, [.int 0, .int 0, .int 0, .ref keys_, .ref stages_, .ref amounts_, .ref predicates_, .ref next_, .ref slots_, .ref oldest_, .ref newest_, .ref known_, .ref knownBefore_, .int 0])), (known_, .inl (k_known, 64, .inl F_known)), (knownBefore_, .inl (k_knownBefore, 64, .inl F_knownBefore)), (slots_, .inl (k_slots, 32768, .inl o1)), (amounts_, .inl (k_amounts, 64, .inl o3)), (oldest_, .inl (k_oldest, 64, .inl o5)), (newest_, .inl (k_newest, 64, .inl o7))] := hD
  have hK : va_K (dC, dI) vwCl [(k_known, .int), (k_knownBefore, .int), (k_slots, .int), (k_amounts, .int), (k_oldest, .int), (k_newest, .int)] s := hK
  refine lv_aload_n hx hb dc_Fa_clear_52 rfl (lv_at hl 0 rfl) ?_
  refine va_get (D := (dC, dI)) (ci := 3) (v := .ref known_) (C := "StrataBase$Facts") (T := tb_Fa) (N := 14) hx hb hT in_Fa hown hK hP 0 rfl rfl 11 (by decide) (hT _ wd_308) (fun _ h9 => h9) rfl dc_Fa_clear_53 ?_
  refine lv_iconst (v := (-1)) hx hb dc_Fa_clear_56 (by decide) ?_
  have hPc := hP.sub (ws' := [(known_, .inl (k_known, 64, .inl F_known))]) [1] rfl
  have hDc := hD.sub (ws' := [(known_, .inl (k_known, 64, .inl F_known))]) [1] (by decide) rfl
  have hKc := hK.sub (tys' := [(k_known, .int)]) [0] rfl
  have hFc := va_free (wc := [(known_, .inl (k_known, 64, .inl F_known))]) hD hS hA [1] rfl
  refine va_callv (va_runS (As := [.ref known_, .int (-1)]) (rest := []) ⟨hx, hb, hml, hown, hT⟩ (met_Ar_fill l dC dI 64 known_ ((-1) : Int32) F_known k_known H.size hw) (va_cwS 2 hT (gd_S wd_1024 wd_597 wd_19 wd_598) rfl rfl rfl (by decide +kernel) ⟨Nat.le_of_ble_eq_true rfl, Nat.le_of_ble_eq_true rfl⟩) ⟨fun a U g mk q => by obtain ⟨q0, q1, qP, qK, qD⟩ := q; exact ⟨q0, q1, qP, va_K.moved (u := U) (U := U.calling g mk a) (Vm.Alike.refl U.vm) qK, qD⟩, fun U hU hW => ⟨rfl, by rw [hU], by rw [hU]; exact hPc, va_K.moved hW.alike hKc, hDc.weaken (fun _ _ _ _ => trivial)⟩⟩ rfl rfl hl.1 rfl (lv_room (Nat.le_of_ble_eq_true rfl)) dc_Fa_clear_57 ⟨(Nat.le_of_ble_eq_true rfl), (Nat.le_of_ble_eq_true rfl)⟩) hS (fun q _ h => hFc q h) hFc (fun o9 t H1 locs ht hvm hw hB hz1 hk1 hS => ?_)
  obtain ⟨hP1, hK1, hD1⟩ := hB
  rw [ht] at hP1
  have hK1 := va_K.moved hvm.symm hK1
  obtain ⟨hP, hD⟩ := va_join (wr := [(h0, .inr (3, [.int 0, .int 0, .int 0, .ref keys_, .ref stages_, .ref amounts_, .ref predicates_, .ref next_, .ref slots_, .ref oldest_, .ref newest_, .ref known_, .ref knownBefore_, .int 0])), (knownBefore_, .inl (k_knownBefore, 64, .inl F_knownBefore)), (slots_, .inl (k_slots, 32768, .inl o1)), (amounts_, .inl (k_amounts, 64, .inl o3)), (oldest_, .inl (k_oldest, 64, .inl o5)), (newest_, .inl (k_newest, 64, .inl o7))]) (w1 := [(known_, .inl (k_known, 64, .inl o9))]) hP hD [1] [0, 2, 3, 4, 5, 6] rfl rfl (by decide) (by decide) hk1 hFc hP1 hD1
  have hK := (hK.sub (tys' := [(k_knownBefore, .int), (k_slots, .int), (k_amounts, .int), (k_oldest, .int), (k_newest, .int)]) [1, 2, 3, 4, 5] rfl).app hK1
  generalize H1 = H at hP hS ⊢
  have hP : va_P (dC, dI) vwCl [(h0, .inr (3, [.int 0, .int 0, .int 0, .ref keys_, .ref stages_, .ref amounts_, .ref predicates_, .ref next_, .ref slots_, .ref oldest_, .ref newest_, .ref known_, .ref knownBefore_, .int 0])), (knownBefore_, .inl (k_knownBefore, 64, .inl F_knownBefore)), (slots_, .inl (k_slots, 32768, .inl o1)), (amounts_, .inl (k_amounts, 64, .inl o3)), (oldest_, .inl (k_oldest, 64, .inl o5)), (newest_, .inl (k_newest, 64, .inl o7)), (known_, .inl (k_known, 64, .inl o9))] H := hP
  have hD : va_D A [(h0, .inr (3, [.int 0, .int 0, .int 0, .ref keys_, .ref stages_, .ref amounts_, .ref predicates_, .ref next_, .ref slots_, .ref oldest_, .ref newest_, .ref known_, .ref knownBefore_, .int 0])), (knownBefore_, .inl (k_knownBefore, 64, .inl F_knownBefore)), (slots_, .inl (k_slots, 32768, .inl o1)), (amounts_, .inl (k_amounts, 64, .inl o3)), (oldest_, .inl (k_oldest, 64, .inl o5)), (newest_, .inl (k_newest, 64, .inl o7)), (known_, .inl (k_known, 64, .inl o9))] := hD
  have hK : va_K (dC, dI) vwCl [(k_knownBefore, .int), (k_slots, .int), (k_amounts, .int), (k_oldest, .int), (k_newest, .int), (k_known, .int)] s := hK
  refine lv_aload_n hx hb dc_Fa_clear_60 rfl (lv_at hl 0 rfl) ?_
  refine va_get (D := (dC, dI)) (ci := 3) (v := .ref knownBefore_) (C := "StrataBase$Facts") (T := tb_Fa) (N := 14) hx hb hT in_Fa hown hK hP 0 rfl rfl 12 (by decide) (hT _ wd_309) (fun _ h9 => h9) rfl dc_Fa_clear_61 ?_
  refine lv_iconst (v := (-1)) hx hb dc_Fa_clear_64 (by decide) ?_
  have hPc := hP.sub (ws' := [(knownBefore_, .inl (k_knownBefore, 64, .inl F_knownBefore))]) [1] rfl
  have hDc := hD.sub (ws' := [(knownBefore_, .inl (k_knownBefore, 64, .inl F_knownBefore))]) [1] (by decide) rfl
  have hKc := hK.sub (tys' := [(k_knownBefore, .int)]) [0] rfl
  have hFc := va_free (wc := [(knownBefore_, .inl (k_knownBefore, 64, .inl F_knownBefore))]) hD hS hA [1] rfl
  refine va_callv (va_runS (As := [.ref knownBefore_, .int (-1)]) (rest := []) ⟨hx, hb, hml, hown, hT⟩ (met_Ar_fill l dC dI 64 knownBefore_ ((-1) : Int32) F_knownBefore k_knownBefore H.size hw) (va_cwS 2 hT (gd_S wd_1024 wd_597 wd_19 wd_598) rfl rfl rfl (by decide +kernel) ⟨Nat.le_of_ble_eq_true rfl, Nat.le_of_ble_eq_true rfl⟩) ⟨fun a U g mk q => by obtain ⟨q0, q1, qP, qK, qD⟩ := q; exact ⟨q0, q1, qP, va_K.moved (u := U) (U := U.calling g mk a) (Vm.Alike.refl U.vm) qK, qD⟩, fun U hU hW => ⟨rfl, by rw [hU], by rw [hU]; exact hPc, va_K.moved hW.alike hKc, hDc.weaken (fun _ _ _ _ => trivial)⟩⟩ rfl rfl hl.1 rfl (lv_room (Nat.le_of_ble_eq_true rfl)) dc_Fa_clear_65 ⟨(Nat.le_of_ble_eq_true rfl), (Nat.le_of_ble_eq_true rfl)⟩) hS (fun q _ h => hFc q h) hFc (fun o11 t H1 locs ht hvm hw hB hz1 hk1 hS => ?_)
  obtain ⟨hP1, hK1, hD1⟩ := hB
  rw [ht] at hP1
  have hK1 := va_K.moved hvm.symm hK1
  obtain ⟨hP, hD⟩ := va_join (wr := [(h0, .inr (3, [.int 0, .int 0, .int 0, .ref keys_, .ref stages_, .ref amounts_, .ref predicates_, .ref next_, .ref slots_, .ref oldest_, .ref newest_, .ref known_, .ref knownBefore_, .int 0])), (slots_, .inl (k_slots, 32768, .inl o1)), (amounts_, .inl (k_amounts, 64, .inl o3)), (oldest_, .inl (k_oldest, 64, .inl o5)), (newest_, .inl (k_newest, 64, .inl o7)), (known_, .inl (k_known, 64, .inl o9))]) (w1 := [(knownBefore_, .inl (k_knownBefore, 64, .inl o11))]) hP hD [1] [0, 2, 3, 4, 5, 6] rfl rfl (by decide) (by decide) hk1 hFc hP1 hD1
  have hK := (hK.sub (tys' := [(k_slots, .int), (k_amounts, .int), (k_oldest, .int), (k_newest, .int), (k_known, .int)]) [1, 2, 3, 4, 5] rfl).app hK1
  generalize H1 = H at hP hS ⊢
  have hP : va_P (dC, dI) vwCl [(h0, .inr (3, [.int 0, .int 0, .int 0, .ref keys_, .ref stages_, .ref amounts_, .ref predicates_, .ref next_, .ref slots_, .ref oldest_, .ref newest_, .ref known_, .ref knownBefore_, .int 0])), (slots_, .inl (k_slots, 32768, .inl o1)), (amounts_, .inl (k_amounts, 64, .inl o3)), (oldest_, .inl (k_oldest, 64, .inl o5)), (newest_, .inl (k_newest, 64, .inl o7)), (known_, .inl (k_known, 64, .inl o9)), (knownBefore_, .inl (k_knownBefore, 64, .inl o11))] H := hP
  have hD : va_D A [(h0, .inr (3, [.int 0, .int 0, .int 0, .ref keys_, .ref stages_, .ref amounts_, .ref predicates_, .ref next_, .ref slots_, .ref oldest_, .ref newest_, .ref known_, .ref knownBefore_, .int 0])), (slots_, .inl (k_slots, 32768, .inl o1)), (amounts_, .inl (k_amounts, 64, .inl o3)), (oldest_, .inl (k_oldest, 64, .inl o5)), (newest_, .inl (k_newest, 64, .inl o7)), (known_, .inl (k_known, 64, .inl o9)), (knownBefore_, .inl (k_knownBefore, 64, .inl o11))] := hD
  have hK : va_K (dC, dI) vwCl [(k_slots, .int), (k_amounts, .int), (k_oldest, .int), (k_newest, .int), (k_known, .int), (k_knownBefore, .int)] s := hK
  have hP := hP.sub (ws' := [(h0, .inr (3, [.int 0, .int 0, .int 0, .ref keys_, .ref stages_, .ref amounts_, .ref predicates_, .ref next_, .ref slots_, .ref oldest_, .ref newest_, .ref known_, .ref knownBefore_, .int 0])), (amounts_, .inl (k_amounts, 64, .inl o3)), (slots_, .inl (k_slots, 32768, .inl o1)), (oldest_, .inl (k_oldest, 64, .inl o5)), (newest_, .inl (k_newest, 64, .inl o7)), (known_, .inl (k_known, 64, .inl o9)), (knownBefore_, .inl (k_knownBefore, 64, .inl o11))]) [0, 2, 1, 3, 4, 5, 6] rfl
  have hD := hD.sub (ws' := [(h0, .inr (3, [.int 0, .int 0, .int 0, .ref keys_, .ref stages_, .ref amounts_, .ref predicates_, .ref next_, .ref slots_, .ref oldest_, .ref newest_, .ref known_, .ref knownBefore_, .int 0])), (amounts_, .inl (k_amounts, 64, .inl o3)), (slots_, .inl (k_slots, 32768, .inl o1)), (oldest_, .inl (k_oldest, 64, .inl o5)), (newest_, .inl (k_newest, 64, .inl o7)), (known_, .inl (k_known, 64, .inl o9)), (knownBefore_, .inl (k_knownBefore, 64, .inl o11))]) [0, 2, 1, 3, 4, 5, 6] (by decide) rfl
  have hK := hK.sub (tys' := [(k_amounts, .int), (k_slots, .int), (k_oldest, .int), (k_newest, .int), (k_known, .int), (k_knownBefore, .int)]) [1, 0, 2, 3, 4, 5] rfl
  refine W.widen (k := 0) (n := 0) (Nat.le_of_ble_eq_true rfl) (Nat.le_of_ble_eq_true rfl) ?_
  exact W.vret hx hb hr (fun t ht hW => ⟨⟨((0 : Int32), (0 : Int32), (0 : Int32), (0 : Int32), o3, o1, o5, o7, o9, o11), rfl, hw, by rw [ht]; exact hP, va_K.moved hW.alike hK, hD⟩, hS.F ht⟩) hS.2.2 dc_Fa_clear_68

def lw_met_Fa_slotOf_40 (post : Int32 → Unit → Prop) (F_slots : Nat → Int32) (F_keys : Nat → Int64) (a1 : Int64) (F_predicates : Nat → Int32) (a0 : Int32) : Nat → (Int32 × Int32) → Prop
  | 0, _ => False
  | n12_ + 1, (v13, v14) => (((32768 : Int32) ≤ v13 → (post v14 ())) ∧ (¬ ((32768 : Int32) ≤ v13) → (vp_in v14 32768 ∧ (∀ y16 : Int32, y16 = F_slots v14.toNatClampNeg → (∀ y17 : Int32, y17 = y16 - (1 : Int32) → (((y17 < 0 → (post v14 ())) ∧ (¬ (y17 < 0) → (vp_in y17 20000 ∧ (∀ y19 : Int64, y19 = F_keys y17.toNatClampNeg → (((y19 = a1 → (vp_in y17 20000 ∧ (∀ y23 : Int32, y23 = F_predicates y17.toNatClampNeg → (((y23 = a0 → (post v14 ())) ∧ (¬ (y23 = a0) → (∀ y24 : Int32, y24 = v14 + (1 : Int32) → (∀ y25 : Int32, y25 = y24 &&& (32767 : Int32) → (lw_met_Fa_slotOf_40 post F_slots F_keys a1 F_predicates a0 n12_ ((v13 + 1), y25)))))))))) ∧ (¬ (y19 = a1) → (∀ y20 : Int32, y20 = v14 + (1 : Int32) → (∀ y21 : Int32, y21 = y20 &&& (32767 : Int32) → (lw_met_Fa_slotOf_40 post F_slots F_keys a1 F_predicates a0 n12_ ((v13 + 1), y21)))))))))))))))))
def wp_met_Fa_slotOf (post : Int32 → Unit → Prop) (a0 : Int32) (a1 : Int64) (F_keys : Nat → Int64) (F_predicates : Nat → Int32) (F_slots : Nat → Int32) : Prop := ∀ y1 : Int64, y1 = (a1.toUInt64 >>> ((29 : Int32).toInt64.toUInt64 &&& Int64.toUInt64 63)).toInt64 → (∀ y2 : Int64, y2 = a1 ^^^ y1 → (∀ y3 : Int64, y3 = y2 * (-7046029254386353131 : Int64) → (∀ y4 : Int64, y4 = a0.toInt64 → (∀ y5 : Int64, y5 = y4 * (89068084525962488 : Int64) → (∀ y6 : Int64, y6 = y3 + y5 → (∀ y7 : Int64, y7 = (y6.toUInt64 >>> ((31 : Int32).toInt64.toUInt64 &&& Int64.toUInt64 63)).toInt64 → (∀ y8 : Int64, y8 = y6 ^^^ y7 → (∀ y9 : Int64, y9 = y8 * (-7046029254386353131 : Int64) → (∀ y10 : Int64, y10 = (y9.toUInt64 >>> ((49 : Int32).toInt64.toUInt64 &&& Int64.toUInt64 63)).toInt64 → (∀ y11 : Int32, y11 = y10.toInt32 → (∃ n9 : Nat, lw_met_Fa_slotOf_40 post F_slots F_keys a1 F_predicates a0 n9 ((0 : Int32), y11))))))))))))
set_option maxHeartbeats 4000000 in
set_option maxRecDepth 100000 in
theorem met_Fa_slotOf (l : Launch) (dC : Nat → ClassId) (dI : Nat → Nat → Nat) (h0 : Nat) (keys_ : Nat) (stages_ : Nat) (amounts_ : Nat) (predicates_ : Nat) (next_ : Nat) (slots_ : Nat) (oldest_ : Nat) (newest_ : Nat) (known_ : Nat) (knownBefore_ : Nat) (a0 : Int32) (a1 : Int64) (size_ : Int32) (highest_ : Int32) (full_ : Int32) (visible_ : Int32) (F_keys : Nat → Int64) (F_predicates : Nat → Int32) (F_slots : Nat → Int32) (k_keys : ClassId) (k_predicates : ClassId) (k_slots : ClassId) (sz : Nat) {post : Int32 → Unit → Prop} (hw : wp_met_Fa_slotOf post a0 a1 F_keys F_predicates F_slots) : Met l my_Fa_slotOf (Cond.code my_Fa_slotOf cd_Fa_slotOf 9 (some (.int)) :: tblG) ({ frames := 0, cells := 0, slots := 0, locals := 0 }) (va_Pc [.ref h0, .int a0, .long a1] (fun U => U.heap.size = sz ∧ va_P (dC, dI) vwCl [(h0, .inr (3, [.int size_, .int highest_, .int full_, .ref keys_, .ref stages_, .ref amounts_, .ref predicates_, .ref next_, .ref slots_, .ref oldest_, .ref newest_, .ref known_, .ref knownBefore_, .int visible_])), (keys_, .inl (k_keys, 20000, .inr (.inl F_keys))), (predicates_, .inl (k_predicates, 20000, .inl F_predicates)), (slots_, .inl (k_slots, 32768, .inl F_slots))] U.heap ∧ va_K (dC, dI) vwCl [(k_keys, .long), (k_predicates, .int), (k_slots, .int)] U ∧ va_D (fun _ => True) [(h0, .inr (3, [.int size_, .int highest_, .int full_, .ref keys_, .ref stages_, .ref amounts_, .ref predicates_, .ref next_, .ref slots_, .ref oldest_, .ref newest_, .ref known_, .ref knownBefore_, .int visible_])), (keys_, .inl (k_keys, 20000, .inr (.inl F_keys))), (predicates_, .inl (k_predicates, 20000, .inl F_predicates)), (slots_, .inl (k_slots, 32768, .inl F_slots))])) (va_Qi post (fun (u : Unit) (t : State) => va_P (dC, dI) vwCl [(h0, .inr (3, [.int size_, .int highest_, .int full_, .ref keys_, .ref stages_, .ref amounts_, .ref predicates_, .ref next_, .ref slots_, .ref oldest_, .ref newest_, .ref known_, .ref knownBefore_, .int visible_])), (keys_, .inl (k_keys, 20000, .inr (.inl F_keys))), (predicates_, .inl (k_predicates, 20000, .inl F_predicates)), (slots_, .inl (k_slots, 32768, .inl F_slots))] t.heap ∧ va_K (dC, dI) vwCl [(k_keys, .long), (k_predicates, .int), (k_slots, .int)] t ∧ va_D (va_A [(h0, .inr (3, [.int size_, .int highest_, .int full_, .ref keys_, .ref stages_, .ref amounts_, .ref predicates_, .ref next_, .ref slots_, .ref oldest_, .ref newest_, .ref known_, .ref knownBefore_, .int visible_])), (keys_, .inl (k_keys, 20000, .inr (.inl F_keys))), (predicates_, .inl (k_predicates, 20000, .inl F_predicates)), (slots_, .inl (k_slots, 32768, .inl F_slots))] sz) [(h0, .inr (3, [.int size_, .int highest_, .int full_, .ref keys_, .ref stages_, .ref amounts_, .ref predicates_, .ref next_, .ref slots_, .ref oldest_, .ref newest_, .ref known_, .ref knownBefore_, .int visible_])), (keys_, .inl (k_keys, 20000, .inr (.inl F_keys))), (predicates_, .inl (k_predicates, 20000, .inl F_predicates)), (slots_, .inl (k_slots, 32768, .inl F_slots))]) (va_A [(h0, .inr (3, [.int size_, .int highest_, .int full_, .ref keys_, .ref stages_, .ref amounts_, .ref predicates_, .ref next_, .ref slots_, .ref oldest_, .ref newest_, .ref known_, .ref knownBefore_, .int visible_])), (keys_, .inl (k_keys, 20000, .inr (.inl F_keys))), (predicates_, .inl (k_predicates, 20000, .inl F_predicates)), (slots_, .inl (k_slots, 32768, .inl F_slots))] sz)) 0 0 (va_A [(h0, .inr (3, [.int size_, .int highest_, .int full_, .ref keys_, .ref stages_, .ref amounts_, .ref predicates_, .ref next_, .ref slots_, .ref oldest_, .ref newest_, .ref known_, .ref knownBefore_, .int visible_])), (keys_, .inl (k_keys, 20000, .inr (.inl F_keys))), (predicates_, .inl (k_predicates, 20000, .inl F_predicates)), (slots_, .inl (k_slots, 32768, .inl F_slots))] sz) := by
  refine Met.ofW (cc := cd_Fa_slotOf) (maxL := 9) (ret := (some (.int))) (by decide) rfl ?_
  intro p e s m args below meth c s₁ B hml hv
  obtain ⟨rfl, hsz, hP, hK, hD0⟩ := hv
  have hx := B.exec
  have hb := B.bytes
  have hr := B.returns
  have hT : ∀ w ∈ tblG, w.before _ s = true := fun w h => atoms_spec (ws := (Cond.code my_Fa_slotOf cd_Fa_slotOf 9 (some (.int)) :: tblG)) B.pre w (List.mem_cons_of_mem _ h)
  have hown : s.vm.findClass "StrataBase$Facts" = some m.cls := findClass_of_methodNamed B.named
  have hlocks := B.notSynchronized
  subst hsz
  have hD := hD0.self (sz := s.heap.size)
  generalize hAe : va_A [(h0, .inr (3, [.int size_, .int highest_, .int full_, .ref keys_, .ref stages_, .ref amounts_, .ref predicates_, .ref next_, .ref slots_, .ref oldest_, .ref newest_, .ref known_, .ref knownBefore_, .int visible_])), (keys_, .inl (k_keys, 20000, .inr (.inl F_keys))), (predicates_, .inl (k_predicates, 20000, .inl F_predicates)), (slots_, .inl (k_slots, 32768, .inl F_slots))] s.heap.size = A at hD ⊢
  have hA : ∀ q : Nat, s.heap.size ≤ q → A q := fun q h => by rw [← hAe]; exact Or.inr h
  have hS : va_S A s.heap s.heap [] := va_S.rf
  have hl := lv_entry ([.ref h0, .int a0, .long a1]) (n := 9) (Nat.le_of_ble_eq_true rfl)
  rw [lg_entry_eq]
  generalize (lg_sl ([.ref h0, .int a0, .long a1]) ++ List.replicate (9 - (lg_sl ([.ref h0, .int a0, .long a1])).length) Slot.unset).toArray = ls at hl ⊢
  have hl : lv_has ls 9 [(0, .ref h0), (1, .int a0), (2, .long a1)] := hl
  unfold wp_met_Fa_slotOf at hw
  refine lv_lload_n hx hb dc_Fa_slotOf_0 rfl (lv_at hl 2 rfl) ?_
  refine lv_lload_n hx hb dc_Fa_slotOf_1 rfl (lv_at hl 2 rfl) ?_
  refine lv_bipush (v := 29) hx hb dc_Fa_slotOf_2 (by decide) ?_
  refine lv_lushr (v := (a1.toUInt64 >>> ((29 : Int32).toInt64.toUInt64 &&& Int64.toUInt64 63)).toInt64) hx hb dc_Fa_slotOf_4 rfl ?_
  refine lv_topl (fun y1 ey1 => ?_)
  have hw := hw y1 ey1
  refine lv_lxor hx hb dc_Fa_slotOf_5 ?_
  refine lv_topl (fun y2 ey2 => ?_)
  have hw := hw y2 ey2
  refine lv_ldc2 (v := (-7046029254386353131)) hx hb hown (hT _ wd_1062) dc_Fa_slotOf_6 ?_
  refine lv_lmul hx hb dc_Fa_slotOf_9 ?_
  refine lv_topl (fun y3 ey3 => ?_)
  have hw := hw y3 ey3
  refine lv_iload_n hx hb dc_Fa_slotOf_10 rfl (lv_at hl 1 rfl) ?_
  refine lv_i2l (v := a0.toInt64) hx hb dc_Fa_slotOf_11 rfl ?_
  refine lv_topl (fun y4 ey4 => ?_)
  have hw := hw y4 ey4
  refine lv_ldc2 (v := 89068084525962488) hx hb hown (hT _ wd_1063) dc_Fa_slotOf_12 ?_
  refine lv_lmul hx hb dc_Fa_slotOf_15 ?_
  refine lv_topl (fun y5 ey5 => ?_)
  have hw := hw y5 ey5
  refine lv_ladd hx hb dc_Fa_slotOf_16 ?_
  refine lv_topl (fun y6 ey6 => ?_)
  have hw := hw y6 ey6
  refine lv_lstore (lv' := [(4, .long y6), (0, .ref h0), (1, .int a0), (2, .long a1)]) hx hb dc_Fa_slotOf_17 hl (by decide) rfl (fun ls hl => ?_)
  refine lv_lload hx hb dc_Fa_slotOf_19 (lv_at hl 0 rfl) ?_
  refine lv_lload hx hb dc_Fa_slotOf_21 (lv_at hl 0 rfl) ?_
  refine lv_bipush (v := 31) hx hb dc_Fa_slotOf_23 (by decide) ?_
  refine lv_lushr (v := (y6.toUInt64 >>> ((31 : Int32).toInt64.toUInt64 &&& Int64.toUInt64 63)).toInt64) hx hb dc_Fa_slotOf_25 rfl ?_
  refine lv_topl (fun y7 ey7 => ?_)
  have hw := hw y7 ey7
  refine lv_lxor hx hb dc_Fa_slotOf_26 ?_
  refine lv_topl (fun y8 ey8 => ?_)
  have hw := hw y8 ey8
  refine lv_ldc2 (v := (-7046029254386353131)) hx hb hown (hT _ wd_1062) dc_Fa_slotOf_27 ?_
  refine lv_lmul hx hb dc_Fa_slotOf_30 ?_
  refine lv_topl (fun y9 ey9 => ?_)
  have hw := hw y9 ey9
  refine lv_bipush (v := 49) hx hb dc_Fa_slotOf_31 (by decide) ?_
  refine lv_lushr (v := (y9.toUInt64 >>> ((49 : Int32).toInt64.toUInt64 &&& Int64.toUInt64 63)).toInt64) hx hb dc_Fa_slotOf_33 rfl ?_
  refine lv_topl (fun y10 ey10 => ?_)
  have hw := hw y10 ey10
  refine lv_l2i (v := y10.toInt32) hx hb dc_Fa_slotOf_34 rfl ?_
  refine lv_topi (fun y11 ey11 => ?_)
  have hw := hw y11 ey11
  refine lv_istore (lv' := [(6, .int y11), (4, .long y6), (0, .ref h0), (1, .int a0), (2, .long a1)]) hx hb dc_Fa_slotOf_35 hl (by decide) rfl (fun ls hl => ?_)
  refine lv_iconst (v := 0) hx hb dc_Fa_slotOf_37 (by decide) ?_
  refine lv_istore (lv' := [(7, .int 0), (6, .int y11), (4, .long y6), (0, .ref h0), (1, .int a0), (2, .long a1)]) hx hb dc_Fa_slotOf_38 hl (by decide) rfl (fun ls hl => ?_)
  obtain ⟨n9, hw⟩ := hw
  refine lp_fuel (σ := Int32 × Int32) _ (fun x9 H locs ls => match x9 with | (v13, v14) => va_K (dC, dI) vwCl [(k_keys, .long), (k_predicates, .int), (k_slots, .int)] s ∧ va_P (dC, dI) vwCl [(h0, .inr (3, [.int size_, .int highest_, .int full_, .ref keys_, .ref stages_, .ref amounts_, .ref predicates_, .ref next_, .ref slots_, .ref oldest_, .ref newest_, .ref known_, .ref knownBefore_, .int visible_])), (keys_, .inl (k_keys, 20000, .inr (.inl F_keys))), (predicates_, .inl (k_predicates, 20000, .inl F_predicates)), (slots_, .inl (k_slots, 32768, .inl F_slots))] H ∧ va_D A [(h0, .inr (3, [.int size_, .int highest_, .int full_, .ref keys_, .ref stages_, .ref amounts_, .ref predicates_, .ref next_, .ref slots_, .ref oldest_, .ref newest_, .ref known_, .ref knownBefore_, .int visible_])), (keys_, .inl (k_keys, 20000, .inr (.inl F_keys))), (predicates_, .inl (k_predicates, 20000, .inl F_predicates)), (slots_, .inl (k_slots, 32768, .inl F_slots))] ∧ va_S A s.heap H locs ∧ lv_has ls 9 [(7, .int v13), (6, .int v14), (0, .ref h0), (1, .int a0), (2, .long a1)]) (fun x9 h9 => by simp only [lw_met_Fa_slotOf_40] at h9) ?_ hw ⟨hK.sub [0, 1, 2] rfl, hP.sub [0, 1, 2, 3] rfl, hD.sub [0, 1, 2, 3] (by decide) rfl, hS, lv_sub hl [0, 1, 3, 4, 5] rfl⟩
  intro n12_ x9 hw ih12 H locs ls hI
  obtain ⟨v13, v14⟩ := x9
  obtain ⟨hK, hP, hD, hS, hl⟩ := hI
  unfold lw_met_Fa_slotOf_40 at hw
  refine lv_iload hx hb dc_Fa_slotOf_40 (lv_at hl 0 rfl) ?_
  refine lv_ldc (v := 32768) hx hb hown (hT _ wd_288) dc_Fa_slotOf_42 ?_
  refine lv_icmp_ge (tgt := 105) hx hb dc_Fa_slotOf_44 (by decide) (fun h44 => ?_) (fun h44 => ?_)
  · have hw := hw.1 h44
    refine lv_iload hx hb dc_Fa_slotOf_105 (lv_at hl 1 rfl) ?_
    refine W.widen (k := 0) (n := 0) (Nat.le_of_ble_eq_true rfl) (Nat.le_of_ble_eq_true rfl) ?_
    exact W.iret (v := v14) hx hb hr (fun t ht hW => ⟨⟨v14, (), rfl, hw, by rw [ht]; exact hP, va_K.moved hW.alike hK, hD⟩, hS.F ht⟩) hS.2.2 dc_Fa_slotOf_107
  · have hw := hw.2 h44
    refine lv_aload_n hx hb dc_Fa_slotOf_47 rfl (lv_at hl 2 rfl) ?_
    refine va_get (D := (dC, dI)) (ci := 3) (v := .ref slots_) (C := "StrataBase$Facts") (T := tb_Fa) (N := 14) hx hb hT in_Fa hown hK hP 0 rfl rfl 8 (by decide) (hT _ wd_305) (fun _ h9 => h9) rfl dc_Fa_slotOf_48 ?_
    refine lv_iload hx hb dc_Fa_slotOf_51 (lv_at hl 1 rfl) ?_
    obtain ⟨hv15, hw⟩ := hw
    refine va_iald hx hb hK hP 3 2 rfl rfl hv15 dc_Fa_slotOf_53 ?_
    refine lv_topi (fun y16 ey16 => ?_)
    have hw := hw y16 ey16
    refine lv_iconst (v := 1) hx hb dc_Fa_slotOf_54 (by decide) ?_
    refine lv_isub hx hb dc_Fa_slotOf_55 ?_
    refine lv_topi (fun y17 ey17 => ?_)
    have hw := hw y17 ey17
    refine lv_istore (lv' := [(8, .int y17), (7, .int v13), (6, .int v14), (0, .ref h0), (1, .int a0), (2, .long a1)]) hx hb dc_Fa_slotOf_56 hl (by decide) rfl (fun ls hl => ?_)
    refine lv_iload hx hb dc_Fa_slotOf_58 (lv_at hl 0 rfl) ?_
    refine lv_if_lt (tgt := 86) hx hb dc_Fa_slotOf_60 (by decide) (fun h60 => ?_) (fun h60 => ?_)
    · have hw := hw.1 h60
      refine lv_iload hx hb dc_Fa_slotOf_86 (lv_at hl 2 rfl) ?_
      refine W.widen (k := 0) (n := 0) (Nat.le_of_ble_eq_true rfl) (Nat.le_of_ble_eq_true rfl) ?_
      exact W.iret (v := v14) hx hb hr (fun t ht hW => ⟨⟨v14, (), rfl, hw, by rw [ht]; exact hP, va_K.moved hW.alike hK, hD⟩, hS.F ht⟩) hS.2.2 dc_Fa_slotOf_88
    · have hw := hw.2 h60
      refine lv_aload_n hx hb dc_Fa_slotOf_63 rfl (lv_at hl 3 rfl) ?_
      refine va_get (D := (dC, dI)) (ci := 3) (v := .ref keys_) (C := "StrataBase$Facts") (T := tb_Fa) (N := 14) hx hb hT in_Fa hown hK hP 0 rfl rfl 3 (by decide) (hT _ wd_297) (fun _ h9 => h9) rfl dc_Fa_slotOf_64 ?_
      refine lv_iload hx hb dc_Fa_slotOf_67 (lv_at hl 0 rfl) ?_
      obtain ⟨hv18, hw⟩ := hw
      refine va_lald hx hb hK hP 1 0 rfl rfl hv18 dc_Fa_slotOf_69 ?_
      refine lv_topl (fun y19 ey19 => ?_)
      have hw := hw y19 ey19
      refine lv_lload_n hx hb dc_Fa_slotOf_70 rfl (lv_at hl 5 rfl) ?_
      refine W.lcmp hx hb dc_Fa_slotOf_71 ?_
      refine lv_if_ne (tgt := 89) hx hb dc_Fa_slotOf_72 (by decide) (fun h72 => ?_) (fun h72 => ?_)
      · have h72 : ¬ (y19 = a1) := fun z9 => h72 ((lg_cmp_eq _ _).mpr z9)
        have hw := hw.2 h72
        refine lv_iload hx hb dc_Fa_slotOf_89 (lv_at hl 2 rfl) ?_
        refine lv_iconst (v := 1) hx hb dc_Fa_slotOf_91 (by decide) ?_
        refine lv_iadd hx hb dc_Fa_slotOf_92 ?_
        refine lv_topi (fun y20 ey20 => ?_)
        have hw := hw y20 ey20
        refine lv_sipush (v := 32767) hx hb dc_Fa_slotOf_93 (by decide) ?_
        refine lv_iand hx hb dc_Fa_slotOf_96 ?_
        refine lv_topi (fun y21 ey21 => ?_)
        have hw := hw y21 ey21
        refine lv_istore (lv' := [(6, .int y21), (8, .int y17), (7, .int v13), (0, .ref h0), (1, .int a0), (2, .long a1)]) hx hb dc_Fa_slotOf_97 hl (by decide) rfl (fun ls hl => ?_)
        refine lv_iinc (k := 2) (v := v13 + 1) (lv' := [(7, .int (v13 + 1)), (6, .int y21), (8, .int y17), (0, .ref h0), (1, .int a0), (2, .long a1)]) hx hb dc_Fa_slotOf_99 hl rfl rfl (by decide) rfl (fun ls hl => ?_)
        refine lv_goto (tgt := 40) hx hb dc_Fa_slotOf_102 (by decide) ?_
        exact ih12 ((v13 + 1), y21) hw _ _ _ ⟨hK.sub [0, 1, 2] rfl, hP.sub [0, 1, 2, 3] rfl, hD.sub [0, 1, 2, 3] (by decide) rfl, hS, lv_sub hl [0, 1, 3, 4, 5] rfl⟩
      · have h72 : y19 = a1 := (lg_cmp_eq _ _).mp h72
        have hw := hw.1 h72
        refine lv_aload_n hx hb dc_Fa_slotOf_75 rfl (lv_at hl 3 rfl) ?_
        refine va_get (D := (dC, dI)) (ci := 3) (v := .ref predicates_) (C := "StrataBase$Facts") (T := tb_Fa) (N := 14) hx hb hT in_Fa hown hK hP 0 rfl rfl 6 (by decide) (hT _ wd_303) (fun _ h9 => h9) rfl dc_Fa_slotOf_76 ?_
        refine lv_iload hx hb dc_Fa_slotOf_79 (lv_at hl 0 rfl) ?_
        obtain ⟨hv22, hw⟩ := hw
        refine va_iald hx hb hK hP 2 1 rfl rfl hv22 dc_Fa_slotOf_81 ?_
        refine lv_topi (fun y23 ey23 => ?_)
        have hw := hw y23 ey23
        refine lv_iload_n hx hb dc_Fa_slotOf_82 rfl (lv_at hl 4 rfl) ?_
        refine lv_icmp_ne (tgt := 89) hx hb dc_Fa_slotOf_83 (by decide) (fun h83 => ?_) (fun h83 => ?_)
        · have hw := hw.2 h83
          refine lv_iload hx hb dc_Fa_slotOf_89 (lv_at hl 2 rfl) ?_
          refine lv_iconst (v := 1) hx hb dc_Fa_slotOf_91 (by decide) ?_
          refine lv_iadd hx hb dc_Fa_slotOf_92 ?_
          refine lv_topi (fun y24 ey24 => ?_)
          have hw := hw y24 ey24
          refine lv_sipush (v := 32767) hx hb dc_Fa_slotOf_93 (by decide) ?_
          refine lv_iand hx hb dc_Fa_slotOf_96 ?_
          refine lv_topi (fun y25 ey25 => ?_)
          have hw := hw y25 ey25
          refine lv_istore (lv' := [(6, .int y25), (8, .int y17), (7, .int v13), (0, .ref h0), (1, .int a0), (2, .long a1)]) hx hb dc_Fa_slotOf_97 hl (by decide) rfl (fun ls hl => ?_)
          refine lv_iinc (k := 2) (v := v13 + 1) (lv' := [(7, .int (v13 + 1)), (6, .int y25), (8, .int y17), (0, .ref h0), (1, .int a0), (2, .long a1)]) hx hb dc_Fa_slotOf_99 hl rfl rfl (by decide) rfl (fun ls hl => ?_)
          refine lv_goto (tgt := 40) hx hb dc_Fa_slotOf_102 (by decide) ?_
          exact ih12 ((v13 + 1), y25) hw _ _ _ ⟨hK.sub [0, 1, 2] rfl, hP.sub [0, 1, 2, 3] rfl, hD.sub [0, 1, 2, 3] (by decide) rfl, hS, lv_sub hl [0, 1, 3, 4, 5] rfl⟩
        · have hw := hw.1 h83
          refine lv_iload hx hb dc_Fa_slotOf_86 (lv_at hl 2 rfl) ?_
          refine W.widen (k := 0) (n := 0) (Nat.le_of_ble_eq_true rfl) (Nat.le_of_ble_eq_true rfl) ?_
          exact W.iret (v := v14) hx hb hr (fun t ht hW => ⟨⟨v14, (), rfl, hw, by rw [ht]; exact hP, va_K.moved hW.alike hK, hD⟩, hS.F ht⟩) hS.2.2 dc_Fa_slotOf_88

def jw_met_Fa_add_140 (post : (Int32 × Int32 × Int32 × (Nat → Int64) × (Nat → Int32) × (Nat → Int32) × (Nat → Int32) × (Nat → Int32) × (Nat → Int32) × (Nat → Int32) × (Nat → Int32)) → Prop) (a0 : Int32) (F_newest : Nat → Int32) (size_ : Int32) (F_amounts : Nat → Int32) (y15 : Int32) (full_ : Int32) (g8 : Nat → Int64) (g12 : Nat → Int32) (g10 : Nat → Int32) (g6 : Nat → Int32) : ((Nat → Int32) × (Nat → Int32)) → Prop
  | (v25, v26) => vp_in a0 64 ∧ (∀ g28 : Nat → Int32, g28 = upd F_newest a0.toNatClampNeg size_ → (vp_in a0 64 ∧ (∀ y30 : Int32, y30 = F_amounts a0.toNatClampNeg → (∀ y31 : Int32, y31 = y30 + (1 : Int32) → (vp_in a0 64 ∧ (∀ g33 : Nat → Int32, g33 = upd F_amounts a0.toNatClampNeg y31 → (∀ y34 : Int32, y34 = size_ + (1 : Int32) → (post (y34, y15, full_, g8, g12, g33, g10, v25, g6, v26, g28)))))))))
def wp_met_Fa_add (post : (Int32 × Int32 × Int32 × (Nat → Int64) × (Nat → Int32) × (Nat → Int32) × (Nat → Int32) × (Nat → Int32) × (Nat → Int32) × (Nat → Int32) × (Nat → Int32)) → Prop) (a0 : Int32) (a1 : Int64) (a2 : Int32) (size_ : Int32) (highest_ : Int32) (full_ : Int32) (F_keys : Nat → Int64) (F_stages : Nat → Int32) (F_amounts : Nat → Int32) (F_predicates : Nat → Int32) (F_next : Nat → Int32) (F_slots : Nat → Int32) (F_oldest : Nat → Int32) (F_newest : Nat → Int32) : Prop := wp_met_Fa_slotOf (fun (r1 : Int32) (_ : Unit) => (vp_in r1 32768 ∧ (∀ y3 : Int32, y3 = F_slots r1.toNatClampNeg → (((y3 = 0 → (((size_ = (20000 : Int32) → (post (size_, highest_, (1 : Int32), F_keys, F_stages, F_amounts, F_predicates, F_next, F_slots, F_oldest, F_newest))) ∧ (¬ (size_ = (20000 : Int32)) → (∀ y4 : Int32, y4 = size_ + (1 : Int32) → (vp_in r1 32768 ∧ (∀ g6 : Nat → Int32, g6 = upd F_slots r1.toNatClampNeg y4 → (vp_in size_ 20000 ∧ (∀ g8 : Nat → Int64, g8 = vp_updL F_keys size_.toNatClampNeg a1 → (vp_in size_ 20000 ∧ (∀ g10 : Nat → Int32, g10 = upd F_predicates size_.toNatClampNeg a0 → (vp_in size_ 20000 ∧ (∀ g12 : Nat → Int32, g12 = upd F_stages size_.toNatClampNeg a2 → (vp_in size_ 20000 ∧ (∀ g14 : Nat → Int32, g14 = upd F_next size_.toNatClampNeg ((-1) : Int32) → (∀ y15 : Int32, y15 = (if highest_ < a2 then a2 else highest_) → (vp_in a0 64 ∧ (∀ y17 : Int32, y17 = F_newest a0.toNatClampNeg → (((y17 = ((-1) : Int32) → (vp_in a0 64 ∧ (∀ g24 : Nat → Int32, g24 = upd F_oldest a0.toNatClampNeg size_ → (jw_met_Fa_add_140 post a0 F_newest size_ F_amounts y15 full_ g8 g12 g10 g6 (g14, g24))))) ∧ (¬ (y17 = ((-1) : Int32)) → (vp_in a0 64 ∧ (∀ y20 : Int32, y20 = F_newest a0.toNatClampNeg → (vp_in y20 20000 ∧ (∀ g22 : Nat → Int32, g22 = upd g14 y20.toNatClampNeg size_ → (jw_met_Fa_add_140 post a0 F_newest size_ F_amounts y15 full_ g8 g12 g10 g6 (g22, F_oldest))))))))))))))))))))))))))) ∧ (¬ (y3 = 0) → (post (size_, highest_, full_, F_keys, F_stages, F_amounts, F_predicates, F_next, F_slots, F_oldest, F_newest)))))))) a0 a1 F_keys F_predicates F_slots
set_option maxHeartbeats 4000000 in
set_option maxRecDepth 100000 in
theorem met_Fa_add (l : Launch) (dC : Nat → ClassId) (dI : Nat → Nat → Nat) (h0 : Nat) (keys_ : Nat) (stages_ : Nat) (amounts_ : Nat) (predicates_ : Nat) (next_ : Nat) (slots_ : Nat) (oldest_ : Nat) (newest_ : Nat) (known_ : Nat) (knownBefore_ : Nat) (a0 : Int32) (a1 : Int64) (a2 : Int32) (size_ : Int32) (highest_ : Int32) (full_ : Int32) (visible_ : Int32) (F_keys : Nat → Int64) (F_stages : Nat → Int32) (F_amounts : Nat → Int32) (F_predicates : Nat → Int32) (F_next : Nat → Int32) (F_slots : Nat → Int32) (F_oldest : Nat → Int32) (F_newest : Nat → Int32) (k_keys : ClassId) (k_stages : ClassId) (k_amounts : ClassId) (k_predicates : ClassId) (k_next : ClassId) (k_slots : ClassId) (k_oldest : ClassId) (k_newest : ClassId) (sz : Nat) {post : (Int32 × Int32 × Int32 × (Nat → Int64) × (Nat → Int32) × (Nat → Int32) × (Nat → Int32) × (Nat → Int32) × (Nat → Int32) × (Nat → Int32) × (Nat → Int32)) → Prop} (hw : wp_met_Fa_add post a0 a1 a2 size_ highest_ full_ F_keys F_stages F_amounts F_predicates F_next F_slots F_oldest F_newest) : Met l my_Fa_add (Cond.code my_Fa_add cd_Fa_add 6 none :: tblG) ({ frames := 1, cells := 0, slots := 0, locals := 28 }) (va_Pc [.ref h0, .int a0, .long a1, .int a2] (fun U => U.heap.size = sz ∧ va_P (dC, dI) vwCl [(h0, .inr (3, [.int size_, .int highest_, .int full_, .ref keys_, .ref stages_, .ref amounts_, .ref predicates_, .ref next_, .ref slots_, .ref oldest_, .ref newest_, .ref known_, .ref knownBefore_, .int visible_])), (keys_, .inl (k_keys, 20000, .inr (.inl F_keys))), (stages_, .inl (k_stages, 20000, .inl F_stages)), (amounts_, .inl (k_amounts, 64, .inl F_amounts)), (predicates_, .inl (k_predicates, 20000, .inl F_predicates)), (next_, .inl (k_next, 20000, .inl F_next)), (slots_, .inl (k_slots, 32768, .inl F_slots)), (oldest_, .inl (k_oldest, 64, .inl F_oldest)), (newest_, .inl (k_newest, 64, .inl F_newest))] U.heap ∧ va_K (dC, dI) vwCl [(k_keys, .long), (k_stages, .int), (k_amounts, .int), (k_predicates, .int), (k_next, .int), (k_slots, .int), (k_oldest, .int), (k_newest, .int)] U ∧ va_D (fun _ => True) [(h0, .inr (3, [.int size_, .int highest_, .int full_, .ref keys_, .ref stages_, .ref amounts_, .ref predicates_, .ref next_, .ref slots_, .ref oldest_, .ref newest_, .ref known_, .ref knownBefore_, .int visible_])), (keys_, .inl (k_keys, 20000, .inr (.inl F_keys))), (stages_, .inl (k_stages, 20000, .inl F_stages)), (amounts_, .inl (k_amounts, 64, .inl F_amounts)), (predicates_, .inl (k_predicates, 20000, .inl F_predicates)), (next_, .inl (k_next, 20000, .inl F_next)), (slots_, .inl (k_slots, 32768, .inl F_slots)), (oldest_, .inl (k_oldest, 64, .inl F_oldest)), (newest_, .inl (k_newest, 64, .inl F_newest))])) (va_Qv post (fun (u : Int32 × Int32 × Int32 × (Nat → Int64) × (Nat → Int32) × (Nat → Int32) × (Nat → Int32) × (Nat → Int32) × (Nat → Int32) × (Nat → Int32) × (Nat → Int32)) (t : State) => match u with | (o0, o1, o2, o3, o4, o5, o6, o7, o8, o9, o10) => va_P (dC, dI) vwCl [(h0, .inr (3, [.int o0, .int o1, .int o2, .ref keys_, .ref stages_, .ref amounts_, .ref predicates_, .ref next_, .ref slots_, .ref oldest_, .ref newest_, .ref known_, .ref knownBefore_, .int visible_])), (keys_, .inl (k_keys, 20000, .inr (.inl o3))), (stages_, .inl (k_stages, 20000, .inl o4)), (amounts_, .inl (k_amounts, 64, .inl o5)), (predicates_, .inl (k_predicates, 20000, .inl o6)), (next_, .inl (k_next, 20000, .inl o7)), (slots_, .inl (k_slots, 32768, .inl o8)), (oldest_, .inl (k_oldest, 64, .inl o9)), (newest_, .inl (k_newest, 64, .inl o10))] t.heap ∧ va_K (dC, dI) vwCl [(k_keys, .long), (k_stages, .int), (k_amounts, .int), (k_predicates, .int), (k_next, .int), (k_slots, .int), (k_oldest, .int), (k_newest, .int)] t ∧ va_D (va_A [(h0, .inr (3, [.int size_, .int highest_, .int full_, .ref keys_, .ref stages_, .ref amounts_, .ref predicates_, .ref next_, .ref slots_, .ref oldest_, .ref newest_, .ref known_, .ref knownBefore_, .int visible_])), (keys_, .inl (k_keys, 20000, .inr (.inl F_keys))), (stages_, .inl (k_stages, 20000, .inl F_stages)), (amounts_, .inl (k_amounts, 64, .inl F_amounts)), (predicates_, .inl (k_predicates, 20000, .inl F_predicates)), (next_, .inl (k_next, 20000, .inl F_next)), (slots_, .inl (k_slots, 32768, .inl F_slots)), (oldest_, .inl (k_oldest, 64, .inl F_oldest)), (newest_, .inl (k_newest, 64, .inl F_newest))] sz) [(h0, .inr (3, [.int o0, .int o1, .int o2, .ref keys_, .ref stages_, .ref amounts_, .ref predicates_, .ref next_, .ref slots_, .ref oldest_, .ref newest_, .ref known_, .ref knownBefore_, .int visible_])), (keys_, .inl (k_keys, 20000, .inr (.inl o3))), (stages_, .inl (k_stages, 20000, .inl o4)), (amounts_, .inl (k_amounts, 64, .inl o5)), (predicates_, .inl (k_predicates, 20000, .inl o6)), (next_, .inl (k_next, 20000, .inl o7)), (slots_, .inl (k_slots, 32768, .inl o8)), (oldest_, .inl (k_oldest, 64, .inl o9)), (newest_, .inl (k_newest, 64, .inl o10))]) (va_A [(h0, .inr (3, [.int size_, .int highest_, .int full_, .ref keys_, .ref stages_, .ref amounts_, .ref predicates_, .ref next_, .ref slots_, .ref oldest_, .ref newest_, .ref known_, .ref knownBefore_, .int visible_])), (keys_, .inl (k_keys, 20000, .inr (.inl F_keys))), (stages_, .inl (k_stages, 20000, .inl F_stages)), (amounts_, .inl (k_amounts, 64, .inl F_amounts)), (predicates_, .inl (k_predicates, 20000, .inl F_predicates)), (next_, .inl (k_next, 20000, .inl F_next)), (slots_, .inl (k_slots, 32768, .inl F_slots)), (oldest_, .inl (k_oldest, 64, .inl F_oldest)), (newest_, .inl (k_newest, 64, .inl F_newest))] sz)) 0 0 (va_A [(h0, .inr (3, [.int size_, .int highest_, .int full_, .ref keys_, .ref stages_, .ref amounts_, .ref predicates_, .ref next_, .ref slots_, .ref oldest_, .ref newest_, .ref known_, .ref knownBefore_, .int visible_])), (keys_, .inl (k_keys, 20000, .inr (.inl F_keys))), (stages_, .inl (k_stages, 20000, .inl F_stages)), (amounts_, .inl (k_amounts, 64, .inl F_amounts)), (predicates_, .inl (k_predicates, 20000, .inl F_predicates)), (next_, .inl (k_next, 20000, .inl F_next)), (slots_, .inl (k_slots, 32768, .inl F_slots)), (oldest_, .inl (k_oldest, 64, .inl F_oldest)), (newest_, .inl (k_newest, 64, .inl F_newest))] sz) := by
  refine Met.ofW (cc := cd_Fa_add) (maxL := 6) (ret := none) (by decide) rfl ?_
  intro p e s m args below meth c s₁ B hml hv
  obtain ⟨rfl, hsz, hP, hK, hD0⟩ := hv
  have hx := B.exec
  have hb := B.bytes
  have hr := B.returns
  have hT : ∀ w ∈ tblG, w.before _ s = true := fun w h => atoms_spec (ws := (Cond.code my_Fa_add cd_Fa_add 6 none :: tblG)) B.pre w (List.mem_cons_of_mem _ h)
  have hown : s.vm.findClass "StrataBase$Facts" = some m.cls := findClass_of_methodNamed B.named
  have hlocks := B.notSynchronized
  subst hsz
  have hD := hD0.self (sz := s.heap.size)
  generalize hAe : va_A [(h0, .inr (3, [.int size_, .int highest_, .int full_, .ref keys_, .ref stages_, .ref amounts_, .ref predicates_, .ref next_, .ref slots_, .ref oldest_, .ref newest_, .ref known_, .ref knownBefore_, .int visible_])), (keys_, .inl (k_keys, 20000, .inr (.inl F_keys))), (stages_, .inl (k_stages, 20000, .inl F_stages)), (amounts_, .inl (k_amounts, 64, .inl F_amounts)), (predicates_, .inl (k_predicates, 20000, .inl F_predicates)), (next_, .inl (k_next, 20000, .inl F_next)), (slots_, .inl (k_slots, 32768, .inl F_slots)), (oldest_, .inl (k_oldest, 64, .inl F_oldest)), (newest_, .inl (k_newest, 64, .inl F_newest))] s.heap.size = A at hD ⊢
  have hA : ∀ q : Nat, s.heap.size ≤ q → A q := fun q h => by rw [← hAe]; exact Or.inr h
  have hS : va_S A s.heap s.heap [] := va_S.rf
  have hl := lv_entry ([.ref h0, .int a0, .long a1, .int a2]) (n := 6) (Nat.le_of_ble_eq_true rfl)
  rw [lg_entry_eq]
  generalize (lg_sl ([.ref h0, .int a0, .long a1, .int a2]) ++ List.replicate (6 - (lg_sl ([.ref h0, .int a0, .long a1, .int a2])).length) Slot.unset).toArray = ls at hl ⊢
  have hl : lv_has ls 6 [(0, .ref h0), (1, .int a0), (2, .long a1), (4, .int a2)] := hl
  unfold wp_met_Fa_add at hw
  refine lv_aload_n hx hb dc_Fa_add_0 rfl (lv_at hl 0 rfl) ?_
  refine lv_iload_n hx hb dc_Fa_add_1 rfl (lv_at hl 1 rfl) ?_
  refine lv_lload_n hx hb dc_Fa_add_2 rfl (lv_at hl 2 rfl) ?_
  have hPc := hP.sub (ws' := [(h0, .inr (3, [.int size_, .int highest_, .int full_, .ref keys_, .ref stages_, .ref amounts_, .ref predicates_, .ref next_, .ref slots_, .ref oldest_, .ref newest_, .ref known_, .ref knownBefore_, .int visible_])), (keys_, .inl (k_keys, 20000, .inr (.inl F_keys))), (predicates_, .inl (k_predicates, 20000, .inl F_predicates)), (slots_, .inl (k_slots, 32768, .inl F_slots))]) [0, 1, 4, 6] rfl
  have hDc := hD.sub (ws' := [(h0, .inr (3, [.int size_, .int highest_, .int full_, .ref keys_, .ref stages_, .ref amounts_, .ref predicates_, .ref next_, .ref slots_, .ref oldest_, .ref newest_, .ref known_, .ref knownBefore_, .int visible_])), (keys_, .inl (k_keys, 20000, .inr (.inl F_keys))), (predicates_, .inl (k_predicates, 20000, .inl F_predicates)), (slots_, .inl (k_slots, 32768, .inl F_slots))]) [0, 1, 4, 6] (by decide) rfl
  have hKc := hK.sub (tys' := [(k_keys, .long), (k_predicates, .int), (k_slots, .int)]) [0, 3, 5] rfl
  have hFc := va_free (wc := [(h0, .inr (3, [.int size_, .int highest_, .int full_, .ref keys_, .ref stages_, .ref amounts_, .ref predicates_, .ref next_, .ref slots_, .ref oldest_, .ref newest_, .ref known_, .ref knownBefore_, .int visible_])), (keys_, .inl (k_keys, 20000, .inr (.inl F_keys))), (predicates_, .inl (k_predicates, 20000, .inl F_predicates)), (slots_, .inl (k_slots, 32768, .inl F_slots))]) hD hS hA [0, 1, 4, 6] rfl
  refine va_calli (va_runV (As := [.int a0, .long a1]) (rest := []) ⟨hx, hb, hml, hown, hT⟩ (met_Fa_slotOf l dC dI h0 keys_ stages_ amounts_ predicates_ next_ slots_ oldest_ newest_ known_ knownBefore_ a0 a1 size_ highest_ full_ visible_ F_keys F_predicates F_slots k_keys k_predicates k_slots s.heap.size hw) (cwV 2 hT (gd_V wd_1058 wd_1060 sl_Fa_slotOf wd_8 wd_1061) rfl rfl rfl (by decide +kernel) ⟨Nat.le_of_ble_eq_true rfl, Nat.le_of_ble_eq_true rfl⟩) ⟨fun a U g mk q => by obtain ⟨q0, q1, qP, qK, qD⟩ := q; exact ⟨q0, q1, qP, va_K.moved (u := U) (U := U.calling g mk a) (Vm.Alike.refl U.vm) qK, qD⟩, va_recv hK hP (q0 := 0) (ci := 3) rfl rfl, fun U hU hW => ⟨rfl, by rw [hU], by rw [hU]; exact hPc, va_K.moved hW.alike hKc, hDc.weaken (fun _ _ _ _ => trivial)⟩⟩ rfl rfl hl.1 rfl (lv_room (Nat.le_of_ble_eq_true rfl)) dc_Fa_add_3 ⟨(Nat.le_of_ble_eq_true rfl), (Nat.le_of_ble_eq_true rfl)⟩) hS (fun q _ h => hFc q h) hFc (fun r1 _ t H1 locs ht hvm hw hB hz1 hk1 hS => ?_)
  obtain ⟨hP1, hK1, hD1⟩ := hB
  rw [ht] at hP1
  have hK1 := va_K.moved hvm.symm hK1
  obtain ⟨hP, hD⟩ := va_join (wr := [(stages_, .inl (k_stages, 20000, .inl F_stages)), (amounts_, .inl (k_amounts, 64, .inl F_amounts)), (next_, .inl (k_next, 20000, .inl F_next)), (oldest_, .inl (k_oldest, 64, .inl F_oldest)), (newest_, .inl (k_newest, 64, .inl F_newest))]) (w1 := [(h0, .inr (3, [.int size_, .int highest_, .int full_, .ref keys_, .ref stages_, .ref amounts_, .ref predicates_, .ref next_, .ref slots_, .ref oldest_, .ref newest_, .ref known_, .ref knownBefore_, .int visible_])), (keys_, .inl (k_keys, 20000, .inr (.inl F_keys))), (predicates_, .inl (k_predicates, 20000, .inl F_predicates)), (slots_, .inl (k_slots, 32768, .inl F_slots))]) hP hD [0, 1, 4, 6] [2, 3, 5, 7, 8] rfl rfl (by decide) (by decide) hk1 hFc hP1 hD1
  have hK := (hK.sub (tys' := [(k_stages, .int), (k_amounts, .int), (k_next, .int), (k_oldest, .int), (k_newest, .int)]) [1, 2, 4, 6, 7] rfl).app hK1
  generalize H1 = H at hP hS ⊢
  have hP : va_P (dC, dI) vwCl [(stages_, .inl (k_stages, 20000, .inl F_stages)), (amounts_, .inl (k_amounts, 64, .inl F_amounts)), (next_, .inl (k_next, 20000, .inl F_next)), (oldest_, .inl (k_oldest, 64, .inl F_oldest)), (newest_, .inl (k_newest, 64, .inl F_newest)), (h0, .inr (3, [.int size_, .int highest_, .int full_, .ref keys_, .ref stages_, .ref amounts_, .ref predicates_, .ref next_, .ref slots_, .ref oldest_, .ref newest_, .ref known_, .ref knownBefore_, .int visible_])), (keys_, .inl (k_keys, 20000, .inr (.inl F_keys))), (predicates_, .inl (k_predicates, 20000, .inl F_predicates)), (slots_, .inl (k_slots, 32768, .inl F_slots))] H := hP
  have hD : va_D A [(stages_, .inl (k_stages, 20000, .inl F_stages)), (amounts_, .inl (k_amounts, 64, .inl F_amounts)), (next_, .inl (k_next, 20000, .inl F_next)), (oldest_, .inl (k_oldest, 64, .inl F_oldest)), (newest_, .inl (k_newest, 64, .inl F_newest)), (h0, .inr (3, [.int size_, .int highest_, .int full_, .ref keys_, .ref stages_, .ref amounts_, .ref predicates_, .ref next_, .ref slots_, .ref oldest_, .ref newest_, .ref known_, .ref knownBefore_, .int visible_])), (keys_, .inl (k_keys, 20000, .inr (.inl F_keys))), (predicates_, .inl (k_predicates, 20000, .inl F_predicates)), (slots_, .inl (k_slots, 32768, .inl F_slots))] := hD
  have hK : va_K (dC, dI) vwCl [(k_stages, .int), (k_amounts, .int), (k_next, .int), (k_oldest, .int), (k_newest, .int), (k_keys, .long), (k_predicates, .int), (k_slots, .int)] s := hK
  refine lv_istore (lv' := [(5, .int r1), (0, .ref h0), (1, .int a0), (2, .long a1), (4, .int a2)]) hx hb dc_Fa_add_6 hl (by decide) rfl (fun ls hl => ?_)
  refine lv_aload_n hx hb dc_Fa_add_8 rfl (lv_at hl 1 rfl) ?_
  refine va_get (D := (dC, dI)) (ci := 3) (v := .ref slots_) (C := "StrataBase$Facts") (T := tb_Fa) (N := 14) hx hb hT in_Fa hown hK hP 5 rfl rfl 8 (by decide) (hT _ wd_305) (fun _ h9 => h9) rfl dc_Fa_add_9 ?_
  refine lv_iload hx hb dc_Fa_add_12 (lv_at hl 0 rfl) ?_
  obtain ⟨hv2, hw⟩ := hw
  refine va_iald hx hb hK hP 8 7 rfl rfl hv2 dc_Fa_add_14 ?_
  refine lv_topi (fun y3 ey3 => ?_)
  have hw := hw y3 ey3
  refine lv_if_eq (tgt := 19) hx hb dc_Fa_add_15 (by decide) (fun h15 => ?_) (fun h15 => ?_)
  · have hw := hw.1 h15
    refine lv_aload_n hx hb dc_Fa_add_19 rfl (lv_at hl 1 rfl) ?_
    refine va_get (D := (dC, dI)) (ci := 3) (v := .int size_) (C := "StrataBase$Facts") (T := tb_Fa) (N := 14) hx hb hT in_Fa hown hK hP 5 rfl rfl 0 (by decide) (hT _ wd_289) (fun _ h9 => h9) rfl dc_Fa_add_20 ?_
    refine lv_sipush (v := 20000) hx hb dc_Fa_add_23 (by decide) ?_
    refine lv_icmp_ne (tgt := 35) hx hb dc_Fa_add_26 (by decide) (fun h26 => ?_) (fun h26 => ?_)
    · have hw := hw.2 h26
      refine lv_aload_n hx hb dc_Fa_add_35 rfl (lv_at hl 1 rfl) ?_
      refine va_get (D := (dC, dI)) (ci := 3) (v := .ref slots_) (C := "StrataBase$Facts") (T := tb_Fa) (N := 14) hx hb hT in_Fa hown hK hP 5 rfl rfl 8 (by decide) (hT _ wd_305) (fun _ h9 => h9) rfl dc_Fa_add_36 ?_
      refine lv_iload hx hb dc_Fa_add_39 (lv_at hl 0 rfl) ?_
      refine lv_aload_n hx hb dc_Fa_add_41 rfl (lv_at hl 1 rfl) ?_
      refine va_get (D := (dC, dI)) (ci := 3) (v := .int size_) (C := "StrataBase$Facts") (T := tb_Fa) (N := 14) hx hb hT in_Fa hown hK hP 5 rfl rfl 0 (by decide) (hT _ wd_289) (fun _ h9 => h9) rfl dc_Fa_add_42 ?_
      refine lv_iconst (v := 1) hx hb dc_Fa_add_45 (by decide) ?_
      refine lv_iadd hx hb dc_Fa_add_46 ?_
      refine lv_topi (fun y4 ey4 => ?_)
      have hw := hw y4 ey4
      obtain ⟨hv5, hw⟩ := hw
      refine va_iast hx hb hK hP hD hS 8 7 rfl rfl hv5 dc_Fa_add_47 (fun H locs hP hD hS => ?_)
      have hP : va_P (dC, dI) vwCl [(stages_, .inl (k_stages, 20000, .inl F_stages)), (amounts_, .inl (k_amounts, 64, .inl F_amounts)), (next_, .inl (k_next, 20000, .inl F_next)), (oldest_, .inl (k_oldest, 64, .inl F_oldest)), (newest_, .inl (k_newest, 64, .inl F_newest)), (h0, .inr (3, [.int size_, .int highest_, .int full_, .ref keys_, .ref stages_, .ref amounts_, .ref predicates_, .ref next_, .ref slots_, .ref oldest_, .ref newest_, .ref known_, .ref knownBefore_, .int visible_])), (keys_, .inl (k_keys, 20000, .inr (.inl F_keys))), (predicates_, .inl (k_predicates, 20000, .inl F_predicates)), (slots_, .inl (k_slots, 32768, .inl (upd F_slots r1.toNatClampNeg y4)))] H := hP
      have hD : va_D A [(stages_, .inl (k_stages, 20000, .inl F_stages)), (amounts_, .inl (k_amounts, 64, .inl F_amounts)), (next_, .inl (k_next, 20000, .inl F_next)), (oldest_, .inl (k_oldest, 64, .inl F_oldest)), (newest_, .inl (k_newest, 64, .inl F_newest)), (h0, .inr (3, [.int size_, .int highest_, .int full_, .ref keys_, .ref stages_, .ref amounts_, .ref predicates_, .ref next_, .ref slots_, .ref oldest_, .ref newest_, .ref known_, .ref knownBefore_, .int visible_])), (keys_, .inl (k_keys, 20000, .inr (.inl F_keys))), (predicates_, .inl (k_predicates, 20000, .inl F_predicates)), (slots_, .inl (k_slots, 32768, .inl (upd F_slots r1.toNatClampNeg y4)))] := hD
      obtain ⟨g6, eg6⟩ : ∃ z9 : Nat → Int32, z9 = upd F_slots r1.toNatClampNeg y4 := ⟨_, rfl⟩
      rw [← eg6] at hP hD
      have hw := hw g6 eg6
      refine lv_aload_n hx hb dc_Fa_add_48 rfl (lv_at hl 1 rfl) ?_
      refine va_get (D := (dC, dI)) (ci := 3) (v := .ref keys_) (C := "StrataBase$Facts") (T := tb_Fa) (N := 14) hx hb hT in_Fa hown hK hP 5 rfl rfl 3 (by decide) (hT _ wd_297) (fun _ h9 => h9) rfl dc_Fa_add_49 ?_
      refine lv_aload_n hx hb dc_Fa_add_52 rfl (lv_at hl 1 rfl) ?_
      refine va_get (D := (dC, dI)) (ci := 3) (v := .int size_) (C := "StrataBase$Facts") (T := tb_Fa) (N := 14) hx hb hT in_Fa hown hK hP 5 rfl rfl 0 (by decide) (hT _ wd_289) (fun _ h9 => h9) rfl dc_Fa_add_53 ?_
      refine lv_lload_n hx hb dc_Fa_add_56 rfl (lv_at hl 3 rfl) ?_
      obtain ⟨hv7, hw⟩ := hw
      refine va_last hx hb hK hP hD hS 6 5 rfl rfl hv7 dc_Fa_add_57 (fun H locs hP hD hS => ?_)
      have hP : va_P (dC, dI) vwCl [(stages_, .inl (k_stages, 20000, .inl F_stages)), (amounts_, .inl (k_amounts, 64, .inl F_amounts)), (next_, .inl (k_next, 20000, .inl F_next)), (oldest_, .inl (k_oldest, 64, .inl F_oldest)), (newest_, .inl (k_newest, 64, .inl F_newest)), (h0, .inr (3, [.int size_, .int highest_, .int full_, .ref keys_, .ref stages_, .ref amounts_, .ref predicates_, .ref next_, .ref slots_, .ref oldest_, .ref newest_, .ref known_, .ref knownBefore_, .int visible_])), (keys_, .inl (k_keys, 20000, .inr (.inl (vp_updL F_keys size_.toNatClampNeg a1)))), (predicates_, .inl (k_predicates, 20000, .inl F_predicates)), (slots_, .inl (k_slots, 32768, .inl g6))] H := hP
      have hD : va_D A [(stages_, .inl (k_stages, 20000, .inl F_stages)), (amounts_, .inl (k_amounts, 64, .inl F_amounts)), (next_, .inl (k_next, 20000, .inl F_next)), (oldest_, .inl (k_oldest, 64, .inl F_oldest)), (newest_, .inl (k_newest, 64, .inl F_newest)), (h0, .inr (3, [.int size_, .int highest_, .int full_, .ref keys_, .ref stages_, .ref amounts_, .ref predicates_, .ref next_, .ref slots_, .ref oldest_, .ref newest_, .ref known_, .ref knownBefore_, .int visible_])), (keys_, .inl (k_keys, 20000, .inr (.inl (vp_updL F_keys size_.toNatClampNeg a1)))), (predicates_, .inl (k_predicates, 20000, .inl F_predicates)), (slots_, .inl (k_slots, 32768, .inl g6))] := hD
      obtain ⟨g8, eg8⟩ : ∃ z9 : Nat → Int64, z9 = vp_updL F_keys size_.toNatClampNeg a1 := ⟨_, rfl⟩
      rw [← eg8] at hP hD
      have hw := hw g8 eg8
      refine lv_aload_n hx hb dc_Fa_add_58 rfl (lv_at hl 1 rfl) ?_
      refine va_get (D := (dC, dI)) (ci := 3) (v := .ref predicates_) (C := "StrataBase$Facts") (T := tb_Fa) (N := 14) hx hb hT in_Fa hown hK hP 5 rfl rfl 6 (by decide) (hT _ wd_303) (fun _ h9 => h9) rfl dc_Fa_add_59 ?_
      refine lv_aload_n hx hb dc_Fa_add_62 rfl (lv_at hl 1 rfl) ?_
      refine va_get (D := (dC, dI)) (ci := 3) (v := .int size_) (C := "StrataBase$Facts") (T := tb_Fa) (N := 14) hx hb hT in_Fa hown hK hP 5 rfl rfl 0 (by decide) (hT _ wd_289) (fun _ h9 => h9) rfl dc_Fa_add_63 ?_
      refine lv_iload_n hx hb dc_Fa_add_66 rfl (lv_at hl 2 rfl) ?_
      obtain ⟨hv9, hw⟩ := hw
      refine va_iast hx hb hK hP hD hS 7 6 rfl rfl hv9 dc_Fa_add_67 (fun H locs hP hD hS => ?_)
      have hP : va_P (dC, dI) vwCl [(stages_, .inl (k_stages, 20000, .inl F_stages)), (amounts_, .inl (k_amounts, 64, .inl F_amounts)), (next_, .inl (k_next, 20000, .inl F_next)), (oldest_, .inl (k_oldest, 64, .inl F_oldest)), (newest_, .inl (k_newest, 64, .inl F_newest)), (h0, .inr (3, [.int size_, .int highest_, .int full_, .ref keys_, .ref stages_, .ref amounts_, .ref predicates_, .ref next_, .ref slots_, .ref oldest_, .ref newest_, .ref known_, .ref knownBefore_, .int visible_])), (keys_, .inl (k_keys, 20000, .inr (.inl g8))), (predicates_, .inl (k_predicates, 20000, .inl (upd F_predicates size_.toNatClampNeg a0))), (slots_, .inl (k_slots, 32768, .inl g6))] H := hP
      have hD : va_D A [(stages_, .inl (k_stages, 20000, .inl F_stages)), (amounts_, .inl (k_amounts, 64, .inl F_amounts)), (next_, .inl (k_next, 20000, .inl F_next)), (oldest_, .inl (k_oldest, 64, .inl F_oldest)), (newest_, .inl (k_newest, 64, .inl F_newest)), (h0, .inr (3, [.int size_, .int highest_, .int full_, .ref keys_, .ref stages_, .ref amounts_, .ref predicates_, .ref next_, .ref slots_, .ref oldest_, .ref newest_, .ref known_, .ref knownBefore_, .int visible_])), (keys_, .inl (k_keys, 20000, .inr (.inl g8))), (predicates_, .inl (k_predicates, 20000, .inl (upd F_predicates size_.toNatClampNeg a0))), (slots_, .inl (k_slots, 32768, .inl g6))] := hD
      obtain ⟨g10, eg10⟩ : ∃ z9 : Nat → Int32, z9 = upd F_predicates size_.toNatClampNeg a0 := ⟨_, rfl⟩
      rw [← eg10] at hP hD
      have hw := hw g10 eg10
      refine lv_aload_n hx hb dc_Fa_add_68 rfl (lv_at hl 1 rfl) ?_
      refine va_get (D := (dC, dI)) (ci := 3) (v := .ref stages_) (C := "StrataBase$Facts") (T := tb_Fa) (N := 14) hx hb hT in_Fa hown hK hP 5 rfl rfl 4 (by decide) (hT _ wd_299) (fun _ h9 => h9) rfl dc_Fa_add_69 ?_
      refine lv_aload_n hx hb dc_Fa_add_72 rfl (lv_at hl 1 rfl) ?_
      refine va_get (D := (dC, dI)) (ci := 3) (v := .int size_) (C := "StrataBase$Facts") (T := tb_Fa) (N := 14) hx hb hT in_Fa hown hK hP 5 rfl rfl 0 (by decide) (hT _ wd_289) (fun _ h9 => h9) rfl dc_Fa_add_73 ?_
      refine lv_iload hx hb dc_Fa_add_76 (lv_at hl 4 rfl) ?_
      obtain ⟨hv11, hw⟩ := hw
      refine va_iast hx hb hK hP hD hS 0 0 rfl rfl hv11 dc_Fa_add_78 (fun H locs hP hD hS => ?_)
      have hP : va_P (dC, dI) vwCl [(stages_, .inl (k_stages, 20000, .inl (upd F_stages size_.toNatClampNeg a2))), (amounts_, .inl (k_amounts, 64, .inl F_amounts)), (next_, .inl (k_next, 20000, .inl F_next)), (oldest_, .inl (k_oldest, 64, .inl F_oldest)), (newest_, .inl (k_newest, 64, .inl F_newest)), (h0, .inr (3, [.int size_, .int highest_, .int full_, .ref keys_, .ref stages_, .ref amounts_, .ref predicates_, .ref next_, .ref slots_, .ref oldest_, .ref newest_, .ref known_, .ref knownBefore_, .int visible_])), (keys_, .inl (k_keys, 20000, .inr (.inl g8))), (predicates_, .inl (k_predicates, 20000, .inl g10)), (slots_, .inl (k_slots, 32768, .inl g6))] H := hP
      have hD : va_D A [(stages_, .inl (k_stages, 20000, .inl (upd F_stages size_.toNatClampNeg a2))), (amounts_, .inl (k_amounts, 64, .inl F_amounts)), (next_, .inl (k_next, 20000, .inl F_next)), (oldest_, .inl (k_oldest, 64, .inl F_oldest)), (newest_, .inl (k_newest, 64, .inl F_newest)), (h0, .inr (3, [.int size_, .int highest_, .int full_, .ref keys_, .ref stages_, .ref amounts_, .ref predicates_, .ref next_, .ref slots_, .ref oldest_, .ref newest_, .ref known_, .ref knownBefore_, .int visible_])), (keys_, .inl (k_keys, 20000, .inr (.inl g8))), (predicates_, .inl (k_predicates, 20000, .inl g10)), (slots_, .inl (k_slots, 32768, .inl g6))] := hD
      obtain ⟨g12, eg12⟩ : ∃ z9 : Nat → Int32, z9 = upd F_stages size_.toNatClampNeg a2 := ⟨_, rfl⟩
      rw [← eg12] at hP hD
      have hw := hw g12 eg12
      refine lv_aload_n hx hb dc_Fa_add_79 rfl (lv_at hl 1 rfl) ?_
      refine va_get (D := (dC, dI)) (ci := 3) (v := .ref next_) (C := "StrataBase$Facts") (T := tb_Fa) (N := 14) hx hb hT in_Fa hown hK hP 5 rfl rfl 7 (by decide) (hT _ wd_304) (fun _ h9 => h9) rfl dc_Fa_add_80 ?_
      refine lv_aload_n hx hb dc_Fa_add_83 rfl (lv_at hl 1 rfl) ?_
      refine va_get (D := (dC, dI)) (ci := 3) (v := .int size_) (C := "StrataBase$Facts") (T := tb_Fa) (N := 14) hx hb hT in_Fa hown hK hP 5 rfl rfl 0 (by decide) (hT _ wd_289) (fun _ h9 => h9) rfl dc_Fa_add_84 ?_
      refine lv_iconst (v := (-1)) hx hb dc_Fa_add_87 (by decide) ?_
      obtain ⟨hv13, hw⟩ := hw
      refine va_iast hx hb hK hP hD hS 2 2 rfl rfl hv13 dc_Fa_add_88 (fun H locs hP hD hS => ?_)
      have hP : va_P (dC, dI) vwCl [(stages_, .inl (k_stages, 20000, .inl g12)), (amounts_, .inl (k_amounts, 64, .inl F_amounts)), (next_, .inl (k_next, 20000, .inl (upd F_next size_.toNatClampNeg ((-1) : Int32)))), (oldest_, .inl (k_oldest, 64, .inl F_oldest)), (newest_, .inl (k_newest, 64, .inl F_newest)), (h0, .inr (3, [.int size_, .int highest_, .int full_, .ref keys_, .ref stages_, .ref amounts_, .ref predicates_, .ref next_, .ref slots_, .ref oldest_, .ref newest_, .ref known_, .ref knownBefore_, .int visible_])), (keys_, .inl (k_keys, 20000, .inr (.inl g8))), (predicates_, .inl (k_predicates, 20000, .inl g10)), (slots_, .inl (k_slots, 32768, .inl g6))] H := hP
      have hD : va_D A [(stages_, .inl (k_stages, 20000, .inl g12)), (amounts_, .inl (k_amounts, 64, .inl F_amounts)), (next_, .inl (k_next, 20000, .inl (upd F_next size_.toNatClampNeg ((-1) : Int32)))), (oldest_, .inl (k_oldest, 64, .inl F_oldest)), (newest_, .inl (k_newest, 64, .inl F_newest)), (h0, .inr (3, [.int size_, .int highest_, .int full_, .ref keys_, .ref stages_, .ref amounts_, .ref predicates_, .ref next_, .ref slots_, .ref oldest_, .ref newest_, .ref known_, .ref knownBefore_, .int visible_])), (keys_, .inl (k_keys, 20000, .inr (.inl g8))), (predicates_, .inl (k_predicates, 20000, .inl g10)), (slots_, .inl (k_slots, 32768, .inl g6))] := hD
      obtain ⟨g14, eg14⟩ : ∃ z9 : Nat → Int32, z9 = upd F_next size_.toNatClampNeg ((-1) : Int32) := ⟨_, rfl⟩
      rw [← eg14] at hP hD
      have hw := hw g14 eg14
      refine lv_aload_n hx hb dc_Fa_add_89 rfl (lv_at hl 1 rfl) ?_
      refine lv_aload_n hx hb dc_Fa_add_90 rfl (lv_at hl 1 rfl) ?_
      refine va_get (D := (dC, dI)) (ci := 3) (v := .int highest_) (C := "StrataBase$Facts") (T := tb_Fa) (N := 14) hx hb hT in_Fa hown hK hP 5 rfl rfl 1 (by decide) (hT _ wd_292) (fun _ h9 => h9) rfl dc_Fa_add_91 ?_
      refine lv_iload hx hb dc_Fa_add_94 (lv_at hl 4 rfl) ?_
      refine va_mmax hx hb (by rw [hml]; exact hl.1.symm) hown (hT _ wd_1064) (hT _ wd_692) (hT _ wd_20) (hT _ wd_693) (Nat.le_of_ble_eq_true rfl) (Nat.le_of_ble_eq_true rfl) (Nat.le_of_ble_eq_true rfl) (Nat.le_of_ble_eq_true rfl) dc_Fa_add_96 ?_
      refine lv_topi (fun y15 ey15 => ?_)
      have hw := hw y15 ey15
      refine va_put (D := (dC, dI)) (ci := 3) (v := .int y15) (ty := .int) (C := "StrataBase$Facts") (T := tb_Fa) (N := 14) hx hb hT in_Fa ty_Fa tk_Fa nm_Fa hown hK hP hD hS 5 rfl rfl 1 (by decide) (hT _ wd_292) (fun _ h9 => h9) rfl (by decide +kernel) rfl rfl (Nat.le_of_ble_eq_true rfl) dc_Fa_add_99 (fun H locs hP hD hS => ?_)
      have hP : va_P (dC, dI) vwCl [(stages_, .inl (k_stages, 20000, .inl g12)), (amounts_, .inl (k_amounts, 64, .inl F_amounts)), (next_, .inl (k_next, 20000, .inl g14)), (oldest_, .inl (k_oldest, 64, .inl F_oldest)), (newest_, .inl (k_newest, 64, .inl F_newest)), (h0, .inr (3, [.int size_, .int y15, .int full_, .ref keys_, .ref stages_, .ref amounts_, .ref predicates_, .ref next_, .ref slots_, .ref oldest_, .ref newest_, .ref known_, .ref knownBefore_, .int visible_])), (keys_, .inl (k_keys, 20000, .inr (.inl g8))), (predicates_, .inl (k_predicates, 20000, .inl g10)), (slots_, .inl (k_slots, 32768, .inl g6))] H := hP
      have hD : va_D A [(stages_, .inl (k_stages, 20000, .inl g12)), (amounts_, .inl (k_amounts, 64, .inl F_amounts)), (next_, .inl (k_next, 20000, .inl g14)), (oldest_, .inl (k_oldest, 64, .inl F_oldest)), (newest_, .inl (k_newest, 64, .inl F_newest)), (h0, .inr (3, [.int size_, .int y15, .int full_, .ref keys_, .ref stages_, .ref amounts_, .ref predicates_, .ref next_, .ref slots_, .ref oldest_, .ref newest_, .ref known_, .ref knownBefore_, .int visible_])), (keys_, .inl (k_keys, 20000, .inr (.inl g8))), (predicates_, .inl (k_predicates, 20000, .inl g10)), (slots_, .inl (k_slots, 32768, .inl g6))] := hD
      refine lv_aload_n hx hb dc_Fa_add_102 rfl (lv_at hl 1 rfl) ?_
      refine va_get (D := (dC, dI)) (ci := 3) (v := .ref newest_) (C := "StrataBase$Facts") (T := tb_Fa) (N := 14) hx hb hT in_Fa hown hK hP 5 rfl rfl 10 (by decide) (hT _ wd_307) (fun _ h9 => h9) rfl dc_Fa_add_103 ?_
      refine lv_iload_n hx hb dc_Fa_add_106 rfl (lv_at hl 2 rfl) ?_
      obtain ⟨hv16, hw⟩ := hw
      refine va_iald hx hb hK hP 4 4 rfl rfl hv16 dc_Fa_add_107 ?_
      refine lv_topi (fun y17 ey17 => ?_)
      have hw := hw y17 ey17
      refine lv_iconst (v := (-1)) hx hb dc_Fa_add_108 (by decide) ?_
      refine jn_st (σ := (Nat → Int32) × (Nat → Int32)) (pc2 := 140) (fun x9 => jw_met_Fa_add_140 post a0 F_newest size_ F_amounts y15 full_ g8 g12 g10 g6 x9) (fun x9 => match x9 with | (v25, v26) => []) (fun x9 H locs ls => match x9 with | (v25, v26) => va_K (dC, dI) vwCl [(k_keys, .long), (k_stages, .int), (k_amounts, .int), (k_predicates, .int), (k_next, .int), (k_slots, .int), (k_oldest, .int), (k_newest, .int)] s ∧ va_P (dC, dI) vwCl [(h0, .inr (3, [.int size_, .int y15, .int full_, .ref keys_, .ref stages_, .ref amounts_, .ref predicates_, .ref next_, .ref slots_, .ref oldest_, .ref newest_, .ref known_, .ref knownBefore_, .int visible_])), (keys_, .inl (k_keys, 20000, .inr (.inl g8))), (stages_, .inl (k_stages, 20000, .inl g12)), (amounts_, .inl (k_amounts, 64, .inl F_amounts)), (predicates_, .inl (k_predicates, 20000, .inl g10)), (next_, .inl (k_next, 20000, .inl v25)), (slots_, .inl (k_slots, 32768, .inl g6)), (oldest_, .inl (k_oldest, 64, .inl v26)), (newest_, .inl (k_newest, 64, .inl F_newest))] H ∧ va_D A [(h0, .inr (3, [.int size_, .int y15, .int full_, .ref keys_, .ref stages_, .ref amounts_, .ref predicates_, .ref next_, .ref slots_, .ref oldest_, .ref newest_, .ref known_, .ref knownBefore_, .int visible_])), (keys_, .inl (k_keys, 20000, .inr (.inl g8))), (stages_, .inl (k_stages, 20000, .inl g12)), (amounts_, .inl (k_amounts, 64, .inl F_amounts)), (predicates_, .inl (k_predicates, 20000, .inl g10)), (next_, .inl (k_next, 20000, .inl v25)), (slots_, .inl (k_slots, 32768, .inl g6)), (oldest_, .inl (k_oldest, 64, .inl v26)), (newest_, .inl (k_newest, 64, .inl F_newest))] ∧ va_S A s.heap H locs ∧ lv_has ls 6 [(0, .ref h0), (1, .int a0)]) ?_ (fun k18 => ?_)
      rotate_left
      · refine lv_icmp_ne (tgt := 125) hx hb dc_Fa_add_109 (by decide) (fun h109 => ?_) (fun h109 => ?_)
        · have hw := hw.2 h109
          refine lv_aload_n hx hb dc_Fa_add_125 rfl (lv_at hl 1 rfl) ?_
          refine va_get (D := (dC, dI)) (ci := 3) (v := .ref next_) (C := "StrataBase$Facts") (T := tb_Fa) (N := 14) hx hb hT in_Fa hown hK hP 5 rfl rfl 7 (by decide) (hT _ wd_304) (fun _ h9 => h9) rfl dc_Fa_add_126 ?_
          refine lv_aload_n hx hb dc_Fa_add_129 rfl (lv_at hl 1 rfl) ?_
          refine va_get (D := (dC, dI)) (ci := 3) (v := .ref newest_) (C := "StrataBase$Facts") (T := tb_Fa) (N := 14) hx hb hT in_Fa hown hK hP 5 rfl rfl 10 (by decide) (hT _ wd_307) (fun _ h9 => h9) rfl dc_Fa_add_130 ?_
          refine lv_iload_n hx hb dc_Fa_add_133 rfl (lv_at hl 2 rfl) ?_
          obtain ⟨hv19, hw⟩ := hw
          refine va_iald hx hb hK hP 4 4 rfl rfl hv19 dc_Fa_add_134 ?_
          refine lv_topi (fun y20 ey20 => ?_)
          have hw := hw y20 ey20
          refine lv_aload_n hx hb dc_Fa_add_135 rfl (lv_at hl 1 rfl) ?_
          refine va_get (D := (dC, dI)) (ci := 3) (v := .int size_) (C := "StrataBase$Facts") (T := tb_Fa) (N := 14) hx hb hT in_Fa hown hK hP 5 rfl rfl 0 (by decide) (hT _ wd_289) (fun _ h9 => h9) rfl dc_Fa_add_136 ?_
          obtain ⟨hv21, hw⟩ := hw
          refine va_iast hx hb hK hP hD hS 2 2 rfl rfl hv21 dc_Fa_add_139 (fun H locs hP hD hS => ?_)
          have hP : va_P (dC, dI) vwCl [(stages_, .inl (k_stages, 20000, .inl g12)), (amounts_, .inl (k_amounts, 64, .inl F_amounts)), (next_, .inl (k_next, 20000, .inl (upd g14 y20.toNatClampNeg size_))), (oldest_, .inl (k_oldest, 64, .inl F_oldest)), (newest_, .inl (k_newest, 64, .inl F_newest)), (h0, .inr (3, [.int size_, .int y15, .int full_, .ref keys_, .ref stages_, .ref amounts_, .ref predicates_, .ref next_, .ref slots_, .ref oldest_, .ref newest_, .ref known_, .ref knownBefore_, .int visible_])), (keys_, .inl (k_keys, 20000, .inr (.inl g8))), (predicates_, .inl (k_predicates, 20000, .inl g10)), (slots_, .inl (k_slots, 32768, .inl g6))] H := hP
          have hD : va_D A [(stages_, .inl (k_stages, 20000, .inl g12)), (amounts_, .inl (k_amounts, 64, .inl F_amounts)), (next_, .inl (k_next, 20000, .inl (upd g14 y20.toNatClampNeg size_))), (oldest_, .inl (k_oldest, 64, .inl F_oldest)), (newest_, .inl (k_newest, 64, .inl F_newest)), (h0, .inr (3, [.int size_, .int y15, .int full_, .ref keys_, .ref stages_, .ref amounts_, .ref predicates_, .ref next_, .ref slots_, .ref oldest_, .ref newest_, .ref known_, .ref knownBefore_, .int visible_])), (keys_, .inl (k_keys, 20000, .inr (.inl g8))), (predicates_, .inl (k_predicates, 20000, .inl g10)), (slots_, .inl (k_slots, 32768, .inl g6))] := hD
          obtain ⟨g22, eg22⟩ : ∃ z9 : Nat → Int32, z9 = upd g14 y20.toNatClampNeg size_ := ⟨_, rfl⟩
          rw [← eg22] at hP hD
          have hw := hw g22 eg22
          exact k18 (g22, F_oldest) hw _ _ _ ⟨hK.sub [5, 0, 1, 6, 2, 7, 3, 4] rfl, hP.sub [5, 6, 0, 1, 7, 2, 8, 3, 4] rfl, hD.sub [5, 6, 0, 1, 7, 2, 8, 3, 4] (by decide) rfl, hS, lv_sub hl [1, 2] rfl⟩
        · have hw := hw.1 h109
          refine lv_aload_n hx hb dc_Fa_add_112 rfl (lv_at hl 1 rfl) ?_
          refine va_get (D := (dC, dI)) (ci := 3) (v := .ref oldest_) (C := "StrataBase$Facts") (T := tb_Fa) (N := 14) hx hb hT in_Fa hown hK hP 5 rfl rfl 9 (by decide) (hT _ wd_306) (fun _ h9 => h9) rfl dc_Fa_add_113 ?_
          refine lv_iload_n hx hb dc_Fa_add_116 rfl (lv_at hl 2 rfl) ?_
          refine lv_aload_n hx hb dc_Fa_add_117 rfl (lv_at hl 1 rfl) ?_
          refine va_get (D := (dC, dI)) (ci := 3) (v := .int size_) (C := "StrataBase$Facts") (T := tb_Fa) (N := 14) hx hb hT in_Fa hown hK hP 5 rfl rfl 0 (by decide) (hT _ wd_289) (fun _ h9 => h9) rfl dc_Fa_add_118 ?_
          obtain ⟨hv23, hw⟩ := hw
          refine va_iast hx hb hK hP hD hS 3 3 rfl rfl hv23 dc_Fa_add_121 (fun H locs hP hD hS => ?_)
          have hP : va_P (dC, dI) vwCl [(stages_, .inl (k_stages, 20000, .inl g12)), (amounts_, .inl (k_amounts, 64, .inl F_amounts)), (next_, .inl (k_next, 20000, .inl g14)), (oldest_, .inl (k_oldest, 64, .inl (upd F_oldest a0.toNatClampNeg size_))), (newest_, .inl (k_newest, 64, .inl F_newest)), (h0, .inr (3, [.int size_, .int y15, .int full_, .ref keys_, .ref stages_, .ref amounts_, .ref predicates_, .ref next_, .ref slots_, .ref oldest_, .ref newest_, .ref known_, .ref knownBefore_, .int visible_])), (keys_, .inl (k_keys, 20000, .inr (.inl g8))), (predicates_, .inl (k_predicates, 20000, .inl g10)), (slots_, .inl (k_slots, 32768, .inl g6))] H := hP
          have hD : va_D A [(stages_, .inl (k_stages, 20000, .inl g12)), (amounts_, .inl (k_amounts, 64, .inl F_amounts)), (next_, .inl (k_next, 20000, .inl g14)), (oldest_, .inl (k_oldest, 64, .inl (upd F_oldest a0.toNatClampNeg size_))), (newest_, .inl (k_newest, 64, .inl F_newest)), (h0, .inr (3, [.int size_, .int y15, .int full_, .ref keys_, .ref stages_, .ref amounts_, .ref predicates_, .ref next_, .ref slots_, .ref oldest_, .ref newest_, .ref known_, .ref knownBefore_, .int visible_])), (keys_, .inl (k_keys, 20000, .inr (.inl g8))), (predicates_, .inl (k_predicates, 20000, .inl g10)), (slots_, .inl (k_slots, 32768, .inl g6))] := hD
          obtain ⟨g24, eg24⟩ : ∃ z9 : Nat → Int32, z9 = upd F_oldest a0.toNatClampNeg size_ := ⟨_, rfl⟩
          rw [← eg24] at hP hD
          have hw := hw g24 eg24
          refine lv_goto (tgt := 140) hx hb dc_Fa_add_122 (by decide) ?_
          exact k18 (g14, g24) hw _ _ _ ⟨hK.sub [5, 0, 1, 6, 2, 7, 3, 4] rfl, hP.sub [5, 6, 0, 1, 7, 2, 8, 3, 4] rfl, hD.sub [5, 6, 0, 1, 7, 2, 8, 3, 4] (by decide) rfl, hS, lv_sub hl [1, 2] rfl⟩
      intro x9 hw H locs ls hI
      obtain ⟨v25, v26⟩ := x9
      obtain ⟨hK, hP, hD, hS, hl⟩ := hI
      unfold jw_met_Fa_add_140 at hw
      refine W.eq (g2 := F0 m 140 ls []) rfl ?_
      refine lv_aload_n hx hb dc_Fa_add_140 rfl (lv_at hl 0 rfl) ?_
      refine va_get (D := (dC, dI)) (ci := 3) (v := .ref newest_) (C := "StrataBase$Facts") (T := tb_Fa) (N := 14) hx hb hT in_Fa hown hK hP 0 rfl rfl 10 (by decide) (hT _ wd_307) (fun _ h9 => h9) rfl dc_Fa_add_141 ?_
      refine lv_iload_n hx hb dc_Fa_add_144 rfl (lv_at hl 1 rfl) ?_
      refine lv_aload_n hx hb dc_Fa_add_145 rfl (lv_at hl 0 rfl) ?_
      refine va_get (D := (dC, dI)) (ci := 3) (v := .int size_) (C := "StrataBase$Facts") (T := tb_Fa) (N := 14) hx hb hT in_Fa hown hK hP 0 rfl rfl 0 (by decide) (hT _ wd_289) (fun _ h9 => h9) rfl dc_Fa_add_146 ?_
      obtain ⟨hv27, hw⟩ := hw
      refine va_iast hx hb hK hP hD hS 8 7 rfl rfl hv27 dc_Fa_add_149 (fun H locs hP hD hS => ?_)
      have hP : va_P (dC, dI) vwCl [(h0, .inr (3, [.int size_, .int y15, .int full_, .ref keys_, .ref stages_, .ref amounts_, .ref predicates_, .ref next_, .ref slots_, .ref oldest_, .ref newest_, .ref known_, .ref knownBefore_, .int visible_])), (keys_, .inl (k_keys, 20000, .inr (.inl g8))), (stages_, .inl (k_stages, 20000, .inl g12)), (amounts_, .inl (k_amounts, 64, .inl F_amounts)), (predicates_, .inl (k_predicates, 20000, .inl g10)), (next_, .inl (k_next, 20000, .inl v25)), (slots_, .inl (k_slots, 32768, .inl g6)), (oldest_, .inl (k_oldest, 64, .inl v26)), (newest_, .inl (k_newest, 64, .inl (upd F_newest a0.toNatClampNeg size_)))] H := hP
      have hD : va_D A [(h0, .inr (3, [.int size_, .int y15, .int full_, .ref keys_, .ref stages_, .ref amounts_, .ref predicates_, .ref next_, .ref slots_, .ref oldest_, .ref newest_, .ref known_, .ref knownBefore_, .int visible_])), (keys_, .inl (k_keys, 20000, .inr (.inl g8))), (stages_, .inl (k_stages, 20000, .inl g12)), (amounts_, .inl (k_amounts, 64, .inl F_amounts)), (predicates_, .inl (k_predicates, 20000, .inl g10)), (next_, .inl (k_next, 20000, .inl v25)), (slots_, .inl (k_slots, 32768, .inl g6)), (oldest_, .inl (k_oldest, 64, .inl v26)), (newest_, .inl (k_newest, 64, .inl (upd F_newest a0.toNatClampNeg size_)))] := hD
      obtain ⟨g28, eg28⟩ : ∃ z9 : Nat → Int32, z9 = upd F_newest a0.toNatClampNeg size_ := ⟨_, rfl⟩
      rw [← eg28] at hP hD
      have hw := hw g28 eg28
      refine lv_aload_n hx hb dc_Fa_add_150 rfl (lv_at hl 0 rfl) ?_
      refine va_get (D := (dC, dI)) (ci := 3) (v := .ref amounts_) (C := "StrataBase$Facts") (T := tb_Fa) (N := 14) hx hb hT in_Fa hown hK hP 0 rfl rfl 5 (by decide) (hT _ wd_301) (fun _ h9 => h9) rfl dc_Fa_add_151 ?_
      refine lv_iload_n hx hb dc_Fa_add_154 rfl (lv_at hl 1 rfl) ?_
      refine lv_dup2_11 hx hb dc_Fa_add_155 rfl rfl ?_
      obtain ⟨hv29, hw⟩ := hw
      refine va_iald hx hb hK hP 3 2 rfl rfl hv29 dc_Fa_add_156 ?_
      refine lv_topi (fun y30 ey30 => ?_)
      have hw := hw y30 ey30
      refine lv_iconst (v := 1) hx hb dc_Fa_add_157 (by decide) ?_
      refine lv_iadd hx hb dc_Fa_add_158 ?_
      refine lv_topi (fun y31 ey31 => ?_)
      have hw := hw y31 ey31
      obtain ⟨hv32, hw⟩ := hw
      refine va_iast hx hb hK hP hD hS 3 2 rfl rfl hv32 dc_Fa_add_159 (fun H locs hP hD hS => ?_)
      have hP : va_P (dC, dI) vwCl [(h0, .inr (3, [.int size_, .int y15, .int full_, .ref keys_, .ref stages_, .ref amounts_, .ref predicates_, .ref next_, .ref slots_, .ref oldest_, .ref newest_, .ref known_, .ref knownBefore_, .int visible_])), (keys_, .inl (k_keys, 20000, .inr (.inl g8))), (stages_, .inl (k_stages, 20000, .inl g12)), (amounts_, .inl (k_amounts, 64, .inl (upd F_amounts a0.toNatClampNeg y31))), (predicates_, .inl (k_predicates, 20000, .inl g10)), (next_, .inl (k_next, 20000, .inl v25)), (slots_, .inl (k_slots, 32768, .inl g6)), (oldest_, .inl (k_oldest, 64, .inl v26)), (newest_, .inl (k_newest, 64, .inl g28))] H := hP
      have hD : va_D A [(h0, .inr (3, [.int size_, .int y15, .int full_, .ref keys_, .ref stages_, .ref amounts_, .ref predicates_, .ref next_, .ref slots_, .ref oldest_, .ref newest_, .ref known_, .ref knownBefore_, .int visible_])), (keys_, .inl (k_keys, 20000, .inr (.inl g8))), (stages_, .inl (k_stages, 20000, .inl g12)), (amounts_, .inl (k_amounts, 64, .inl (upd F_amounts a0.toNatClampNeg y31))), (predicates_, .inl (k_predicates, 20000, .inl g10)), (next_, .inl (k_next, 20000, .inl v25)), (slots_, .inl (k_slots, 32768, .inl g6)), (oldest_, .inl (k_oldest, 64, .inl v26)), (newest_, .inl (k_newest, 64, .inl g28))] := hD
      obtain ⟨g33, eg33⟩ : ∃ z9 : Nat → Int32, z9 = upd F_amounts a0.toNatClampNeg y31 := ⟨_, rfl⟩
      rw [← eg33] at hP hD
      have hw := hw g33 eg33
      refine lv_aload_n hx hb dc_Fa_add_160 rfl (lv_at hl 0 rfl) ?_
      refine lv_dup hx hb dc_Fa_add_161 rfl ?_
      refine va_get (D := (dC, dI)) (ci := 3) (v := .int size_) (C := "StrataBase$Facts") (T := tb_Fa) (N := 14) hx hb hT in_Fa hown hK hP 0 rfl rfl 0 (by decide) (hT _ wd_289) (fun _ h9 => h9) rfl dc_Fa_add_162 ?_
      refine lv_iconst (v := 1) hx hb dc_Fa_add_165 (by decide) ?_
      refine lv_iadd hx hb dc_Fa_add_166 ?_
      refine lv_topi (fun y34 ey34 => ?_)
      have hw := hw y34 ey34
      refine va_put (D := (dC, dI)) (ci := 3) (v := .int y34) (ty := .int) (C := "StrataBase$Facts") (T := tb_Fa) (N := 14) hx hb hT in_Fa ty_Fa tk_Fa nm_Fa hown hK hP hD hS 0 rfl rfl 0 (by decide) (hT _ wd_289) (fun _ h9 => h9) rfl (by decide +kernel) rfl rfl (Nat.le_of_ble_eq_true rfl) dc_Fa_add_167 (fun H locs hP hD hS => ?_)
      have hP : va_P (dC, dI) vwCl [(h0, .inr (3, [.int y34, .int y15, .int full_, .ref keys_, .ref stages_, .ref amounts_, .ref predicates_, .ref next_, .ref slots_, .ref oldest_, .ref newest_, .ref known_, .ref knownBefore_, .int visible_])), (keys_, .inl (k_keys, 20000, .inr (.inl g8))), (stages_, .inl (k_stages, 20000, .inl g12)), (amounts_, .inl (k_amounts, 64, .inl g33)), (predicates_, .inl (k_predicates, 20000, .inl g10)), (next_, .inl (k_next, 20000, .inl v25)), (slots_, .inl (k_slots, 32768, .inl g6)), (oldest_, .inl (k_oldest, 64, .inl v26)), (newest_, .inl (k_newest, 64, .inl g28))] H := hP
      have hD : va_D A [(h0, .inr (3, [.int y34, .int y15, .int full_, .ref keys_, .ref stages_, .ref amounts_, .ref predicates_, .ref next_, .ref slots_, .ref oldest_, .ref newest_, .ref known_, .ref knownBefore_, .int visible_])), (keys_, .inl (k_keys, 20000, .inr (.inl g8))), (stages_, .inl (k_stages, 20000, .inl g12)), (amounts_, .inl (k_amounts, 64, .inl g33)), (predicates_, .inl (k_predicates, 20000, .inl g10)), (next_, .inl (k_next, 20000, .inl v25)), (slots_, .inl (k_slots, 32768, .inl g6)), (oldest_, .inl (k_oldest, 64, .inl v26)), (newest_, .inl (k_newest, 64, .inl g28))] := hD
      refine W.widen (k := 0) (n := 0) (Nat.le_of_ble_eq_true rfl) (Nat.le_of_ble_eq_true rfl) ?_
      exact W.vret hx hb hr (fun t ht hW => ⟨⟨(y34, y15, full_, g8, g12, g33, g10, v25, g6, v26, g28), rfl, hw, by rw [ht]; exact hP, va_K.moved hW.alike hK, hD⟩, hS.F ht⟩) hS.2.2 dc_Fa_add_170
    · have hw := hw.1 h26
      refine lv_aload_n hx hb dc_Fa_add_29 rfl (lv_at hl 1 rfl) ?_
      refine lv_iconst (v := 1) hx hb dc_Fa_add_30 (by decide) ?_
      refine va_put (D := (dC, dI)) (ci := 3) (v := .int 1) (ty := .boolean) (C := "StrataBase$Facts") (T := tb_Fa) (N := 14) hx hb hT in_Fa ty_Fa tk_Fa nm_Fa hown hK hP hD hS 5 rfl rfl 2 (by decide) (hT _ wd_294) (fun _ h9 => h9) rfl (by decide +kernel) (by decide) (by decide) (Nat.le_of_ble_eq_true rfl) dc_Fa_add_31 (fun H locs hP hD hS => ?_)
      have hP : va_P (dC, dI) vwCl [(stages_, .inl (k_stages, 20000, .inl F_stages)), (amounts_, .inl (k_amounts, 64, .inl F_amounts)), (next_, .inl (k_next, 20000, .inl F_next)), (oldest_, .inl (k_oldest, 64, .inl F_oldest)), (newest_, .inl (k_newest, 64, .inl F_newest)), (h0, .inr (3, [.int size_, .int highest_, .int 1, .ref keys_, .ref stages_, .ref amounts_, .ref predicates_, .ref next_, .ref slots_, .ref oldest_, .ref newest_, .ref known_, .ref knownBefore_, .int visible_])), (keys_, .inl (k_keys, 20000, .inr (.inl F_keys))), (predicates_, .inl (k_predicates, 20000, .inl F_predicates)), (slots_, .inl (k_slots, 32768, .inl F_slots))] H := hP
      have hD : va_D A [(stages_, .inl (k_stages, 20000, .inl F_stages)), (amounts_, .inl (k_amounts, 64, .inl F_amounts)), (next_, .inl (k_next, 20000, .inl F_next)), (oldest_, .inl (k_oldest, 64, .inl F_oldest)), (newest_, .inl (k_newest, 64, .inl F_newest)), (h0, .inr (3, [.int size_, .int highest_, .int 1, .ref keys_, .ref stages_, .ref amounts_, .ref predicates_, .ref next_, .ref slots_, .ref oldest_, .ref newest_, .ref known_, .ref knownBefore_, .int visible_])), (keys_, .inl (k_keys, 20000, .inr (.inl F_keys))), (predicates_, .inl (k_predicates, 20000, .inl F_predicates)), (slots_, .inl (k_slots, 32768, .inl F_slots))] := hD
      have hP := hP.sub (ws' := [(h0, .inr (3, [.int size_, .int highest_, .int 1, .ref keys_, .ref stages_, .ref amounts_, .ref predicates_, .ref next_, .ref slots_, .ref oldest_, .ref newest_, .ref known_, .ref knownBefore_, .int visible_])), (keys_, .inl (k_keys, 20000, .inr (.inl F_keys))), (stages_, .inl (k_stages, 20000, .inl F_stages)), (amounts_, .inl (k_amounts, 64, .inl F_amounts)), (predicates_, .inl (k_predicates, 20000, .inl F_predicates)), (next_, .inl (k_next, 20000, .inl F_next)), (slots_, .inl (k_slots, 32768, .inl F_slots)), (oldest_, .inl (k_oldest, 64, .inl F_oldest)), (newest_, .inl (k_newest, 64, .inl F_newest))]) [5, 6, 0, 1, 7, 2, 8, 3, 4] rfl
      have hD := hD.sub (ws' := [(h0, .inr (3, [.int size_, .int highest_, .int 1, .ref keys_, .ref stages_, .ref amounts_, .ref predicates_, .ref next_, .ref slots_, .ref oldest_, .ref newest_, .ref known_, .ref knownBefore_, .int visible_])), (keys_, .inl (k_keys, 20000, .inr (.inl F_keys))), (stages_, .inl (k_stages, 20000, .inl F_stages)), (amounts_, .inl (k_amounts, 64, .inl F_amounts)), (predicates_, .inl (k_predicates, 20000, .inl F_predicates)), (next_, .inl (k_next, 20000, .inl F_next)), (slots_, .inl (k_slots, 32768, .inl F_slots)), (oldest_, .inl (k_oldest, 64, .inl F_oldest)), (newest_, .inl (k_newest, 64, .inl F_newest))]) [5, 6, 0, 1, 7, 2, 8, 3, 4] (by decide) rfl
      have hK := hK.sub (tys' := [(k_keys, .long), (k_stages, .int), (k_amounts, .int), (k_predicates, .int), (k_next, .int), (k_slots, .int), (k_oldest, .int), (k_newest, .int)]) [5, 0, 1, 6, 2, 7, 3, 4] rfl
      refine W.widen (k := 0) (n := 0) (Nat.le_of_ble_eq_true rfl) (Nat.le_of_ble_eq_true rfl) ?_
      exact W.vret hx hb hr (fun t ht hW => ⟨⟨(size_, highest_, (1 : Int32), F_keys, F_stages, F_amounts, F_predicates, F_next, F_slots, F_oldest, F_newest), rfl, hw, by rw [ht]; exact hP, va_K.moved hW.alike hK, hD⟩, hS.F ht⟩) hS.2.2 dc_Fa_add_34
  · have hw := hw.2 h15
    have hP := hP.sub (ws' := [(h0, .inr (3, [.int size_, .int highest_, .int full_, .ref keys_, .ref stages_, .ref amounts_, .ref predicates_, .ref next_, .ref slots_, .ref oldest_, .ref newest_, .ref known_, .ref knownBefore_, .int visible_])), (keys_, .inl (k_keys, 20000, .inr (.inl F_keys))), (stages_, .inl (k_stages, 20000, .inl F_stages)), (amounts_, .inl (k_amounts, 64, .inl F_amounts)), (predicates_, .inl (k_predicates, 20000, .inl F_predicates)), (next_, .inl (k_next, 20000, .inl F_next)), (slots_, .inl (k_slots, 32768, .inl F_slots)), (oldest_, .inl (k_oldest, 64, .inl F_oldest)), (newest_, .inl (k_newest, 64, .inl F_newest))]) [5, 6, 0, 1, 7, 2, 8, 3, 4] rfl
    have hD := hD.sub (ws' := [(h0, .inr (3, [.int size_, .int highest_, .int full_, .ref keys_, .ref stages_, .ref amounts_, .ref predicates_, .ref next_, .ref slots_, .ref oldest_, .ref newest_, .ref known_, .ref knownBefore_, .int visible_])), (keys_, .inl (k_keys, 20000, .inr (.inl F_keys))), (stages_, .inl (k_stages, 20000, .inl F_stages)), (amounts_, .inl (k_amounts, 64, .inl F_amounts)), (predicates_, .inl (k_predicates, 20000, .inl F_predicates)), (next_, .inl (k_next, 20000, .inl F_next)), (slots_, .inl (k_slots, 32768, .inl F_slots)), (oldest_, .inl (k_oldest, 64, .inl F_oldest)), (newest_, .inl (k_newest, 64, .inl F_newest))]) [5, 6, 0, 1, 7, 2, 8, 3, 4] (by decide) rfl
    have hK := hK.sub (tys' := [(k_keys, .long), (k_stages, .int), (k_amounts, .int), (k_predicates, .int), (k_next, .int), (k_slots, .int), (k_oldest, .int), (k_newest, .int)]) [5, 0, 1, 6, 2, 7, 3, 4] rfl
    refine W.widen (k := 0) (n := 0) (Nat.le_of_ble_eq_true rfl) (Nat.le_of_ble_eq_true rfl) ?_
    exact W.vret hx hb hr (fun t ht hW => ⟨⟨(size_, highest_, full_, F_keys, F_stages, F_amounts, F_predicates, F_next, F_slots, F_oldest, F_newest), rfl, hw, by rw [ht]; exact hP, va_K.moved hW.alike hK, hD⟩, hS.F ht⟩) hS.2.2 dc_Fa_add_18

def lw_met_Fa_mark_10 (post : (Int32 × (Nat → Int32) × (Nat → Int32)) → Prop) (size_ : Int32) (F_newest : Nat → Int32) : Nat → (Int32 × (Nat → Int32) × (Nat → Int32)) → Prop
  | 0, _ => False
  | n1_ + 1, (v2, v3, v4) => (((64 : Int32) ≤ v2 → (post (size_, v3, v4))) ∧ (¬ ((64 : Int32) ≤ v2) → (vp_in v2 64 ∧ (∀ y6 : Int32, y6 = v3 v2.toNatClampNeg → (vp_in v2 64 ∧ (∀ g8 : Nat → Int32, g8 = upd v4 v2.toNatClampNeg y6 → (vp_in v2 64 ∧ (∀ y10 : Int32, y10 = F_newest v2.toNatClampNeg → (vp_in v2 64 ∧ (∀ g12 : Nat → Int32, g12 = upd v3 v2.toNatClampNeg y10 → (lw_met_Fa_mark_10 post size_ F_newest n1_ ((v2 + 1), g12, g8))))))))))))
def wp_met_Fa_mark (post : (Int32 × (Nat → Int32) × (Nat → Int32)) → Prop) (size_ : Int32) (F_newest : Nat → Int32) (F_known : Nat → Int32) (F_knownBefore : Nat → Int32) : Prop := ∃ n9 : Nat, lw_met_Fa_mark_10 post size_ F_newest n9 ((0 : Int32), F_known, F_knownBefore)
set_option maxHeartbeats 4000000 in
set_option maxRecDepth 100000 in
theorem met_Fa_mark (l : Launch) (dC : Nat → ClassId) (dI : Nat → Nat → Nat) (h0 : Nat) (keys_ : Nat) (stages_ : Nat) (amounts_ : Nat) (predicates_ : Nat) (next_ : Nat) (slots_ : Nat) (oldest_ : Nat) (newest_ : Nat) (known_ : Nat) (knownBefore_ : Nat) (size_ : Int32) (highest_ : Int32) (full_ : Int32) (visible_ : Int32) (F_newest : Nat → Int32) (F_known : Nat → Int32) (F_knownBefore : Nat → Int32) (k_newest : ClassId) (k_known : ClassId) (k_knownBefore : ClassId) (sz : Nat) {post : (Int32 × (Nat → Int32) × (Nat → Int32)) → Prop} (hw : wp_met_Fa_mark post size_ F_newest F_known F_knownBefore) : Met l my_Fa_mark (Cond.code my_Fa_mark cd_Fa_mark 2 none :: tblG) ({ frames := 0, cells := 0, slots := 0, locals := 0 }) (va_Pc [.ref h0] (fun U => U.heap.size = sz ∧ va_P (dC, dI) vwCl [(h0, .inr (3, [.int size_, .int highest_, .int full_, .ref keys_, .ref stages_, .ref amounts_, .ref predicates_, .ref next_, .ref slots_, .ref oldest_, .ref newest_, .ref known_, .ref knownBefore_, .int visible_])), (newest_, .inl (k_newest, 64, .inl F_newest)), (known_, .inl (k_known, 64, .inl F_known)), (knownBefore_, .inl (k_knownBefore, 64, .inl F_knownBefore))] U.heap ∧ va_K (dC, dI) vwCl [(k_newest, .int), (k_known, .int), (k_knownBefore, .int)] U ∧ va_D (fun _ => True) [(h0, .inr (3, [.int size_, .int highest_, .int full_, .ref keys_, .ref stages_, .ref amounts_, .ref predicates_, .ref next_, .ref slots_, .ref oldest_, .ref newest_, .ref known_, .ref knownBefore_, .int visible_])), (newest_, .inl (k_newest, 64, .inl F_newest)), (known_, .inl (k_known, 64, .inl F_known)), (knownBefore_, .inl (k_knownBefore, 64, .inl F_knownBefore))])) (va_Qv post (fun (u : Int32 × (Nat → Int32) × (Nat → Int32)) (t : State) => match u with | (o0, o1, o2) => va_P (dC, dI) vwCl [(h0, .inr (3, [.int size_, .int highest_, .int full_, .ref keys_, .ref stages_, .ref amounts_, .ref predicates_, .ref next_, .ref slots_, .ref oldest_, .ref newest_, .ref known_, .ref knownBefore_, .int o0])), (newest_, .inl (k_newest, 64, .inl F_newest)), (known_, .inl (k_known, 64, .inl o1)), (knownBefore_, .inl (k_knownBefore, 64, .inl o2))] t.heap ∧ va_K (dC, dI) vwCl [(k_newest, .int), (k_known, .int), (k_knownBefore, .int)] t ∧ va_D (va_A [(h0, .inr (3, [.int size_, .int highest_, .int full_, .ref keys_, .ref stages_, .ref amounts_, .ref predicates_, .ref next_, .ref slots_, .ref oldest_, .ref newest_, .ref known_, .ref knownBefore_, .int visible_])), (newest_, .inl (k_newest, 64, .inl F_newest)), (known_, .inl (k_known, 64, .inl F_known)), (knownBefore_, .inl (k_knownBefore, 64, .inl F_knownBefore))] sz) [(h0, .inr (3, [.int size_, .int highest_, .int full_, .ref keys_, .ref stages_, .ref amounts_, .ref predicates_, .ref next_, .ref slots_, .ref oldest_, .ref newest_, .ref known_, .ref knownBefore_, .int o0])), (newest_, .inl (k_newest, 64, .inl F_newest)), (known_, .inl (k_known, 64, .inl o1)), (knownBefore_, .inl (k_knownBefore, 64, .inl o2))]) (va_A [(h0, .inr (3, [.int size_, .int highest_, .int full_, .ref keys_, .ref stages_, .ref amounts_, .ref predicates_, .ref next_, .ref slots_, .ref oldest_, .ref newest_, .ref known_, .ref knownBefore_, .int visible_])), (newest_, .inl (k_newest, 64, .inl F_newest)), (known_, .inl (k_known, 64, .inl F_known)), (knownBefore_, .inl (k_knownBefore, 64, .inl F_knownBefore))] sz)) 0 0 (va_A [(h0, .inr (3, [.int size_, .int highest_, .int full_, .ref keys_, .ref stages_, .ref amounts_, .ref predicates_, .ref next_, .ref slots_, .ref oldest_, .ref newest_, .ref known_, .ref knownBefore_, .int visible_])), (newest_, .inl (k_newest, 64, .inl F_newest)), (known_, .inl (k_known, 64, .inl F_known)), (knownBefore_, .inl (k_knownBefore, 64, .inl F_knownBefore))] sz) := by
  refine Met.ofW (cc := cd_Fa_mark) (maxL := 2) (ret := none) (by decide) rfl ?_
  intro p e s m args below meth c s₁ B hml hv
  obtain ⟨rfl, hsz, hP, hK, hD0⟩ := hv
  have hx := B.exec
  have hb := B.bytes
  have hr := B.returns
  have hT : ∀ w ∈ tblG, w.before _ s = true := fun w h => atoms_spec (ws := (Cond.code my_Fa_mark cd_Fa_mark 2 none :: tblG)) B.pre w (List.mem_cons_of_mem _ h)
  have hown : s.vm.findClass "StrataBase$Facts" = some m.cls := findClass_of_methodNamed B.named
  have hlocks := B.notSynchronized
  subst hsz
  have hD := hD0.self (sz := s.heap.size)
  generalize hAe : va_A [(h0, .inr (3, [.int size_, .int highest_, .int full_, .ref keys_, .ref stages_, .ref amounts_, .ref predicates_, .ref next_, .ref slots_, .ref oldest_, .ref newest_, .ref known_, .ref knownBefore_, .int visible_])), (newest_, .inl (k_newest, 64, .inl F_newest)), (known_, .inl (k_known, 64, .inl F_known)), (knownBefore_, .inl (k_knownBefore, 64, .inl F_knownBefore))] s.heap.size = A at hD ⊢
  have hA : ∀ q : Nat, s.heap.size ≤ q → A q := fun q h => by rw [← hAe]; exact Or.inr h
  have hS : va_S A s.heap s.heap [] := va_S.rf
  have hl := lv_entry ([.ref h0]) (n := 2) (Nat.le_of_ble_eq_true rfl)
  rw [lg_entry_eq]
  generalize (lg_sl ([.ref h0]) ++ List.replicate (2 - (lg_sl ([.ref h0])).length) Slot.unset).toArray = ls at hl ⊢
  have hl : lv_has ls 2 [(0, .ref h0)] := hl
  unfold wp_met_Fa_mark at hw
  refine lv_aload_n hx hb dc_Fa_mark_0 rfl (lv_at hl 0 rfl) ?_
  refine lv_aload_n hx hb dc_Fa_mark_1 rfl (lv_at hl 0 rfl) ?_
  refine va_get (D := (dC, dI)) (ci := 3) (v := .int size_) (C := "StrataBase$Facts") (T := tb_Fa) (N := 14) hx hb hT in_Fa hown hK hP 0 rfl rfl 0 (by decide) (hT _ wd_289) (fun _ h9 => h9) rfl dc_Fa_mark_2 ?_
  refine va_put (D := (dC, dI)) (ci := 3) (v := .int size_) (ty := .int) (C := "StrataBase$Facts") (T := tb_Fa) (N := 14) hx hb hT in_Fa ty_Fa tk_Fa nm_Fa hown hK hP hD hS 0 rfl rfl 13 (by decide) (hT _ wd_310) (fun _ h9 => h9) rfl (by decide +kernel) rfl rfl (Nat.le_of_ble_eq_true rfl) dc_Fa_mark_5 (fun H locs hP hD hS => ?_)
  have hP : va_P (dC, dI) vwCl [(h0, .inr (3, [.int size_, .int highest_, .int full_, .ref keys_, .ref stages_, .ref amounts_, .ref predicates_, .ref next_, .ref slots_, .ref oldest_, .ref newest_, .ref known_, .ref knownBefore_, .int size_])), (newest_, .inl (k_newest, 64, .inl F_newest)), (known_, .inl (k_known, 64, .inl F_known)), (knownBefore_, .inl (k_knownBefore, 64, .inl F_knownBefore))] H := hP
  have hD : va_D A [(h0, .inr (3, [.int size_, .int highest_, .int full_, .ref keys_, .ref stages_, .ref amounts_, .ref predicates_, .ref next_, .ref slots_, .ref oldest_, .ref newest_, .ref known_, .ref knownBefore_, .int size_])), (newest_, .inl (k_newest, 64, .inl F_newest)), (known_, .inl (k_known, 64, .inl F_known)), (knownBefore_, .inl (k_knownBefore, 64, .inl F_knownBefore))] := hD
  refine lv_iconst (v := 0) hx hb dc_Fa_mark_8 (by decide) ?_
  refine lv_istore_n (lv' := [(1, .int 0), (0, .ref h0)]) hx hb dc_Fa_mark_9 rfl hl (by decide) rfl (fun ls hl => ?_)
  obtain ⟨n9, hw⟩ := hw
  refine lp_fuel (σ := Int32 × (Nat → Int32) × (Nat → Int32)) _ (fun x9 H locs ls => match x9 with | (v2, v3, v4) => va_K (dC, dI) vwCl [(k_newest, .int), (k_known, .int), (k_knownBefore, .int)] s ∧ va_P (dC, dI) vwCl [(h0, .inr (3, [.int size_, .int highest_, .int full_, .ref keys_, .ref stages_, .ref amounts_, .ref predicates_, .ref next_, .ref slots_, .ref oldest_, .ref newest_, .ref known_, .ref knownBefore_, .int size_])), (newest_, .inl (k_newest, 64, .inl F_newest)), (known_, .inl (k_known, 64, .inl v3)), (knownBefore_, .inl (k_knownBefore, 64, .inl v4))] H ∧ va_D A [(h0, .inr (3, [.int size_, .int highest_, .int full_, .ref keys_, .ref stages_, .ref amounts_, .ref predicates_, .ref next_, .ref slots_, .ref oldest_, .ref newest_, .ref known_, .ref knownBefore_, .int size_])), (newest_, .inl (k_newest, 64, .inl F_newest)), (known_, .inl (k_known, 64, .inl v3)), (knownBefore_, .inl (k_knownBefore, 64, .inl v4))] ∧ va_S A s.heap H locs ∧ lv_has ls 2 [(1, .int v2), (0, .ref h0)]) (fun x9 h9 => by simp only [lw_met_Fa_mark_10] at h9) ?_ hw ⟨hK.sub [0, 1, 2] rfl, hP.sub [0, 1, 2, 3] rfl, hD.sub [0, 1, 2, 3] (by decide) rfl, hS, lv_sub hl [0, 1] rfl⟩
  intro n1_ x9 hw ih1 H locs ls hI
  obtain ⟨v2, v3, v4⟩ := x9
  obtain ⟨hK, hP, hD, hS, hl⟩ := hI
  unfold lw_met_Fa_mark_10 at hw
  refine lv_iload_n hx hb dc_Fa_mark_10 rfl (lv_at hl 0 rfl) ?_
  refine lv_aload_n hx hb dc_Fa_mark_11 rfl (lv_at hl 1 rfl) ?_
  refine va_get (D := (dC, dI)) (ci := 3) (v := .ref known_) (C := "StrataBase$Facts") (T := tb_Fa) (N := 14) hx hb hT in_Fa hown hK hP 0 rfl rfl 11 (by decide) (hT _ wd_308) (fun _ h9 => h9) rfl dc_Fa_mark_12 ?_
  refine va_alen (v := 64) hx hb hK hP 2 1 rfl rfl rfl dc_Fa_mark_15 ?_
  refine lv_icmp_ge (tgt := 49) hx hb dc_Fa_mark_16 (by decide) (fun h16 => ?_) (fun h16 => ?_)
  · have hw := hw.1 h16
    refine W.widen (k := 0) (n := 0) (Nat.le_of_ble_eq_true rfl) (Nat.le_of_ble_eq_true rfl) ?_
    exact W.vret hx hb hr (fun t ht hW => ⟨⟨(size_, v3, v4), rfl, hw, by rw [ht]; exact hP, va_K.moved hW.alike hK, hD⟩, hS.F ht⟩) hS.2.2 dc_Fa_mark_49
  · have hw := hw.2 h16
    refine lv_aload_n hx hb dc_Fa_mark_19 rfl (lv_at hl 1 rfl) ?_
    refine va_get (D := (dC, dI)) (ci := 3) (v := .ref knownBefore_) (C := "StrataBase$Facts") (T := tb_Fa) (N := 14) hx hb hT in_Fa hown hK hP 0 rfl rfl 12 (by decide) (hT _ wd_309) (fun _ h9 => h9) rfl dc_Fa_mark_20 ?_
    refine lv_iload_n hx hb dc_Fa_mark_23 rfl (lv_at hl 0 rfl) ?_
    refine lv_aload_n hx hb dc_Fa_mark_24 rfl (lv_at hl 1 rfl) ?_
    refine va_get (D := (dC, dI)) (ci := 3) (v := .ref known_) (C := "StrataBase$Facts") (T := tb_Fa) (N := 14) hx hb hT in_Fa hown hK hP 0 rfl rfl 11 (by decide) (hT _ wd_308) (fun _ h9 => h9) rfl dc_Fa_mark_25 ?_
    refine lv_iload_n hx hb dc_Fa_mark_28 rfl (lv_at hl 0 rfl) ?_
    obtain ⟨hv5, hw⟩ := hw
    refine va_iald hx hb hK hP 2 1 rfl rfl hv5 dc_Fa_mark_29 ?_
    refine lv_topi (fun y6 ey6 => ?_)
    have hw := hw y6 ey6
    obtain ⟨hv7, hw⟩ := hw
    refine va_iast hx hb hK hP hD hS 3 2 rfl rfl hv7 dc_Fa_mark_30 (fun H locs hP hD hS => ?_)
    have hP : va_P (dC, dI) vwCl [(h0, .inr (3, [.int size_, .int highest_, .int full_, .ref keys_, .ref stages_, .ref amounts_, .ref predicates_, .ref next_, .ref slots_, .ref oldest_, .ref newest_, .ref known_, .ref knownBefore_, .int size_])), (newest_, .inl (k_newest, 64, .inl F_newest)), (known_, .inl (k_known, 64, .inl v3)), (knownBefore_, .inl (k_knownBefore, 64, .inl (upd v4 v2.toNatClampNeg y6)))] H := hP
    have hD : va_D A [(h0, .inr (3, [.int size_, .int highest_, .int full_, .ref keys_, .ref stages_, .ref amounts_, .ref predicates_, .ref next_, .ref slots_, .ref oldest_, .ref newest_, .ref known_, .ref knownBefore_, .int size_])), (newest_, .inl (k_newest, 64, .inl F_newest)), (known_, .inl (k_known, 64, .inl v3)), (knownBefore_, .inl (k_knownBefore, 64, .inl (upd v4 v2.toNatClampNeg y6)))] := hD
    obtain ⟨g8, eg8⟩ : ∃ z9 : Nat → Int32, z9 = upd v4 v2.toNatClampNeg y6 := ⟨_, rfl⟩
    rw [← eg8] at hP hD
    have hw := hw g8 eg8
    refine lv_aload_n hx hb dc_Fa_mark_31 rfl (lv_at hl 1 rfl) ?_
    refine va_get (D := (dC, dI)) (ci := 3) (v := .ref known_) (C := "StrataBase$Facts") (T := tb_Fa) (N := 14) hx hb hT in_Fa hown hK hP 0 rfl rfl 11 (by decide) (hT _ wd_308) (fun _ h9 => h9) rfl dc_Fa_mark_32 ?_
    refine lv_iload_n hx hb dc_Fa_mark_35 rfl (lv_at hl 0 rfl) ?_
    refine lv_aload_n hx hb dc_Fa_mark_36 rfl (lv_at hl 1 rfl) ?_
    refine va_get (D := (dC, dI)) (ci := 3) (v := .ref newest_) (C := "StrataBase$Facts") (T := tb_Fa) (N := 14) hx hb hT in_Fa hown hK hP 0 rfl rfl 10 (by decide) (hT _ wd_307) (fun _ h9 => h9) rfl dc_Fa_mark_37 ?_
    refine lv_iload_n hx hb dc_Fa_mark_40 rfl (lv_at hl 0 rfl) ?_
    obtain ⟨hv9, hw⟩ := hw
    refine va_iald hx hb hK hP 1 0 rfl rfl hv9 dc_Fa_mark_41 ?_
    refine lv_topi (fun y10 ey10 => ?_)
    have hw := hw y10 ey10
    obtain ⟨hv11, hw⟩ := hw
    refine va_iast hx hb hK hP hD hS 2 1 rfl rfl hv11 dc_Fa_mark_42 (fun H locs hP hD hS => ?_)
    have hP : va_P (dC, dI) vwCl [(h0, .inr (3, [.int size_, .int highest_, .int full_, .ref keys_, .ref stages_, .ref amounts_, .ref predicates_, .ref next_, .ref slots_, .ref oldest_, .ref newest_, .ref known_, .ref knownBefore_, .int size_])), (newest_, .inl (k_newest, 64, .inl F_newest)), (known_, .inl (k_known, 64, .inl (upd v3 v2.toNatClampNeg y10))), (knownBefore_, .inl (k_knownBefore, 64, .inl g8))] H := hP
    have hD : va_D A [(h0, .inr (3, [.int size_, .int highest_, .int full_, .ref keys_, .ref stages_, .ref amounts_, .ref predicates_, .ref next_, .ref slots_, .ref oldest_, .ref newest_, .ref known_, .ref knownBefore_, .int size_])), (newest_, .inl (k_newest, 64, .inl F_newest)), (known_, .inl (k_known, 64, .inl (upd v3 v2.toNatClampNeg y10))), (knownBefore_, .inl (k_knownBefore, 64, .inl g8))] := hD
    obtain ⟨g12, eg12⟩ : ∃ z9 : Nat → Int32, z9 = upd v3 v2.toNatClampNeg y10 := ⟨_, rfl⟩
    rw [← eg12] at hP hD
    have hw := hw g12 eg12
    refine lv_iinc (k := 0) (v := v2 + 1) (lv' := [(1, .int (v2 + 1)), (0, .ref h0)]) hx hb dc_Fa_mark_43 hl rfl rfl (by decide) rfl (fun ls hl => ?_)
    refine lv_goto (tgt := 10) hx hb dc_Fa_mark_46 (by decide) ?_
    exact ih1 ((v2 + 1), g12, g8) hw _ _ _ ⟨hK.sub [0, 1, 2] rfl, hP.sub [0, 1, 2, 3] rfl, hD.sub [0, 1, 2, 3] (by decide) rfl, hS, lv_sub hl [0, 1] rfl⟩

def wp_met_Fa_hasFresh (post : Int32 → Unit → Prop) (a0 : Int32) (F_known : Nat → Int32) (F_knownBefore : Nat → Int32) : Prop := vp_in a0 64 ∧ (∀ y2 : Int32, y2 = F_known a0.toNatClampNeg → (vp_in a0 64 ∧ (∀ y4 : Int32, y4 = F_knownBefore a0.toNatClampNeg → (∀ y5 : Int32, y5 = (if y2 = y4 then (0 : Int32) else (1 : Int32)) → (post y5 ())))))
set_option maxHeartbeats 4000000 in
set_option maxRecDepth 100000 in
theorem met_Fa_hasFresh (l : Launch) (dC : Nat → ClassId) (dI : Nat → Nat → Nat) (h0 : Nat) (keys_ : Nat) (stages_ : Nat) (amounts_ : Nat) (predicates_ : Nat) (next_ : Nat) (slots_ : Nat) (oldest_ : Nat) (newest_ : Nat) (known_ : Nat) (knownBefore_ : Nat) (a0 : Int32) (size_ : Int32) (highest_ : Int32) (full_ : Int32) (visible_ : Int32) (F_known : Nat → Int32) (F_knownBefore : Nat → Int32) (k_known : ClassId) (k_knownBefore : ClassId) (sz : Nat) {post : Int32 → Unit → Prop} (hw : wp_met_Fa_hasFresh post a0 F_known F_knownBefore) : Met l my_Fa_hasFresh (Cond.code my_Fa_hasFresh cd_Fa_hasFresh 2 (some (.boolean)) :: tblG) ({ frames := 0, cells := 0, slots := 0, locals := 0 }) (va_Pc [.ref h0, .int a0] (fun U => U.heap.size = sz ∧ va_P (dC, dI) vwCl [(h0, .inr (3, [.int size_, .int highest_, .int full_, .ref keys_, .ref stages_, .ref amounts_, .ref predicates_, .ref next_, .ref slots_, .ref oldest_, .ref newest_, .ref known_, .ref knownBefore_, .int visible_])), (known_, .inl (k_known, 64, .inl F_known)), (knownBefore_, .inl (k_knownBefore, 64, .inl F_knownBefore))] U.heap ∧ va_K (dC, dI) vwCl [(k_known, .int), (k_knownBefore, .int)] U ∧ va_D (fun _ => True) [(h0, .inr (3, [.int size_, .int highest_, .int full_, .ref keys_, .ref stages_, .ref amounts_, .ref predicates_, .ref next_, .ref slots_, .ref oldest_, .ref newest_, .ref known_, .ref knownBefore_, .int visible_])), (known_, .inl (k_known, 64, .inl F_known)), (knownBefore_, .inl (k_knownBefore, 64, .inl F_knownBefore))])) (va_Qi post (fun (u : Unit) (t : State) => va_P (dC, dI) vwCl [(h0, .inr (3, [.int size_, .int highest_, .int full_, .ref keys_, .ref stages_, .ref amounts_, .ref predicates_, .ref next_, .ref slots_, .ref oldest_, .ref newest_, .ref known_, .ref knownBefore_, .int visible_])), (known_, .inl (k_known, 64, .inl F_known)), (knownBefore_, .inl (k_knownBefore, 64, .inl F_knownBefore))] t.heap ∧ va_K (dC, dI) vwCl [(k_known, .int), (k_knownBefore, .int)] t ∧ va_D (va_A [(h0, .inr (3, [.int size_, .int highest_, .int full_, .ref keys_, .ref stages_, .ref amounts_, .ref predicates_, .ref next_, .ref slots_, .ref oldest_, .ref newest_, .ref known_, .ref knownBefore_, .int visible_])), (known_, .inl (k_known, 64, .inl F_known)), (knownBefore_, .inl (k_knownBefore, 64, .inl F_knownBefore))] sz) [(h0, .inr (3, [.int size_, .int highest_, .int full_, .ref keys_, .ref stages_, .ref amounts_, .ref predicates_, .ref next_, .ref slots_, .ref oldest_, .ref newest_, .ref known_, .ref knownBefore_, .int visible_])), (known_, .inl (k_known, 64, .inl F_known)), (knownBefore_, .inl (k_knownBefore, 64, .inl F_knownBefore))]) (va_A [(h0, .inr (3, [.int size_, .int highest_, .int full_, .ref keys_, .ref stages_, .ref amounts_, .ref predicates_, .ref next_, .ref slots_, .ref oldest_, .ref newest_, .ref known_, .ref knownBefore_, .int visible_])), (known_, .inl (k_known, 64, .inl F_known)), (knownBefore_, .inl (k_knownBefore, 64, .inl F_knownBefore))] sz)) 0 0 (va_A [(h0, .inr (3, [.int size_, .int highest_, .int full_, .ref keys_, .ref stages_, .ref amounts_, .ref predicates_, .ref next_, .ref slots_, .ref oldest_, .ref newest_, .ref known_, .ref knownBefore_, .int visible_])), (known_, .inl (k_known, 64, .inl F_known)), (knownBefore_, .inl (k_knownBefore, 64, .inl F_knownBefore))] sz) := by
  refine Met.ofW (cc := cd_Fa_hasFresh) (maxL := 2) (ret := (some (.boolean))) (by decide) rfl ?_
  intro p e s m args below meth c s₁ B hml hv
  obtain ⟨rfl, hsz, hP, hK, hD0⟩ := hv
  have hx := B.exec
  have hb := B.bytes
  have hr := B.returns
  have hT : ∀ w ∈ tblG, w.before _ s = true := fun w h => atoms_spec (ws := (Cond.code my_Fa_hasFresh cd_Fa_hasFresh 2 (some (.boolean)) :: tblG)) B.pre w (List.mem_cons_of_mem _ h)
  have hown : s.vm.findClass "StrataBase$Facts" = some m.cls := findClass_of_methodNamed B.named
  have hlocks := B.notSynchronized
  subst hsz
  have hD := hD0.self (sz := s.heap.size)
  generalize hAe : va_A [(h0, .inr (3, [.int size_, .int highest_, .int full_, .ref keys_, .ref stages_, .ref amounts_, .ref predicates_, .ref next_, .ref slots_, .ref oldest_, .ref newest_, .ref known_, .ref knownBefore_, .int visible_])), (known_, .inl (k_known, 64, .inl F_known)), (knownBefore_, .inl (k_knownBefore, 64, .inl F_knownBefore))] s.heap.size = A at hD ⊢
  have hA : ∀ q : Nat, s.heap.size ≤ q → A q := fun q h => by rw [← hAe]; exact Or.inr h
  have hS : va_S A s.heap s.heap [] := va_S.rf
  have hl := lv_entry ([.ref h0, .int a0]) (n := 2) (Nat.le_of_ble_eq_true rfl)
  rw [lg_entry_eq]
  generalize (lg_sl ([.ref h0, .int a0]) ++ List.replicate (2 - (lg_sl ([.ref h0, .int a0])).length) Slot.unset).toArray = ls at hl ⊢
  have hl : lv_has ls 2 [(0, .ref h0), (1, .int a0)] := hl
  unfold wp_met_Fa_hasFresh at hw
  refine lv_aload_n hx hb dc_Fa_hasFresh_0 rfl (lv_at hl 0 rfl) ?_
  refine va_get (D := (dC, dI)) (ci := 3) (v := .ref known_) (C := "StrataBase$Facts") (T := tb_Fa) (N := 14) hx hb hT in_Fa hown hK hP 0 rfl rfl 11 (by decide) (hT _ wd_308) (fun _ h9 => h9) rfl dc_Fa_hasFresh_1 ?_
  refine lv_iload_n hx hb dc_Fa_hasFresh_4 rfl (lv_at hl 1 rfl) ?_
  obtain ⟨hv1, hw⟩ := hw
  refine va_iald hx hb hK hP 1 0 rfl rfl hv1 dc_Fa_hasFresh_5 ?_
  refine lv_topi (fun y2 ey2 => ?_)
  have hw := hw y2 ey2
  refine lv_aload_n hx hb dc_Fa_hasFresh_6 rfl (lv_at hl 0 rfl) ?_
  refine va_get (D := (dC, dI)) (ci := 3) (v := .ref knownBefore_) (C := "StrataBase$Facts") (T := tb_Fa) (N := 14) hx hb hT in_Fa hown hK hP 0 rfl rfl 12 (by decide) (hT _ wd_309) (fun _ h9 => h9) rfl dc_Fa_hasFresh_7 ?_
  refine lv_iload_n hx hb dc_Fa_hasFresh_10 rfl (lv_at hl 1 rfl) ?_
  obtain ⟨hv3, hw⟩ := hw
  refine va_iald hx hb hK hP 2 1 rfl rfl hv3 dc_Fa_hasFresh_11 ?_
  refine lv_topi (fun y4 ey4 => ?_)
  have hw := hw y4 ey4
  refine jn_top (pc2 := 20) (rest := []) (fun y5 => y5 = (if y2 = y4 then (0 : Int32) else (1 : Int32))) (fun y5 ey5 => ?_) (fun k9 => ?_)
  rotate_left
  · refine lv_icmp_eq (tgt := 19) hx hb dc_Fa_hasFresh_12 (by decide) (fun h12 => ?_) (fun h12 => ?_)
    · refine lv_iconst (v := 0) hx hb dc_Fa_hasFresh_19 (by decide) ?_
      exact k9 (0 : Int32) (by rw [if_pos h12])
    · refine lv_iconst (v := 1) hx hb dc_Fa_hasFresh_15 (by decide) ?_
      refine lv_goto (tgt := 20) hx hb dc_Fa_hasFresh_16 (by decide) ?_
      exact k9 (1 : Int32) (by rw [if_neg h12])
  have hw := hw y5 ey5
  have hzy5 : y5 = 0 ∨ y5 = 1 := by
    rw [ey5]; repeat' split
    all_goals first | exact Or.inl rfl | exact Or.inr rfl
  refine W.widen (k := 0) (n := 0) (Nat.le_of_ble_eq_true rfl) (Nat.le_of_ble_eq_true rfl) ?_
  exact W.zret (v := y5) hx hb hr (nz_n hzy5) (fun t ht hW => ⟨⟨y5, (), rfl, hw, by rw [ht]; exact hP, va_K.moved hW.alike hK, hD⟩, hS.F ht⟩) hS.2.2 dc_Fa_hasFresh_20

def wp_met_Fa_isEmpty (post : Int32 → Unit → Prop) (a0 : Int32) (F_known : Nat → Int32) : Prop := vp_in a0 64 ∧ (∀ y2 : Int32, y2 = F_known a0.toNatClampNeg → (∀ y3 : Int32, y3 = (if y2 = ((-1) : Int32) then (1 : Int32) else (0 : Int32)) → (post y3 ())))
set_option maxHeartbeats 4000000 in
set_option maxRecDepth 100000 in
theorem met_Fa_isEmpty (l : Launch) (dC : Nat → ClassId) (dI : Nat → Nat → Nat) (h0 : Nat) (keys_ : Nat) (stages_ : Nat) (amounts_ : Nat) (predicates_ : Nat) (next_ : Nat) (slots_ : Nat) (oldest_ : Nat) (newest_ : Nat) (known_ : Nat) (knownBefore_ : Nat) (a0 : Int32) (size_ : Int32) (highest_ : Int32) (full_ : Int32) (visible_ : Int32) (F_known : Nat → Int32) (k_known : ClassId) (sz : Nat) {post : Int32 → Unit → Prop} (hw : wp_met_Fa_isEmpty post a0 F_known) : Met l my_Fa_isEmpty (Cond.code my_Fa_isEmpty cd_Fa_isEmpty 2 (some (.boolean)) :: tblG) ({ frames := 0, cells := 0, slots := 0, locals := 0 }) (va_Pc [.ref h0, .int a0] (fun U => U.heap.size = sz ∧ va_P (dC, dI) vwCl [(h0, .inr (3, [.int size_, .int highest_, .int full_, .ref keys_, .ref stages_, .ref amounts_, .ref predicates_, .ref next_, .ref slots_, .ref oldest_, .ref newest_, .ref known_, .ref knownBefore_, .int visible_])), (known_, .inl (k_known, 64, .inl F_known))] U.heap ∧ va_K (dC, dI) vwCl [(k_known, .int)] U ∧ va_D (fun _ => True) [(h0, .inr (3, [.int size_, .int highest_, .int full_, .ref keys_, .ref stages_, .ref amounts_, .ref predicates_, .ref next_, .ref slots_, .ref oldest_, .ref newest_, .ref known_, .ref knownBefore_, .int visible_])), (known_, .inl (k_known, 64, .inl F_known))])) (va_Qi post (fun (u : Unit) (t : State) => va_P (dC, dI) vwCl [(h0, .inr (3, [.int size_, .int highest_, .int full_, .ref keys_, .ref stages_, .ref amounts_, .ref predicates_, .ref next_, .ref slots_, .ref oldest_, .ref newest_, .ref known_, .ref knownBefore_, .int visible_])), (known_, .inl (k_known, 64, .inl F_known))] t.heap ∧ va_K (dC, dI) vwCl [(k_known, .int)] t ∧ va_D (va_A [(h0, .inr (3, [.int size_, .int highest_, .int full_, .ref keys_, .ref stages_, .ref amounts_, .ref predicates_, .ref next_, .ref slots_, .ref oldest_, .ref newest_, .ref known_, .ref knownBefore_, .int visible_])), (known_, .inl (k_known, 64, .inl F_known))] sz) [(h0, .inr (3, [.int size_, .int highest_, .int full_, .ref keys_, .ref stages_, .ref amounts_, .ref predicates_, .ref next_, .ref slots_, .ref oldest_, .ref newest_, .ref known_, .ref knownBefore_, .int visible_])), (known_, .inl (k_known, 64, .inl F_known))]) (va_A [(h0, .inr (3, [.int size_, .int highest_, .int full_, .ref keys_, .ref stages_, .ref amounts_, .ref predicates_, .ref next_, .ref slots_, .ref oldest_, .ref newest_, .ref known_, .ref knownBefore_, .int visible_])), (known_, .inl (k_known, 64, .inl F_known))] sz)) 0 0 (va_A [(h0, .inr (3, [.int size_, .int highest_, .int full_, .ref keys_, .ref stages_, .ref amounts_, .ref predicates_, .ref next_, .ref slots_, .ref oldest_, .ref newest_, .ref known_, .ref knownBefore_, .int visible_])), (known_, .inl (k_known, 64, .inl F_known))] sz) := by
  refine Met.ofW (cc := cd_Fa_isEmpty) (maxL := 2) (ret := (some (.boolean))) (by decide) rfl ?_
  intro p e s m args below meth c s₁ B hml hv
  obtain ⟨rfl, hsz, hP, hK, hD0⟩ := hv
  have hx := B.exec
  have hb := B.bytes
  have hr := B.returns
  have hT : ∀ w ∈ tblG, w.before _ s = true := fun w h => atoms_spec (ws := (Cond.code my_Fa_isEmpty cd_Fa_isEmpty 2 (some (.boolean)) :: tblG)) B.pre w (List.mem_cons_of_mem _ h)
  have hown : s.vm.findClass "StrataBase$Facts" = some m.cls := findClass_of_methodNamed B.named
  have hlocks := B.notSynchronized
  subst hsz
  have hD := hD0.self (sz := s.heap.size)
  generalize hAe : va_A [(h0, .inr (3, [.int size_, .int highest_, .int full_, .ref keys_, .ref stages_, .ref amounts_, .ref predicates_, .ref next_, .ref slots_, .ref oldest_, .ref newest_, .ref known_, .ref knownBefore_, .int visible_])), (known_, .inl (k_known, 64, .inl F_known))] s.heap.size = A at hD ⊢
  have hA : ∀ q : Nat, s.heap.size ≤ q → A q := fun q h => by rw [← hAe]; exact Or.inr h
  have hS : va_S A s.heap s.heap [] := va_S.rf
  have hl := lv_entry ([.ref h0, .int a0]) (n := 2) (Nat.le_of_ble_eq_true rfl)
  rw [lg_entry_eq]
  generalize (lg_sl ([.ref h0, .int a0]) ++ List.replicate (2 - (lg_sl ([.ref h0, .int a0])).length) Slot.unset).toArray = ls at hl ⊢
  have hl : lv_has ls 2 [(0, .ref h0), (1, .int a0)] := hl
  unfold wp_met_Fa_isEmpty at hw
  refine lv_aload_n hx hb dc_Fa_isEmpty_0 rfl (lv_at hl 0 rfl) ?_
  refine va_get (D := (dC, dI)) (ci := 3) (v := .ref known_) (C := "StrataBase$Facts") (T := tb_Fa) (N := 14) hx hb hT in_Fa hown hK hP 0 rfl rfl 11 (by decide) (hT _ wd_308) (fun _ h9 => h9) rfl dc_Fa_isEmpty_1 ?_
  refine lv_iload_n hx hb dc_Fa_isEmpty_4 rfl (lv_at hl 1 rfl) ?_
  obtain ⟨hv1, hw⟩ := hw
  refine va_iald hx hb hK hP 1 0 rfl rfl hv1 dc_Fa_isEmpty_5 ?_
  refine lv_topi (fun y2 ey2 => ?_)
  have hw := hw y2 ey2
  refine lv_iconst (v := (-1)) hx hb dc_Fa_isEmpty_6 (by decide) ?_
  refine jn_top (pc2 := 15) (rest := []) (fun y3 => y3 = (if y2 = ((-1) : Int32) then (1 : Int32) else (0 : Int32))) (fun y3 ey3 => ?_) (fun k9 => ?_)
  rotate_left
  · refine lv_icmp_ne (tgt := 14) hx hb dc_Fa_isEmpty_7 (by decide) (fun h7 => ?_) (fun h7 => ?_)
    · refine lv_iconst (v := 0) hx hb dc_Fa_isEmpty_14 (by decide) ?_
      exact k9 (0 : Int32) (by rw [if_neg h7])
    · refine lv_iconst (v := 1) hx hb dc_Fa_isEmpty_10 (by decide) ?_
      refine lv_goto (tgt := 15) hx hb dc_Fa_isEmpty_11 (by decide) ?_
      exact k9 (1 : Int32) (by rw [if_pos h7])
  have hw := hw y3 ey3
  have hzy3 : y3 = 0 ∨ y3 = 1 := by
    rw [ey3]; repeat' split
    all_goals first | exact Or.inl rfl | exact Or.inr rfl
  refine W.widen (k := 0) (n := 0) (Nat.le_of_ble_eq_true rfl) (Nat.le_of_ble_eq_true rfl) ?_
  exact W.zret (v := y3) hx hb hr (nz_n hzy3) (fun t ht hW => ⟨⟨y3, (), rfl, hw, by rw [ht]; exact hP, va_K.moved hW.alike hK, hD⟩, hS.F ht⟩) hS.2.2 dc_Fa_isEmpty_15

def wp_met_Fa_firstOf (post : Int32 → Unit → Prop) (a0 : Int32) (a1 : Int32) (F_next : Nat → Int32) (F_oldest : Nat → Int32) (F_knownBefore : Nat → Int32) : Prop := (((a1 = 0 → (True)) ∧ (¬ (a1 = 0) → (vp_in a0 64 ∧ (True))))) ∧ (∀ y1 : Int32, y1 = (if a1 = 0 then (1 : Int32) else (if (F_knownBefore a0.toNatClampNeg) = ((-1) : Int32) then (1 : Int32) else (0 : Int32))) → ((((y1 = 0 → (vp_in a0 64 ∧ (vp_in (F_knownBefore a0.toNatClampNeg) 20000 ∧ (True)))) ∧ (¬ (y1 = 0) → (vp_in a0 64 ∧ (True))))) ∧ (∀ y3 : Int32, y3 = (if y1 = 0 then (F_next (F_knownBefore a0.toNatClampNeg).toNatClampNeg) else (F_oldest a0.toNatClampNeg)) → (post y3 ()))))
set_option maxHeartbeats 4000000 in
set_option maxRecDepth 100000 in
theorem met_Fa_firstOf (l : Launch) (dC : Nat → ClassId) (dI : Nat → Nat → Nat) (h0 : Nat) (keys_ : Nat) (stages_ : Nat) (amounts_ : Nat) (predicates_ : Nat) (next_ : Nat) (slots_ : Nat) (oldest_ : Nat) (newest_ : Nat) (known_ : Nat) (knownBefore_ : Nat) (a0 : Int32) (a1 : Int32) (size_ : Int32) (highest_ : Int32) (full_ : Int32) (visible_ : Int32) (F_next : Nat → Int32) (F_oldest : Nat → Int32) (F_knownBefore : Nat → Int32) (k_next : ClassId) (k_oldest : ClassId) (k_knownBefore : ClassId) (sz : Nat) {post : Int32 → Unit → Prop} (hw : wp_met_Fa_firstOf post a0 a1 F_next F_oldest F_knownBefore) : Met l my_Fa_firstOf (Cond.code my_Fa_firstOf cd_Fa_firstOf 4 (some (.int)) :: tblG) ({ frames := 0, cells := 0, slots := 0, locals := 0 }) (va_Pc [.ref h0, .int a0, .int a1] (fun U => U.heap.size = sz ∧ va_P (dC, dI) vwCl [(h0, .inr (3, [.int size_, .int highest_, .int full_, .ref keys_, .ref stages_, .ref amounts_, .ref predicates_, .ref next_, .ref slots_, .ref oldest_, .ref newest_, .ref known_, .ref knownBefore_, .int visible_])), (next_, .inl (k_next, 20000, .inl F_next)), (oldest_, .inl (k_oldest, 64, .inl F_oldest)), (knownBefore_, .inl (k_knownBefore, 64, .inl F_knownBefore))] U.heap ∧ va_K (dC, dI) vwCl [(k_next, .int), (k_oldest, .int), (k_knownBefore, .int)] U ∧ va_D (fun _ => True) [(h0, .inr (3, [.int size_, .int highest_, .int full_, .ref keys_, .ref stages_, .ref amounts_, .ref predicates_, .ref next_, .ref slots_, .ref oldest_, .ref newest_, .ref known_, .ref knownBefore_, .int visible_])), (next_, .inl (k_next, 20000, .inl F_next)), (oldest_, .inl (k_oldest, 64, .inl F_oldest)), (knownBefore_, .inl (k_knownBefore, 64, .inl F_knownBefore))])) (va_Qi post (fun (u : Unit) (t : State) => va_P (dC, dI) vwCl [(h0, .inr (3, [.int size_, .int highest_, .int full_, .ref keys_, .ref stages_, .ref amounts_, .ref predicates_, .ref next_, .ref slots_, .ref oldest_, .ref newest_, .ref known_, .ref knownBefore_, .int visible_])), (next_, .inl (k_next, 20000, .inl F_next)), (oldest_, .inl (k_oldest, 64, .inl F_oldest)), (knownBefore_, .inl (k_knownBefore, 64, .inl F_knownBefore))] t.heap ∧ va_K (dC, dI) vwCl [(k_next, .int), (k_oldest, .int), (k_knownBefore, .int)] t ∧ va_D (va_A [(h0, .inr (3, [.int size_, .int highest_, .int full_, .ref keys_, .ref stages_, .ref amounts_, .ref predicates_, .ref next_, .ref slots_, .ref oldest_, .ref newest_, .ref known_, .ref knownBefore_, .int visible_])), (next_, .inl (k_next, 20000, .inl F_next)), (oldest_, .inl (k_oldest, 64, .inl F_oldest)), (knownBefore_, .inl (k_knownBefore, 64, .inl F_knownBefore))] sz) [(h0, .inr (3, [.int size_, .int highest_, .int full_, .ref keys_, .ref stages_, .ref amounts_, .ref predicates_, .ref next_, .ref slots_, .ref oldest_, .ref newest_, .ref known_, .ref knownBefore_, .int visible_])), (next_, .inl (k_next, 20000, .inl F_next)), (oldest_, .inl (k_oldest, 64, .inl F_oldest)), (knownBefore_, .inl (k_knownBefore, 64, .inl F_knownBefore))]) (va_A [(h0, .inr (3, [.int size_, .int highest_, .int full_, .ref keys_, .ref stages_, .ref amounts_, .ref predicates_, .ref next_, .ref slots_, .ref oldest_, .ref newest_, .ref known_, .ref knownBefore_, .int visible_])), (next_, .inl (k_next, 20000, .inl F_next)), (oldest_, .inl (k_oldest, 64, .inl F_oldest)), (knownBefore_, .inl (k_knownBefore, 64, .inl F_knownBefore))] sz)) 0 0 (va_A [(h0, .inr (3, [.int size_, .int highest_, .int full_, .ref keys_, .ref stages_, .ref amounts_, .ref predicates_, .ref next_, .ref slots_, .ref oldest_, .ref newest_, .ref known_, .ref knownBefore_, .int visible_])), (next_, .inl (k_next, 20000, .inl F_next)), (oldest_, .inl (k_oldest, 64, .inl F_oldest)), (knownBefore_, .inl (k_knownBefore, 64, .inl F_knownBefore))] sz) := by
  refine Met.ofW (cc := cd_Fa_firstOf) (maxL := 4) (ret := (some (.int))) (by decide) rfl ?_
  intro p e s m args below meth c s₁ B hml hv
  obtain ⟨rfl, hsz, hP, hK, hD0⟩ := hv
  have hx := B.exec
  have hb := B.bytes
  have hr := B.returns
  have hT : ∀ w ∈ tblG, w.before _ s = true := fun w h => atoms_spec (ws := (Cond.code my_Fa_firstOf cd_Fa_firstOf 4 (some (.int)) :: tblG)) B.pre w (List.mem_cons_of_mem _ h)
  have hown : s.vm.findClass "StrataBase$Facts" = some m.cls := findClass_of_methodNamed B.named
  have hlocks := B.notSynchronized
  subst hsz
  have hD := hD0.self (sz := s.heap.size)
  generalize hAe : va_A [(h0, .inr (3, [.int size_, .int highest_, .int full_, .ref keys_, .ref stages_, .ref amounts_, .ref predicates_, .ref next_, .ref slots_, .ref oldest_, .ref newest_, .ref known_, .ref knownBefore_, .int visible_])), (next_, .inl (k_next, 20000, .inl F_next)), (oldest_, .inl (k_oldest, 64, .inl F_oldest)), (knownBefore_, .inl (k_knownBefore, 64, .inl F_knownBefore))] s.heap.size = A at hD ⊢
  have hA : ∀ q : Nat, s.heap.size ≤ q → A q := fun q h => by rw [← hAe]; exact Or.inr h
  have hS : va_S A s.heap s.heap [] := va_S.rf
  have hl := lv_entry ([.ref h0, .int a0, .int a1]) (n := 4) (Nat.le_of_ble_eq_true rfl)
  rw [lg_entry_eq]
  generalize (lg_sl ([.ref h0, .int a0, .int a1]) ++ List.replicate (4 - (lg_sl ([.ref h0, .int a0, .int a1])).length) Slot.unset).toArray = ls at hl ⊢
  have hl : lv_has ls 4 [(0, .ref h0), (1, .int a0), (2, .int a1)] := hl
  unfold wp_met_Fa_firstOf at hw
  refine lv_iload_n hx hb dc_Fa_firstOf_0 rfl (lv_at hl 2 rfl) ?_
  obtain ⟨hob, hw⟩ := hw
  refine jn_top (pc2 := 19) (rest := []) (fun y1 => y1 = (if a1 = 0 then (1 : Int32) else (if (F_knownBefore a0.toNatClampNeg) = ((-1) : Int32) then (1 : Int32) else (0 : Int32)))) (fun y1 ey1 => ?_) (fun k9 => ?_)
  rotate_left
  · refine lv_if_eq (tgt := 14) hx hb dc_Fa_firstOf_1 (by decide) (fun h1 => ?_) (fun h1 => ?_)
    · have hob := hob.1 h1
      refine lv_iconst (v := 1) hx hb dc_Fa_firstOf_14 (by decide) ?_
      refine lv_goto (tgt := 19) hx hb dc_Fa_firstOf_15 (by decide) ?_
      exact k9 (1 : Int32) (by rw [if_pos h1])
    · have hob := hob.2 h1
      refine lv_aload_n hx hb dc_Fa_firstOf_4 rfl (lv_at hl 0 rfl) ?_
      refine va_get (D := (dC, dI)) (ci := 3) (v := .ref knownBefore_) (C := "StrataBase$Facts") (T := tb_Fa) (N := 14) hx hb hT in_Fa hown hK hP 0 rfl rfl 12 (by decide) (hT _ wd_309) (fun _ h9 => h9) rfl dc_Fa_firstOf_5 ?_
      refine lv_iload_n hx hb dc_Fa_firstOf_8 rfl (lv_at hl 1 rfl) ?_
      obtain ⟨hv2, hob⟩ := hob
      refine va_iald hx hb hK hP 3 2 rfl rfl hv2 dc_Fa_firstOf_9 ?_
      refine lv_iconst (v := (-1)) hx hb dc_Fa_firstOf_10 (by decide) ?_
      refine lv_icmp_ne (tgt := 18) hx hb dc_Fa_firstOf_11 (by decide) (fun h11 => ?_) (fun h11 => ?_)
      · refine lv_iconst (v := 0) hx hb dc_Fa_firstOf_18 (by decide) ?_
        exact k9 (0 : Int32) (by rw [if_neg h1, if_neg h11])
      · refine lv_iconst (v := 1) hx hb dc_Fa_firstOf_14 (by decide) ?_
        refine lv_goto (tgt := 19) hx hb dc_Fa_firstOf_15 (by decide) ?_
        exact k9 (1 : Int32) (by rw [if_neg h1, if_pos h11])
  have hw := hw y1 ey1
  have hzy1 : y1 = 0 ∨ y1 = 1 := by
    rw [ey1]; repeat' split
    all_goals first | exact Or.inl rfl | exact Or.inr rfl
  refine lv_istore_n (lv' := [(3, .int y1), (0, .ref h0), (1, .int a0), (2, .int a1)]) hx hb dc_Fa_firstOf_19 rfl hl (by decide) rfl (fun ls hl => ?_)
  refine lv_iload_n hx hb dc_Fa_firstOf_20 rfl (lv_at hl 0 rfl) ?_
  obtain ⟨hob, hw⟩ := hw
  refine jn_top (pc2 := 44) (rest := []) (fun y3 => y3 = (if y1 = 0 then (F_next (F_knownBefore a0.toNatClampNeg).toNatClampNeg) else (F_oldest a0.toNatClampNeg))) (fun y3 ey3 => ?_) (fun k9 => ?_)
  rotate_left
  · refine lv_if_eq (tgt := 33) hx hb dc_Fa_firstOf_21 (by decide) (fun h21 => ?_) (fun h21 => ?_)
    · have hob := hob.1 h21
      refine lv_aload_n hx hb dc_Fa_firstOf_33 rfl (lv_at hl 1 rfl) ?_
      refine va_get (D := (dC, dI)) (ci := 3) (v := .ref next_) (C := "StrataBase$Facts") (T := tb_Fa) (N := 14) hx hb hT in_Fa hown hK hP 0 rfl rfl 7 (by decide) (hT _ wd_304) (fun _ h9 => h9) rfl dc_Fa_firstOf_34 ?_
      refine lv_aload_n hx hb dc_Fa_firstOf_37 rfl (lv_at hl 1 rfl) ?_
      refine va_get (D := (dC, dI)) (ci := 3) (v := .ref knownBefore_) (C := "StrataBase$Facts") (T := tb_Fa) (N := 14) hx hb hT in_Fa hown hK hP 0 rfl rfl 12 (by decide) (hT _ wd_309) (fun _ h9 => h9) rfl dc_Fa_firstOf_38 ?_
      refine lv_iload_n hx hb dc_Fa_firstOf_41 rfl (lv_at hl 2 rfl) ?_
      obtain ⟨hv4, hob⟩ := hob
      refine va_iald hx hb hK hP 3 2 rfl rfl hv4 dc_Fa_firstOf_42 ?_
      obtain ⟨hv5, hob⟩ := hob
      refine va_iald hx hb hK hP 1 0 rfl rfl hv5 dc_Fa_firstOf_43 ?_
      exact k9 (F_next (F_knownBefore a0.toNatClampNeg).toNatClampNeg) (by rw [if_pos h21])
    · have hob := hob.2 h21
      refine lv_aload_n hx hb dc_Fa_firstOf_24 rfl (lv_at hl 1 rfl) ?_
      refine va_get (D := (dC, dI)) (ci := 3) (v := .ref oldest_) (C := "StrataBase$Facts") (T := tb_Fa) (N := 14) hx hb hT in_Fa hown hK hP 0 rfl rfl 9 (by decide) (hT _ wd_306) (fun _ h9 => h9) rfl dc_Fa_firstOf_25 ?_
      refine lv_iload_n hx hb dc_Fa_firstOf_28 rfl (lv_at hl 2 rfl) ?_
      obtain ⟨hv6, hob⟩ := hob
      refine va_iald hx hb hK hP 2 1 rfl rfl hv6 dc_Fa_firstOf_29 ?_
      refine lv_goto (tgt := 44) hx hb dc_Fa_firstOf_30 (by decide) ?_
      exact k9 (F_oldest a0.toNatClampNeg) (by rw [if_neg h21])
  have hw := hw y3 ey3
  refine W.widen (k := 0) (n := 0) (Nat.le_of_ble_eq_true rfl) (Nat.le_of_ble_eq_true rfl) ?_
  exact W.iret (v := y3) hx hb hr (fun t ht hW => ⟨⟨y3, (), rfl, hw, by rw [ht]; exact hP, va_K.moved hW.alike hK, hD⟩, hS.F ht⟩) hS.2.2 dc_Fa_firstOf_44

def wp_met_Fa_lastOf (post : Int32 → Unit → Prop) (a0 : Int32) (F_known : Nat → Int32) : Prop := vp_in a0 64 ∧ (∀ y2 : Int32, y2 = F_known a0.toNatClampNeg → (post y2 ()))
set_option maxHeartbeats 4000000 in
set_option maxRecDepth 100000 in
theorem met_Fa_lastOf (l : Launch) (dC : Nat → ClassId) (dI : Nat → Nat → Nat) (h0 : Nat) (keys_ : Nat) (stages_ : Nat) (amounts_ : Nat) (predicates_ : Nat) (next_ : Nat) (slots_ : Nat) (oldest_ : Nat) (newest_ : Nat) (known_ : Nat) (knownBefore_ : Nat) (a0 : Int32) (size_ : Int32) (highest_ : Int32) (full_ : Int32) (visible_ : Int32) (F_known : Nat → Int32) (k_known : ClassId) (sz : Nat) {post : Int32 → Unit → Prop} (hw : wp_met_Fa_lastOf post a0 F_known) : Met l my_Fa_lastOf (Cond.code my_Fa_lastOf cd_Fa_lastOf 2 (some (.int)) :: tblG) ({ frames := 0, cells := 0, slots := 0, locals := 0 }) (va_Pc [.ref h0, .int a0] (fun U => U.heap.size = sz ∧ va_P (dC, dI) vwCl [(h0, .inr (3, [.int size_, .int highest_, .int full_, .ref keys_, .ref stages_, .ref amounts_, .ref predicates_, .ref next_, .ref slots_, .ref oldest_, .ref newest_, .ref known_, .ref knownBefore_, .int visible_])), (known_, .inl (k_known, 64, .inl F_known))] U.heap ∧ va_K (dC, dI) vwCl [(k_known, .int)] U ∧ va_D (fun _ => True) [(h0, .inr (3, [.int size_, .int highest_, .int full_, .ref keys_, .ref stages_, .ref amounts_, .ref predicates_, .ref next_, .ref slots_, .ref oldest_, .ref newest_, .ref known_, .ref knownBefore_, .int visible_])), (known_, .inl (k_known, 64, .inl F_known))])) (va_Qi post (fun (u : Unit) (t : State) => va_P (dC, dI) vwCl [(h0, .inr (3, [.int size_, .int highest_, .int full_, .ref keys_, .ref stages_, .ref amounts_, .ref predicates_, .ref next_, .ref slots_, .ref oldest_, .ref newest_, .ref known_, .ref knownBefore_, .int visible_])), (known_, .inl (k_known, 64, .inl F_known))] t.heap ∧ va_K (dC, dI) vwCl [(k_known, .int)] t ∧ va_D (va_A [(h0, .inr (3, [.int size_, .int highest_, .int full_, .ref keys_, .ref stages_, .ref amounts_, .ref predicates_, .ref next_, .ref slots_, .ref oldest_, .ref newest_, .ref known_, .ref knownBefore_, .int visible_])), (known_, .inl (k_known, 64, .inl F_known))] sz) [(h0, .inr (3, [.int size_, .int highest_, .int full_, .ref keys_, .ref stages_, .ref amounts_, .ref predicates_, .ref next_, .ref slots_, .ref oldest_, .ref newest_, .ref known_, .ref knownBefore_, .int visible_])), (known_, .inl (k_known, 64, .inl F_known))]) (va_A [(h0, .inr (3, [.int size_, .int highest_, .int full_, .ref keys_, .ref stages_, .ref amounts_, .ref predicates_, .ref next_, .ref slots_, .ref oldest_, .ref newest_, .ref known_, .ref knownBefore_, .int visible_])), (known_, .inl (k_known, 64, .inl F_known))] sz)) 0 0 (va_A [(h0, .inr (3, [.int size_, .int highest_, .int full_, .ref keys_, .ref stages_, .ref amounts_, .ref predicates_, .ref next_, .ref slots_, .ref oldest_, .ref newest_, .ref known_, .ref knownBefore_, .int visible_])), (known_, .inl (k_known, 64, .inl F_known))] sz) := by
  refine Met.ofW (cc := cd_Fa_lastOf) (maxL := 2) (ret := (some (.int))) (by decide) rfl ?_
  intro p e s m args below meth c s₁ B hml hv
  obtain ⟨rfl, hsz, hP, hK, hD0⟩ := hv
  have hx := B.exec
  have hb := B.bytes
  have hr := B.returns
  have hT : ∀ w ∈ tblG, w.before _ s = true := fun w h => atoms_spec (ws := (Cond.code my_Fa_lastOf cd_Fa_lastOf 2 (some (.int)) :: tblG)) B.pre w (List.mem_cons_of_mem _ h)
  have hown : s.vm.findClass "StrataBase$Facts" = some m.cls := findClass_of_methodNamed B.named
  have hlocks := B.notSynchronized
  subst hsz
  have hD := hD0.self (sz := s.heap.size)
  generalize hAe : va_A [(h0, .inr (3, [.int size_, .int highest_, .int full_, .ref keys_, .ref stages_, .ref amounts_, .ref predicates_, .ref next_, .ref slots_, .ref oldest_, .ref newest_, .ref known_, .ref knownBefore_, .int visible_])), (known_, .inl (k_known, 64, .inl F_known))] s.heap.size = A at hD ⊢
  have hA : ∀ q : Nat, s.heap.size ≤ q → A q := fun q h => by rw [← hAe]; exact Or.inr h
  have hS : va_S A s.heap s.heap [] := va_S.rf
  have hl := lv_entry ([.ref h0, .int a0]) (n := 2) (Nat.le_of_ble_eq_true rfl)
  rw [lg_entry_eq]
  generalize (lg_sl ([.ref h0, .int a0]) ++ List.replicate (2 - (lg_sl ([.ref h0, .int a0])).length) Slot.unset).toArray = ls at hl ⊢
  have hl : lv_has ls 2 [(0, .ref h0), (1, .int a0)] := hl
  unfold wp_met_Fa_lastOf at hw
  refine lv_aload_n hx hb dc_Fa_lastOf_0 rfl (lv_at hl 0 rfl) ?_
  refine va_get (D := (dC, dI)) (ci := 3) (v := .ref known_) (C := "StrataBase$Facts") (T := tb_Fa) (N := 14) hx hb hT in_Fa hown hK hP 0 rfl rfl 11 (by decide) (hT _ wd_308) (fun _ h9 => h9) rfl dc_Fa_lastOf_1 ?_
  refine lv_iload_n hx hb dc_Fa_lastOf_4 rfl (lv_at hl 1 rfl) ?_
  obtain ⟨hv1, hw⟩ := hw
  refine va_iald hx hb hK hP 1 0 rfl rfl hv1 dc_Fa_lastOf_5 ?_
  refine lv_topi (fun y2 ey2 => ?_)
  have hw := hw y2 ey2
  refine W.widen (k := 0) (n := 0) (Nat.le_of_ble_eq_true rfl) (Nat.le_of_ble_eq_true rfl) ?_
  exact W.iret (v := y2) hx hb hr (fun t ht hW => ⟨⟨y2, (), rfl, hw, by rw [ht]; exact hP, va_K.moved hW.alike hK, hD⟩, hS.F ht⟩) hS.2.2 dc_Fa_lastOf_6

def wp_met_Fa_rankIn (post : Int32 → Unit → Prop) (a0 : Int64) (a1 : Int32) : Prop := ∀ y1 : Int32, y1 = (10 : Int32) * a1 → (∀ y2 : Int32, y2 = (50 : Int32) - y1 → (∀ y3 : Int64, y3 = a0 >>> (y2.toInt64 &&& 63) → (∀ y4 : Int32, y4 = y3.toInt32 → (∀ y5 : Int32, y5 = y4 &&& (1023 : Int32) → (post y5 ())))))
set_option maxHeartbeats 4000000 in
set_option maxRecDepth 100000 in
theorem met_Fa_rankIn (l : Launch) (dC : Nat → ClassId) (dI : Nat → Nat → Nat) (a0 : Int64) (a1 : Int32) (sz : Nat) {post : Int32 → Unit → Prop} (hw : wp_met_Fa_rankIn post a0 a1) : Met l my_Fa_rankIn (Cond.code my_Fa_rankIn cd_Fa_rankIn 3 (some (.int)) :: tblG) ({ frames := 0, cells := 0, slots := 0, locals := 0 }) (va_Pc [.long a0, .int a1] (fun U => U.heap.size = sz ∧ va_P (dC, dI) vwCl [] U.heap ∧ va_K (dC, dI) vwCl [] U ∧ va_D (fun _ => True) [])) (va_Qi post (fun (u : Unit) (t : State) => va_P (dC, dI) vwCl [] t.heap ∧ va_K (dC, dI) vwCl [] t ∧ va_D (va_A [] sz) []) (va_A [] sz)) 0 0 (va_A [] sz) := by
  refine Met.ofW (cc := cd_Fa_rankIn) (maxL := 3) (ret := (some (.int))) (by decide) rfl ?_
  intro p e s m args below meth c s₁ B hml hv
  obtain ⟨rfl, hsz, hP, hK, hD0⟩ := hv
  have hx := B.exec
  have hb := B.bytes
  have hr := B.returns
  have hT : ∀ w ∈ tblG, w.before _ s = true := fun w h => atoms_spec (ws := (Cond.code my_Fa_rankIn cd_Fa_rankIn 3 (some (.int)) :: tblG)) B.pre w (List.mem_cons_of_mem _ h)
  have hown : s.vm.findClass "StrataBase$Facts" = some m.cls := findClass_of_methodNamed B.named
  have hlocks := B.notSynchronized
  subst hsz
  have hD := hD0.self (sz := s.heap.size)
  generalize hAe : va_A [] s.heap.size = A at hD ⊢
  have hA : ∀ q : Nat, s.heap.size ≤ q → A q := fun q h => by rw [← hAe]; exact Or.inr h
  have hS : va_S A s.heap s.heap [] := va_S.rf
  have hl := lv_entry ([.long a0, .int a1]) (n := 3) (Nat.le_of_ble_eq_true rfl)
  rw [lg_entry_eq]
  generalize (lg_sl ([.long a0, .int a1]) ++ List.replicate (3 - (lg_sl ([.long a0, .int a1])).length) Slot.unset).toArray = ls at hl ⊢
  have hl : lv_has ls 3 [(0, .long a0), (2, .int a1)] := hl
  unfold wp_met_Fa_rankIn at hw
  refine lv_lload_n hx hb dc_Fa_rankIn_0 rfl (lv_at hl 0 rfl) ?_
  refine lv_bipush (v := 50) hx hb dc_Fa_rankIn_1 (by decide) ?_
  refine lv_bipush (v := 10) hx hb dc_Fa_rankIn_3 (by decide) ?_
  refine lv_iload_n hx hb dc_Fa_rankIn_5 rfl (lv_at hl 1 rfl) ?_
  refine lv_imul hx hb dc_Fa_rankIn_6 ?_
  refine lv_topi (fun y1 ey1 => ?_)
  have hw := hw y1 ey1
  refine lv_isub hx hb dc_Fa_rankIn_7 ?_
  refine lv_topi (fun y2 ey2 => ?_)
  have hw := hw y2 ey2
  refine lv_lshr (v := a0 >>> (y2.toInt64 &&& 63)) hx hb dc_Fa_rankIn_8 rfl ?_
  refine lv_topl (fun y3 ey3 => ?_)
  have hw := hw y3 ey3
  refine lv_l2i (v := y3.toInt32) hx hb dc_Fa_rankIn_9 rfl ?_
  refine lv_topi (fun y4 ey4 => ?_)
  have hw := hw y4 ey4
  refine lv_sipush (v := 1023) hx hb dc_Fa_rankIn_10 (by decide) ?_
  refine lv_iand hx hb dc_Fa_rankIn_13 ?_
  refine lv_topi (fun y5 ey5 => ?_)
  have hw := hw y5 ey5
  refine W.widen (k := 0) (n := 0) (Nat.le_of_ble_eq_true rfl) (Nat.le_of_ble_eq_true rfl) ?_
  exact W.iret (v := y5) hx hb hr (fun t ht hW => ⟨⟨y5, (), rfl, hw, by rw [ht]; exact hP, va_K.moved hW.alike hK, hD⟩, hS.F ht⟩) hS.2.2 dc_Fa_rankIn_14

def wp_met_Fa_after (post : Int32 → Unit → Prop) (a0 : Int32) (F_next : Nat → Int32) : Prop := vp_in a0 20000 ∧ (∀ y2 : Int32, y2 = F_next a0.toNatClampNeg → (post y2 ()))
set_option maxHeartbeats 4000000 in
set_option maxRecDepth 100000 in
theorem met_Fa_after (l : Launch) (dC : Nat → ClassId) (dI : Nat → Nat → Nat) (h0 : Nat) (keys_ : Nat) (stages_ : Nat) (amounts_ : Nat) (predicates_ : Nat) (next_ : Nat) (slots_ : Nat) (oldest_ : Nat) (newest_ : Nat) (known_ : Nat) (knownBefore_ : Nat) (a0 : Int32) (size_ : Int32) (highest_ : Int32) (full_ : Int32) (visible_ : Int32) (F_next : Nat → Int32) (k_next : ClassId) (sz : Nat) {post : Int32 → Unit → Prop} (hw : wp_met_Fa_after post a0 F_next) : Met l my_Fa_after (Cond.code my_Fa_after cd_Fa_after 2 (some (.int)) :: tblG) ({ frames := 0, cells := 0, slots := 0, locals := 0 }) (va_Pc [.ref h0, .int a0] (fun U => U.heap.size = sz ∧ va_P (dC, dI) vwCl [(h0, .inr (3, [.int size_, .int highest_, .int full_, .ref keys_, .ref stages_, .ref amounts_, .ref predicates_, .ref next_, .ref slots_, .ref oldest_, .ref newest_, .ref known_, .ref knownBefore_, .int visible_])), (next_, .inl (k_next, 20000, .inl F_next))] U.heap ∧ va_K (dC, dI) vwCl [(k_next, .int)] U ∧ va_D (fun _ => True) [(h0, .inr (3, [.int size_, .int highest_, .int full_, .ref keys_, .ref stages_, .ref amounts_, .ref predicates_, .ref next_, .ref slots_, .ref oldest_, .ref newest_, .ref known_, .ref knownBefore_, .int visible_])), (next_, .inl (k_next, 20000, .inl F_next))])) (va_Qi post (fun (u : Unit) (t : State) => va_P (dC, dI) vwCl [(h0, .inr (3, [.int size_, .int highest_, .int full_, .ref keys_, .ref stages_, .ref amounts_, .ref predicates_, .ref next_, .ref slots_, .ref oldest_, .ref newest_, .ref known_, .ref knownBefore_, .int visible_])), (next_, .inl (k_next, 20000, .inl F_next))] t.heap ∧ va_K (dC, dI) vwCl [(k_next, .int)] t ∧ va_D (va_A [(h0, .inr (3, [.int size_, .int highest_, .int full_, .ref keys_, .ref stages_, .ref amounts_, .ref predicates_, .ref next_, .ref slots_, .ref oldest_, .ref newest_, .ref known_, .ref knownBefore_, .int visible_])), (next_, .inl (k_next, 20000, .inl F_next))] sz) [(h0, .inr (3, [.int size_, .int highest_, .int full_, .ref keys_, .ref stages_, .ref amounts_, .ref predicates_, .ref next_, .ref slots_, .ref oldest_, .ref newest_, .ref known_, .ref knownBefore_, .int visible_])), (next_, .inl (k_next, 20000, .inl F_next))]) (va_A [(h0, .inr (3, [.int size_, .int highest_, .int full_, .ref keys_, .ref stages_, .ref amounts_, .ref predicates_, .ref next_, .ref slots_, .ref oldest_, .ref newest_, .ref known_, .ref knownBefore_, .int visible_])), (next_, .inl (k_next, 20000, .inl F_next))] sz)) 0 0 (va_A [(h0, .inr (3, [.int size_, .int highest_, .int full_, .ref keys_, .ref stages_, .ref amounts_, .ref predicates_, .ref next_, .ref slots_, .ref oldest_, .ref newest_, .ref known_, .ref knownBefore_, .int visible_])), (next_, .inl (k_next, 20000, .inl F_next))] sz) := by
  refine Met.ofW (cc := cd_Fa_after) (maxL := 2) (ret := (some (.int))) (by decide) rfl ?_
  intro p e s m args below meth c s₁ B hml hv
  obtain ⟨rfl, hsz, hP, hK, hD0⟩ := hv
  have hx := B.exec
  have hb := B.bytes
  have hr := B.returns
  have hT : ∀ w ∈ tblG, w.before _ s = true := fun w h => atoms_spec (ws := (Cond.code my_Fa_after cd_Fa_after 2 (some (.int)) :: tblG)) B.pre w (List.mem_cons_of_mem _ h)
  have hown : s.vm.findClass "StrataBase$Facts" = some m.cls := findClass_of_methodNamed B.named
  have hlocks := B.notSynchronized
  subst hsz
  have hD := hD0.self (sz := s.heap.size)
  generalize hAe : va_A [(h0, .inr (3, [.int size_, .int highest_, .int full_, .ref keys_, .ref stages_, .ref amounts_, .ref predicates_, .ref next_, .ref slots_, .ref oldest_, .ref newest_, .ref known_, .ref knownBefore_, .int visible_])), (next_, .inl (k_next, 20000, .inl F_next))] s.heap.size = A at hD ⊢
  have hA : ∀ q : Nat, s.heap.size ≤ q → A q := fun q h => by rw [← hAe]; exact Or.inr h
  have hS : va_S A s.heap s.heap [] := va_S.rf
  have hl := lv_entry ([.ref h0, .int a0]) (n := 2) (Nat.le_of_ble_eq_true rfl)
  rw [lg_entry_eq]
  generalize (lg_sl ([.ref h0, .int a0]) ++ List.replicate (2 - (lg_sl ([.ref h0, .int a0])).length) Slot.unset).toArray = ls at hl ⊢
  have hl : lv_has ls 2 [(0, .ref h0), (1, .int a0)] := hl
  unfold wp_met_Fa_after at hw
  refine lv_aload_n hx hb dc_Fa_after_0 rfl (lv_at hl 0 rfl) ?_
  refine va_get (D := (dC, dI)) (ci := 3) (v := .ref next_) (C := "StrataBase$Facts") (T := tb_Fa) (N := 14) hx hb hT in_Fa hown hK hP 0 rfl rfl 7 (by decide) (hT _ wd_304) (fun _ h9 => h9) rfl dc_Fa_after_1 ?_
  refine lv_iload_n hx hb dc_Fa_after_4 rfl (lv_at hl 1 rfl) ?_
  obtain ⟨hv1, hw⟩ := hw
  refine va_iald hx hb hK hP 1 0 rfl rfl hv1 dc_Fa_after_5 ?_
  refine lv_topi (fun y2 ey2 => ?_)
  have hw := hw y2 ey2
  refine W.widen (k := 0) (n := 0) (Nat.le_of_ble_eq_true rfl) (Nat.le_of_ble_eq_true rfl) ?_
  exact W.iret (v := y2) hx hb hr (fun t ht hW => ⟨⟨y2, (), rfl, hw, by rw [ht]; exact hP, va_K.moved hW.alike hK, hD⟩, hS.F ht⟩) hS.2.2 dc_Fa_after_6

def wp_met_Fa_isVisible (post : Int32 → Unit → Prop) (a0 : Int32) (a1 : Int64) (visible_ : Int32) (F_keys : Nat → Int64) (F_predicates : Nat → Int32) (F_slots : Nat → Int32) : Prop := wp_met_Fa_slotOf (fun (r1 : Int32) (_ : Unit) => (vp_in r1 32768 ∧ (∀ y3 : Int32, y3 = F_slots r1.toNatClampNeg → (∀ y4 : Int32, y4 = y3 - (1 : Int32) → (∀ y5 : Int32, y5 = (if y4 = ((-1) : Int32) then (0 : Int32) else (if visible_ ≤ y4 then (0 : Int32) else (1 : Int32))) → (post y5 ())))))) a0 a1 F_keys F_predicates F_slots
set_option maxHeartbeats 4000000 in
set_option maxRecDepth 100000 in
theorem met_Fa_isVisible (l : Launch) (dC : Nat → ClassId) (dI : Nat → Nat → Nat) (h0 : Nat) (keys_ : Nat) (stages_ : Nat) (amounts_ : Nat) (predicates_ : Nat) (next_ : Nat) (slots_ : Nat) (oldest_ : Nat) (newest_ : Nat) (known_ : Nat) (knownBefore_ : Nat) (a0 : Int32) (a1 : Int64) (size_ : Int32) (highest_ : Int32) (full_ : Int32) (visible_ : Int32) (F_keys : Nat → Int64) (F_predicates : Nat → Int32) (F_slots : Nat → Int32) (k_keys : ClassId) (k_predicates : ClassId) (k_slots : ClassId) (sz : Nat) {post : Int32 → Unit → Prop} (hw : wp_met_Fa_isVisible post a0 a1 visible_ F_keys F_predicates F_slots) : Met l my_Fa_isVisible (Cond.code my_Fa_isVisible cd_Fa_isVisible 5 (some (.boolean)) :: tblG) ({ frames := 1, cells := 0, slots := 0, locals := 28 }) (va_Pc [.ref h0, .int a0, .long a1] (fun U => U.heap.size = sz ∧ va_P (dC, dI) vwCl [(h0, .inr (3, [.int size_, .int highest_, .int full_, .ref keys_, .ref stages_, .ref amounts_, .ref predicates_, .ref next_, .ref slots_, .ref oldest_, .ref newest_, .ref known_, .ref knownBefore_, .int visible_])), (keys_, .inl (k_keys, 20000, .inr (.inl F_keys))), (predicates_, .inl (k_predicates, 20000, .inl F_predicates)), (slots_, .inl (k_slots, 32768, .inl F_slots))] U.heap ∧ va_K (dC, dI) vwCl [(k_keys, .long), (k_predicates, .int), (k_slots, .int)] U ∧ va_D (fun _ => True) [(h0, .inr (3, [.int size_, .int highest_, .int full_, .ref keys_, .ref stages_, .ref amounts_, .ref predicates_, .ref next_, .ref slots_, .ref oldest_, .ref newest_, .ref known_, .ref knownBefore_, .int visible_])), (keys_, .inl (k_keys, 20000, .inr (.inl F_keys))), (predicates_, .inl (k_predicates, 20000, .inl F_predicates)), (slots_, .inl (k_slots, 32768, .inl F_slots))])) (va_Qi post (fun (u : Unit) (t : State) => va_P (dC, dI) vwCl [(h0, .inr (3, [.int size_, .int highest_, .int full_, .ref keys_, .ref stages_, .ref amounts_, .ref predicates_, .ref next_, .ref slots_, .ref oldest_, .ref newest_, .ref known_, .ref knownBefore_, .int visible_])), (keys_, .inl (k_keys, 20000, .inr (.inl F_keys))), (predicates_, .inl (k_predicates, 20000, .inl F_predicates)), (slots_, .inl (k_slots, 32768, .inl F_slots))] t.heap ∧ va_K (dC, dI) vwCl [(k_keys, .long), (k_predicates, .int), (k_slots, .int)] t ∧ va_D (va_A [(h0, .inr (3, [.int size_, .int highest_, .int full_, .ref keys_, .ref stages_, .ref amounts_, .ref predicates_, .ref next_, .ref slots_, .ref oldest_, .ref newest_, .ref known_, .ref knownBefore_, .int visible_])), (keys_, .inl (k_keys, 20000, .inr (.inl F_keys))), (predicates_, .inl (k_predicates, 20000, .inl F_predicates)), (slots_, .inl (k_slots, 32768, .inl F_slots))] sz) [(h0, .inr (3, [.int size_, .int highest_, .int full_, .ref keys_, .ref stages_, .ref amounts_, .ref predicates_, .ref next_, .ref slots_, .ref oldest_, .ref newest_, .ref known_, .ref knownBefore_, .int visible_])), (keys_, .inl (k_keys, 20000, .inr (.inl F_keys))), (predicates_, .inl (k_predicates, 20000, .inl F_predicates)), (slots_, .inl (k_slots, 32768, .inl F_slots))]) (va_A [(h0, .inr (3, [.int size_, .int highest_, .int full_, .ref keys_, .ref stages_, .ref amounts_, .ref predicates_, .ref next_, .ref slots_, .ref oldest_, .ref newest_, .ref known_, .ref knownBefore_, .int visible_])), (keys_, .inl (k_keys, 20000, .inr (.inl F_keys))), (predicates_, .inl (k_predicates, 20000, .inl F_predicates)), (slots_, .inl (k_slots, 32768, .inl F_slots))] sz)) 0 0 (va_A [(h0, .inr (3, [.int size_, .int highest_, .int full_, .ref keys_, .ref stages_, .ref amounts_, .ref predicates_, .ref next_, .ref slots_, .ref oldest_, .ref newest_, .ref known_, .ref knownBefore_, .int visible_])), (keys_, .inl (k_keys, 20000, .inr (.inl F_keys))), (predicates_, .inl (k_predicates, 20000, .inl F_predicates)), (slots_, .inl (k_slots, 32768, .inl F_slots))] sz) := by
  refine Met.ofW (cc := cd_Fa_isVisible) (maxL := 5) (ret := (some (.boolean))) (by decide) rfl ?_
  intro p e s m args below meth c s₁ B hml hv
  obtain ⟨rfl, hsz, hP, hK, hD0⟩ := hv
  have hx := B.exec
  have hb := B.bytes
  have hr := B.returns
  have hT : ∀ w ∈ tblG, w.before _ s = true := fun w h => atoms_spec (ws := (Cond.code my_Fa_isVisible cd_Fa_isVisible 5 (some (.boolean)) :: tblG)) B.pre w (List.mem_cons_of_mem _ h)
  have hown : s.vm.findClass "StrataBase$Facts" = some m.cls := findClass_of_methodNamed B.named
  have hlocks := B.notSynchronized
  subst hsz
  have hD := hD0.self (sz := s.heap.size)
  generalize hAe : va_A [(h0, .inr (3, [.int size_, .int highest_, .int full_, .ref keys_, .ref stages_, .ref amounts_, .ref predicates_, .ref next_, .ref slots_, .ref oldest_, .ref newest_, .ref known_, .ref knownBefore_, .int visible_])), (keys_, .inl (k_keys, 20000, .inr (.inl F_keys))), (predicates_, .inl (k_predicates, 20000, .inl F_predicates)), (slots_, .inl (k_slots, 32768, .inl F_slots))] s.heap.size = A at hD ⊢
  have hA : ∀ q : Nat, s.heap.size ≤ q → A q := fun q h => by rw [← hAe]; exact Or.inr h
  have hS : va_S A s.heap s.heap [] := va_S.rf
  have hl := lv_entry ([.ref h0, .int a0, .long a1]) (n := 5) (Nat.le_of_ble_eq_true rfl)
  rw [lg_entry_eq]
  generalize (lg_sl ([.ref h0, .int a0, .long a1]) ++ List.replicate (5 - (lg_sl ([.ref h0, .int a0, .long a1])).length) Slot.unset).toArray = ls at hl ⊢
  have hl : lv_has ls 5 [(0, .ref h0), (1, .int a0), (2, .long a1)] := hl
  unfold wp_met_Fa_isVisible at hw
  refine lv_aload_n hx hb dc_Fa_isVisible_0 rfl (lv_at hl 0 rfl) ?_
  refine va_get (D := (dC, dI)) (ci := 3) (v := .ref slots_) (C := "StrataBase$Facts") (T := tb_Fa) (N := 14) hx hb hT in_Fa hown hK hP 0 rfl rfl 8 (by decide) (hT _ wd_305) (fun _ h9 => h9) rfl dc_Fa_isVisible_1 ?_
  refine lv_aload_n hx hb dc_Fa_isVisible_4 rfl (lv_at hl 0 rfl) ?_
  refine lv_iload_n hx hb dc_Fa_isVisible_5 rfl (lv_at hl 1 rfl) ?_
  refine lv_lload_n hx hb dc_Fa_isVisible_6 rfl (lv_at hl 2 rfl) ?_
  have hPc := hP.sub (ws' := [(h0, .inr (3, [.int size_, .int highest_, .int full_, .ref keys_, .ref stages_, .ref amounts_, .ref predicates_, .ref next_, .ref slots_, .ref oldest_, .ref newest_, .ref known_, .ref knownBefore_, .int visible_])), (keys_, .inl (k_keys, 20000, .inr (.inl F_keys))), (predicates_, .inl (k_predicates, 20000, .inl F_predicates)), (slots_, .inl (k_slots, 32768, .inl F_slots))]) [0, 1, 2, 3] rfl
  have hDc := hD.sub (ws' := [(h0, .inr (3, [.int size_, .int highest_, .int full_, .ref keys_, .ref stages_, .ref amounts_, .ref predicates_, .ref next_, .ref slots_, .ref oldest_, .ref newest_, .ref known_, .ref knownBefore_, .int visible_])), (keys_, .inl (k_keys, 20000, .inr (.inl F_keys))), (predicates_, .inl (k_predicates, 20000, .inl F_predicates)), (slots_, .inl (k_slots, 32768, .inl F_slots))]) [0, 1, 2, 3] (by decide) rfl
  have hKc := hK.sub (tys' := [(k_keys, .long), (k_predicates, .int), (k_slots, .int)]) [0, 1, 2] rfl
  have hFc := va_free (wc := [(h0, .inr (3, [.int size_, .int highest_, .int full_, .ref keys_, .ref stages_, .ref amounts_, .ref predicates_, .ref next_, .ref slots_, .ref oldest_, .ref newest_, .ref known_, .ref knownBefore_, .int visible_])), (keys_, .inl (k_keys, 20000, .inr (.inl F_keys))), (predicates_, .inl (k_predicates, 20000, .inl F_predicates)), (slots_, .inl (k_slots, 32768, .inl F_slots))]) hD hS hA [0, 1, 2, 3] rfl
  refine va_calli (va_runV (As := [.int a0, .long a1]) (rest := [.ref slots_]) ⟨hx, hb, hml, hown, hT⟩ (met_Fa_slotOf l dC dI h0 keys_ stages_ amounts_ predicates_ next_ slots_ oldest_ newest_ known_ knownBefore_ a0 a1 size_ highest_ full_ visible_ F_keys F_predicates F_slots k_keys k_predicates k_slots s.heap.size hw) (cwV 2 hT (gd_V wd_1058 wd_1060 sl_Fa_slotOf wd_8 wd_1061) rfl rfl rfl (by decide +kernel) ⟨Nat.le_of_ble_eq_true rfl, Nat.le_of_ble_eq_true rfl⟩) ⟨fun a U g mk q => by obtain ⟨q0, q1, qP, qK, qD⟩ := q; exact ⟨q0, q1, qP, va_K.moved (u := U) (U := U.calling g mk a) (Vm.Alike.refl U.vm) qK, qD⟩, va_recv hK hP (q0 := 0) (ci := 3) rfl rfl, fun U hU hW => ⟨rfl, by rw [hU], by rw [hU]; exact hPc, va_K.moved hW.alike hKc, hDc.weaken (fun _ _ _ _ => trivial)⟩⟩ rfl rfl hl.1 rfl (lv_room (Nat.le_of_ble_eq_true rfl)) dc_Fa_isVisible_7 ⟨(Nat.le_of_ble_eq_true rfl), (Nat.le_of_ble_eq_true rfl)⟩) hS (fun q _ h => hFc q h) hFc (fun r1 _ t H1 locs ht hvm hw hB hz1 hk1 hS => ?_)
  obtain ⟨hP1, hK1, hD1⟩ := hB
  rw [ht] at hP1
  have hK1 := va_K.moved hvm.symm hK1
  obtain ⟨hP, hD⟩ := va_join (wr := []) (w1 := [(h0, .inr (3, [.int size_, .int highest_, .int full_, .ref keys_, .ref stages_, .ref amounts_, .ref predicates_, .ref next_, .ref slots_, .ref oldest_, .ref newest_, .ref known_, .ref knownBefore_, .int visible_])), (keys_, .inl (k_keys, 20000, .inr (.inl F_keys))), (predicates_, .inl (k_predicates, 20000, .inl F_predicates)), (slots_, .inl (k_slots, 32768, .inl F_slots))]) hP hD [0, 1, 2, 3] [] rfl rfl (by decide) (by decide) hk1 hFc hP1 hD1
  have hK := (hK.sub (tys' := []) [] rfl).app hK1
  generalize H1 = H at hP hS ⊢
  have hP : va_P (dC, dI) vwCl [(h0, .inr (3, [.int size_, .int highest_, .int full_, .ref keys_, .ref stages_, .ref amounts_, .ref predicates_, .ref next_, .ref slots_, .ref oldest_, .ref newest_, .ref known_, .ref knownBefore_, .int visible_])), (keys_, .inl (k_keys, 20000, .inr (.inl F_keys))), (predicates_, .inl (k_predicates, 20000, .inl F_predicates)), (slots_, .inl (k_slots, 32768, .inl F_slots))] H := hP
  have hD : va_D A [(h0, .inr (3, [.int size_, .int highest_, .int full_, .ref keys_, .ref stages_, .ref amounts_, .ref predicates_, .ref next_, .ref slots_, .ref oldest_, .ref newest_, .ref known_, .ref knownBefore_, .int visible_])), (keys_, .inl (k_keys, 20000, .inr (.inl F_keys))), (predicates_, .inl (k_predicates, 20000, .inl F_predicates)), (slots_, .inl (k_slots, 32768, .inl F_slots))] := hD
  have hK : va_K (dC, dI) vwCl [(k_keys, .long), (k_predicates, .int), (k_slots, .int)] s := hK
  obtain ⟨hv2, hw⟩ := hw
  refine va_iald hx hb hK hP 3 2 rfl rfl hv2 dc_Fa_isVisible_10 ?_
  refine lv_topi (fun y3 ey3 => ?_)
  have hw := hw y3 ey3
  refine lv_iconst (v := 1) hx hb dc_Fa_isVisible_11 (by decide) ?_
  refine lv_isub hx hb dc_Fa_isVisible_12 ?_
  refine lv_topi (fun y4 ey4 => ?_)
  have hw := hw y4 ey4
  refine lv_istore (lv' := [(4, .int y4), (0, .ref h0), (1, .int a0), (2, .long a1)]) hx hb dc_Fa_isVisible_13 hl (by decide) rfl (fun ls hl => ?_)
  refine lv_iload hx hb dc_Fa_isVisible_15 (lv_at hl 0 rfl) ?_
  refine lv_iconst (v := (-1)) hx hb dc_Fa_isVisible_17 (by decide) ?_
  refine jn_top (pc2 := 35) (rest := []) (fun y5 => y5 = (if y4 = ((-1) : Int32) then (0 : Int32) else (if visible_ ≤ y4 then (0 : Int32) else (1 : Int32)))) (fun y5 ey5 => ?_) (fun k9 => ?_)
  rotate_left
  · refine lv_icmp_eq (tgt := 34) hx hb dc_Fa_isVisible_18 (by decide) (fun h18 => ?_) (fun h18 => ?_)
    · refine lv_iconst (v := 0) hx hb dc_Fa_isVisible_34 (by decide) ?_
      exact k9 (0 : Int32) (by rw [if_pos h18])
    · refine lv_iload hx hb dc_Fa_isVisible_21 (lv_at hl 0 rfl) ?_
      refine lv_aload_n hx hb dc_Fa_isVisible_23 rfl (lv_at hl 1 rfl) ?_
      refine va_get (D := (dC, dI)) (ci := 3) (v := .int visible_) (C := "StrataBase$Facts") (T := tb_Fa) (N := 14) hx hb hT in_Fa hown hK hP 0 rfl rfl 13 (by decide) (hT _ wd_310) (fun _ h9 => h9) rfl dc_Fa_isVisible_24 ?_
      refine lv_icmp_ge (tgt := 34) hx hb dc_Fa_isVisible_27 (by decide) (fun h27 => ?_) (fun h27 => ?_)
      · refine lv_iconst (v := 0) hx hb dc_Fa_isVisible_34 (by decide) ?_
        exact k9 (0 : Int32) (by rw [if_neg h18, if_pos h27])
      · refine lv_iconst (v := 1) hx hb dc_Fa_isVisible_30 (by decide) ?_
        refine lv_goto (tgt := 35) hx hb dc_Fa_isVisible_31 (by decide) ?_
        exact k9 (1 : Int32) (by rw [if_neg h18, if_neg h27])
  have hw := hw y5 ey5
  have hzy5 : y5 = 0 ∨ y5 = 1 := by
    rw [ey5]; repeat' split
    all_goals first | exact Or.inl rfl | exact Or.inr rfl
  refine W.widen (k := 0) (n := 0) (Nat.le_of_ble_eq_true rfl) (Nat.le_of_ble_eq_true rfl) ?_
  exact W.zret (v := y5) hx hb hr (nz_n hzy5) (fun t ht hW => ⟨⟨y5, (), rfl, hw, by rw [ht]; exact hP, va_K.moved hW.alike hK, hD⟩, hS.F ht⟩) hS.2.2 dc_Fa_isVisible_35

def wp_met_Fa_find (post : Int32 → Unit → Prop) (a0 : Int32) (a1 : Int64) (F_keys : Nat → Int64) (F_predicates : Nat → Int32) (F_slots : Nat → Int32) : Prop := wp_met_Fa_slotOf (fun (r1 : Int32) (_ : Unit) => (vp_in r1 32768 ∧ (∀ y3 : Int32, y3 = F_slots r1.toNatClampNeg → (∀ y4 : Int32, y4 = y3 - (1 : Int32) → (post y4 ()))))) a0 a1 F_keys F_predicates F_slots
set_option maxHeartbeats 4000000 in
set_option maxRecDepth 100000 in
theorem met_Fa_find (l : Launch) (dC : Nat → ClassId) (dI : Nat → Nat → Nat) (h0 : Nat) (keys_ : Nat) (stages_ : Nat) (amounts_ : Nat) (predicates_ : Nat) (next_ : Nat) (slots_ : Nat) (oldest_ : Nat) (newest_ : Nat) (known_ : Nat) (knownBefore_ : Nat) (a0 : Int32) (a1 : Int64) (size_ : Int32) (highest_ : Int32) (full_ : Int32) (visible_ : Int32) (F_keys : Nat → Int64) (F_predicates : Nat → Int32) (F_slots : Nat → Int32) (k_keys : ClassId) (k_predicates : ClassId) (k_slots : ClassId) (sz : Nat) {post : Int32 → Unit → Prop} (hw : wp_met_Fa_find post a0 a1 F_keys F_predicates F_slots) : Met l my_Fa_find (Cond.code my_Fa_find cd_Fa_find 4 (some (.int)) :: tblG) ({ frames := 1, cells := 0, slots := 0, locals := 28 }) (va_Pc [.ref h0, .int a0, .long a1] (fun U => U.heap.size = sz ∧ va_P (dC, dI) vwCl [(h0, .inr (3, [.int size_, .int highest_, .int full_, .ref keys_, .ref stages_, .ref amounts_, .ref predicates_, .ref next_, .ref slots_, .ref oldest_, .ref newest_, .ref known_, .ref knownBefore_, .int visible_])), (keys_, .inl (k_keys, 20000, .inr (.inl F_keys))), (predicates_, .inl (k_predicates, 20000, .inl F_predicates)), (slots_, .inl (k_slots, 32768, .inl F_slots))] U.heap ∧ va_K (dC, dI) vwCl [(k_keys, .long), (k_predicates, .int), (k_slots, .int)] U ∧ va_D (fun _ => True) [(h0, .inr (3, [.int size_, .int highest_, .int full_, .ref keys_, .ref stages_, .ref amounts_, .ref predicates_, .ref next_, .ref slots_, .ref oldest_, .ref newest_, .ref known_, .ref knownBefore_, .int visible_])), (keys_, .inl (k_keys, 20000, .inr (.inl F_keys))), (predicates_, .inl (k_predicates, 20000, .inl F_predicates)), (slots_, .inl (k_slots, 32768, .inl F_slots))])) (va_Qi post (fun (u : Unit) (t : State) => va_P (dC, dI) vwCl [(h0, .inr (3, [.int size_, .int highest_, .int full_, .ref keys_, .ref stages_, .ref amounts_, .ref predicates_, .ref next_, .ref slots_, .ref oldest_, .ref newest_, .ref known_, .ref knownBefore_, .int visible_])), (keys_, .inl (k_keys, 20000, .inr (.inl F_keys))), (predicates_, .inl (k_predicates, 20000, .inl F_predicates)), (slots_, .inl (k_slots, 32768, .inl F_slots))] t.heap ∧ va_K (dC, dI) vwCl [(k_keys, .long), (k_predicates, .int), (k_slots, .int)] t ∧ va_D (va_A [(h0, .inr (3, [.int size_, .int highest_, .int full_, .ref keys_, .ref stages_, .ref amounts_, .ref predicates_, .ref next_, .ref slots_, .ref oldest_, .ref newest_, .ref known_, .ref knownBefore_, .int visible_])), (keys_, .inl (k_keys, 20000, .inr (.inl F_keys))), (predicates_, .inl (k_predicates, 20000, .inl F_predicates)), (slots_, .inl (k_slots, 32768, .inl F_slots))] sz) [(h0, .inr (3, [.int size_, .int highest_, .int full_, .ref keys_, .ref stages_, .ref amounts_, .ref predicates_, .ref next_, .ref slots_, .ref oldest_, .ref newest_, .ref known_, .ref knownBefore_, .int visible_])), (keys_, .inl (k_keys, 20000, .inr (.inl F_keys))), (predicates_, .inl (k_predicates, 20000, .inl F_predicates)), (slots_, .inl (k_slots, 32768, .inl F_slots))]) (va_A [(h0, .inr (3, [.int size_, .int highest_, .int full_, .ref keys_, .ref stages_, .ref amounts_, .ref predicates_, .ref next_, .ref slots_, .ref oldest_, .ref newest_, .ref known_, .ref knownBefore_, .int visible_])), (keys_, .inl (k_keys, 20000, .inr (.inl F_keys))), (predicates_, .inl (k_predicates, 20000, .inl F_predicates)), (slots_, .inl (k_slots, 32768, .inl F_slots))] sz)) 0 0 (va_A [(h0, .inr (3, [.int size_, .int highest_, .int full_, .ref keys_, .ref stages_, .ref amounts_, .ref predicates_, .ref next_, .ref slots_, .ref oldest_, .ref newest_, .ref known_, .ref knownBefore_, .int visible_])), (keys_, .inl (k_keys, 20000, .inr (.inl F_keys))), (predicates_, .inl (k_predicates, 20000, .inl F_predicates)), (slots_, .inl (k_slots, 32768, .inl F_slots))] sz) := by
  refine Met.ofW (cc := cd_Fa_find) (maxL := 4) (ret := (some (.int))) (by decide) rfl ?_
  intro p e s m args below meth c s₁ B hml hv
  obtain ⟨rfl, hsz, hP, hK, hD0⟩ := hv
  have hx := B.exec
  have hb := B.bytes
  have hr := B.returns
  have hT : ∀ w ∈ tblG, w.before _ s = true := fun w h => atoms_spec (ws := (Cond.code my_Fa_find cd_Fa_find 4 (some (.int)) :: tblG)) B.pre w (List.mem_cons_of_mem _ h)
  have hown : s.vm.findClass "StrataBase$Facts" = some m.cls := findClass_of_methodNamed B.named
  have hlocks := B.notSynchronized
  subst hsz
  have hD := hD0.self (sz := s.heap.size)
  generalize hAe : va_A [(h0, .inr (3, [.int size_, .int highest_, .int full_, .ref keys_, .ref stages_, .ref amounts_, .ref predicates_, .ref next_, .ref slots_, .ref oldest_, .ref newest_, .ref known_, .ref knownBefore_, .int visible_])), (keys_, .inl (k_keys, 20000, .inr (.inl F_keys))), (predicates_, .inl (k_predicates, 20000, .inl F_predicates)), (slots_, .inl (k_slots, 32768, .inl F_slots))] s.heap.size = A at hD ⊢
  have hA : ∀ q : Nat, s.heap.size ≤ q → A q := fun q h => by rw [← hAe]; exact Or.inr h
  have hS : va_S A s.heap s.heap [] := va_S.rf
  have hl := lv_entry ([.ref h0, .int a0, .long a1]) (n := 4) (Nat.le_of_ble_eq_true rfl)
  rw [lg_entry_eq]
  generalize (lg_sl ([.ref h0, .int a0, .long a1]) ++ List.replicate (4 - (lg_sl ([.ref h0, .int a0, .long a1])).length) Slot.unset).toArray = ls at hl ⊢
  have hl : lv_has ls 4 [(0, .ref h0), (1, .int a0), (2, .long a1)] := hl
  unfold wp_met_Fa_find at hw
  refine lv_aload_n hx hb dc_Fa_find_0 rfl (lv_at hl 0 rfl) ?_
  refine va_get (D := (dC, dI)) (ci := 3) (v := .ref slots_) (C := "StrataBase$Facts") (T := tb_Fa) (N := 14) hx hb hT in_Fa hown hK hP 0 rfl rfl 8 (by decide) (hT _ wd_305) (fun _ h9 => h9) rfl dc_Fa_find_1 ?_
  refine lv_aload_n hx hb dc_Fa_find_4 rfl (lv_at hl 0 rfl) ?_
  refine lv_iload_n hx hb dc_Fa_find_5 rfl (lv_at hl 1 rfl) ?_
  refine lv_lload_n hx hb dc_Fa_find_6 rfl (lv_at hl 2 rfl) ?_
  have hPc := hP.sub (ws' := [(h0, .inr (3, [.int size_, .int highest_, .int full_, .ref keys_, .ref stages_, .ref amounts_, .ref predicates_, .ref next_, .ref slots_, .ref oldest_, .ref newest_, .ref known_, .ref knownBefore_, .int visible_])), (keys_, .inl (k_keys, 20000, .inr (.inl F_keys))), (predicates_, .inl (k_predicates, 20000, .inl F_predicates)), (slots_, .inl (k_slots, 32768, .inl F_slots))]) [0, 1, 2, 3] rfl
  have hDc := hD.sub (ws' := [(h0, .inr (3, [.int size_, .int highest_, .int full_, .ref keys_, .ref stages_, .ref amounts_, .ref predicates_, .ref next_, .ref slots_, .ref oldest_, .ref newest_, .ref known_, .ref knownBefore_, .int visible_])), (keys_, .inl (k_keys, 20000, .inr (.inl F_keys))), (predicates_, .inl (k_predicates, 20000, .inl F_predicates)), (slots_, .inl (k_slots, 32768, .inl F_slots))]) [0, 1, 2, 3] (by decide) rfl
  have hKc := hK.sub (tys' := [(k_keys, .long), (k_predicates, .int), (k_slots, .int)]) [0, 1, 2] rfl
  have hFc := va_free (wc := [(h0, .inr (3, [.int size_, .int highest_, .int full_, .ref keys_, .ref stages_, .ref amounts_, .ref predicates_, .ref next_, .ref slots_, .ref oldest_, .ref newest_, .ref known_, .ref knownBefore_, .int visible_])), (keys_, .inl (k_keys, 20000, .inr (.inl F_keys))), (predicates_, .inl (k_predicates, 20000, .inl F_predicates)), (slots_, .inl (k_slots, 32768, .inl F_slots))]) hD hS hA [0, 1, 2, 3] rfl
  refine va_calli (va_runV (As := [.int a0, .long a1]) (rest := [.ref slots_]) ⟨hx, hb, hml, hown, hT⟩ (met_Fa_slotOf l dC dI h0 keys_ stages_ amounts_ predicates_ next_ slots_ oldest_ newest_ known_ knownBefore_ a0 a1 size_ highest_ full_ visible_ F_keys F_predicates F_slots k_keys k_predicates k_slots s.heap.size hw) (cwV 2 hT (gd_V wd_1058 wd_1060 sl_Fa_slotOf wd_8 wd_1061) rfl rfl rfl (by decide +kernel) ⟨Nat.le_of_ble_eq_true rfl, Nat.le_of_ble_eq_true rfl⟩) ⟨fun a U g mk q => by obtain ⟨q0, q1, qP, qK, qD⟩ := q; exact ⟨q0, q1, qP, va_K.moved (u := U) (U := U.calling g mk a) (Vm.Alike.refl U.vm) qK, qD⟩, va_recv hK hP (q0 := 0) (ci := 3) rfl rfl, fun U hU hW => ⟨rfl, by rw [hU], by rw [hU]; exact hPc, va_K.moved hW.alike hKc, hDc.weaken (fun _ _ _ _ => trivial)⟩⟩ rfl rfl hl.1 rfl (lv_room (Nat.le_of_ble_eq_true rfl)) dc_Fa_find_7 ⟨(Nat.le_of_ble_eq_true rfl), (Nat.le_of_ble_eq_true rfl)⟩) hS (fun q _ h => hFc q h) hFc (fun r1 _ t H1 locs ht hvm hw hB hz1 hk1 hS => ?_)
  obtain ⟨hP1, hK1, hD1⟩ := hB
  rw [ht] at hP1
  have hK1 := va_K.moved hvm.symm hK1
  obtain ⟨hP, hD⟩ := va_join (wr := []) (w1 := [(h0, .inr (3, [.int size_, .int highest_, .int full_, .ref keys_, .ref stages_, .ref amounts_, .ref predicates_, .ref next_, .ref slots_, .ref oldest_, .ref newest_, .ref known_, .ref knownBefore_, .int visible_])), (keys_, .inl (k_keys, 20000, .inr (.inl F_keys))), (predicates_, .inl (k_predicates, 20000, .inl F_predicates)), (slots_, .inl (k_slots, 32768, .inl F_slots))]) hP hD [0, 1, 2, 3] [] rfl rfl (by decide) (by decide) hk1 hFc hP1 hD1
  have hK := (hK.sub (tys' := []) [] rfl).app hK1
  generalize H1 = H at hP hS ⊢
  have hP : va_P (dC, dI) vwCl [(h0, .inr (3, [.int size_, .int highest_, .int full_, .ref keys_, .ref stages_, .ref amounts_, .ref predicates_, .ref next_, .ref slots_, .ref oldest_, .ref newest_, .ref known_, .ref knownBefore_, .int visible_])), (keys_, .inl (k_keys, 20000, .inr (.inl F_keys))), (predicates_, .inl (k_predicates, 20000, .inl F_predicates)), (slots_, .inl (k_slots, 32768, .inl F_slots))] H := hP
  have hD : va_D A [(h0, .inr (3, [.int size_, .int highest_, .int full_, .ref keys_, .ref stages_, .ref amounts_, .ref predicates_, .ref next_, .ref slots_, .ref oldest_, .ref newest_, .ref known_, .ref knownBefore_, .int visible_])), (keys_, .inl (k_keys, 20000, .inr (.inl F_keys))), (predicates_, .inl (k_predicates, 20000, .inl F_predicates)), (slots_, .inl (k_slots, 32768, .inl F_slots))] := hD
  have hK : va_K (dC, dI) vwCl [(k_keys, .long), (k_predicates, .int), (k_slots, .int)] s := hK
  obtain ⟨hv2, hw⟩ := hw
  refine va_iald hx hb hK hP 3 2 rfl rfl hv2 dc_Fa_find_10 ?_
  refine lv_topi (fun y3 ey3 => ?_)
  have hw := hw y3 ey3
  refine lv_iconst (v := 1) hx hb dc_Fa_find_11 (by decide) ?_
  refine lv_isub hx hb dc_Fa_find_12 ?_
  refine lv_topi (fun y4 ey4 => ?_)
  have hw := hw y4 ey4
  refine W.widen (k := 0) (n := 0) (Nat.le_of_ble_eq_true rfl) (Nat.le_of_ble_eq_true rfl) ?_
  exact W.iret (v := y4) hx hb hr (fun t ht hW => ⟨⟨y4, (), rfl, hw, by rw [ht]; exact hP, va_K.moved hW.alike hK, hD⟩, hS.F ht⟩) hS.2.2 dc_Fa_find_13
