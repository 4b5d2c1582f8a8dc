theorem dc_In_compare_0 : decode cd_In_compare 0 = .ok (.iload_n 0, 1) := by decide +kernel
theorem dc_In_compare_1 : decode cd_In_compare 1 = .ok (.iload_n 1, 1) := by decide +kernel
theorem dc_In_compare_2 : decode cd_In_compare 2 = .ok (.if_icmp .ge 7, 3) := by decide +kernel
theorem dc_In_compare_5 : decode cd_In_compare 5 = .ok (.iconst (-1), 1) := by decide +kernel
theorem dc_In_compare_6 : decode cd_In_compare 6 = .ok (.goto 13, 3) := by decide +kernel
theorem dc_In_compare_9 : decode cd_In_compare 9 = .ok (.iload_n 0, 1) := by decide +kernel
theorem dc_In_compare_10 : decode cd_In_compare 10 = .ok (.iload_n 1, 1) := by decide +kernel
theorem dc_In_compare_11 : decode cd_In_compare 11 = .ok (.if_icmp .ne 7, 3) := by decide +kernel
theorem dc_In_compare_14 : decode cd_In_compare 14 = .ok (.iconst 0, 1) := by decide +kernel
theorem dc_In_compare_15 : decode cd_In_compare 15 = .ok (.goto 4, 3) := by decide +kernel
theorem dc_In_compare_18 : decode cd_In_compare 18 = .ok (.iconst 1, 1) := by decide +kernel
theorem dc_In_compare_19 : decode cd_In_compare 19 = .ok (.ireturn, 1) := by decide +kernel
theorem dc_Ar_copyOf_0 : decode cd_Ar_copyOf 0 = .ok (.iload_n 1, 1) := by decide +kernel
theorem dc_Ar_copyOf_1 : decode cd_Ar_copyOf 1 = .ok (.aload_n 0, 1) := by decide +kernel
theorem dc_Ar_copyOf_2 : decode cd_Ar_copyOf 2 = .ok (.arraylength, 1) := by decide +kernel
theorem dc_Ar_copyOf_3 : decode cd_Ar_copyOf 3 = .ok (.if_icmp .ne 11, 3) := by decide +kernel
theorem dc_Ar_copyOf_14 : decode cd_Ar_copyOf 14 = .ok (.iload_n 1, 1) := by decide +kernel
theorem dc_Ar_copyOf_15 : decode cd_Ar_copyOf 15 = .ok (.newarray .byte, 2) := by decide +kernel
theorem dc_Ar_copyOf_17 : decode cd_Ar_copyOf 17 = .ok (.astore_n 2, 1) := by decide +kernel
theorem dc_Ar_copyOf_18 : decode cd_Ar_copyOf 18 = .ok (.aload_n 0, 1) := by decide +kernel
theorem dc_Ar_copyOf_19 : decode cd_Ar_copyOf 19 = .ok (.iconst 0, 1) := by decide +kernel
theorem dc_Ar_copyOf_20 : decode cd_Ar_copyOf 20 = .ok (.aload_n 2, 1) := by decide +kernel
theorem dc_Ar_copyOf_21 : decode cd_Ar_copyOf 21 = .ok (.iconst 0, 1) := by decide +kernel
theorem dc_Ar_copyOf_22 : decode cd_Ar_copyOf 22 = .ok (.aload_n 0, 1) := by decide +kernel
theorem dc_Ar_copyOf_23 : decode cd_Ar_copyOf 23 = .ok (.arraylength, 1) := by decide +kernel
theorem dc_Ar_copyOf_24 : decode cd_Ar_copyOf 24 = .ok (.iload_n 1, 1) := by decide +kernel
theorem dc_Ar_copyOf_25 : decode cd_Ar_copyOf 25 = .ok (.invokestatic 304, 3) := by decide +kernel
theorem dc_Ar_copyOf_28 : decode cd_Ar_copyOf 28 = .ok (.invokestatic 150, 3) := by decide +kernel
theorem dc_Ar_copyOf_31 : decode cd_Ar_copyOf 31 = .ok (.aload_n 2, 1) := by decide +kernel
theorem dc_Ar_copyOf_32 : decode cd_Ar_copyOf 32 = .ok (.areturn, 1) := by decide +kernel
theorem dc_To_isDigit_0 : decode cd_To_isDigit 0 = .ok (.iload_n 0, 1) := by decide +kernel
theorem dc_To_isDigit_1 : decode cd_To_isDigit 1 = .ok (.bipush 48, 2) := by decide +kernel
theorem dc_To_isDigit_3 : decode cd_To_isDigit 3 = .ok (.if_icmp .lt 13, 3) := by decide +kernel
theorem dc_To_isDigit_6 : decode cd_To_isDigit 6 = .ok (.iload_n 0, 1) := by decide +kernel
theorem dc_To_isDigit_7 : decode cd_To_isDigit 7 = .ok (.bipush 57, 2) := by decide +kernel
theorem dc_To_isDigit_9 : decode cd_To_isDigit 9 = .ok (.if_icmp .gt 7, 3) := by decide +kernel
theorem dc_To_isDigit_12 : decode cd_To_isDigit 12 = .ok (.iconst 1, 1) := by decide +kernel
theorem dc_To_isDigit_13 : decode cd_To_isDigit 13 = .ok (.goto 4, 3) := by decide +kernel
theorem dc_To_isDigit_16 : decode cd_To_isDigit 16 = .ok (.iconst 0, 1) := by decide +kernel
theorem dc_To_isDigit_17 : decode cd_To_isDigit 17 = .ok (.ireturn, 1) := by decide +kernel
theorem dc_To_isSmall_0 : decode cd_To_isSmall 0 = .ok (.iload_n 0, 1) := by decide +kernel
theorem dc_To_isSmall_1 : decode cd_To_isSmall 1 = .ok (.bipush 97, 2) := by decide +kernel
theorem dc_To_isSmall_3 : decode cd_To_isSmall 3 = .ok (.if_icmp .lt 13, 3) := by decide +kernel
theorem dc_To_isSmall_6 : decode cd_To_isSmall 6 = .ok (.iload_n 0, 1) := by decide +kernel
theorem dc_To_isSmall_7 : decode cd_To_isSmall 7 = .ok (.bipush 122, 2) := by decide +kernel
theorem dc_To_isSmall_9 : decode cd_To_isSmall 9 = .ok (.if_icmp .gt 7, 3) := by decide +kernel
theorem dc_To_isSmall_12 : decode cd_To_isSmall 12 = .ok (.iconst 1, 1) := by decide +kernel
theorem dc_To_isSmall_13 : decode cd_To_isSmall 13 = .ok (.goto 4, 3) := by decide +kernel
theorem dc_To_isSmall_16 : decode cd_To_isSmall 16 = .ok (.iconst 0, 1) := by decide +kernel
theorem dc_To_isSmall_17 : decode cd_To_isSmall 17 = .ok (.ireturn, 1) := by decide +kernel
theorem dc_To_isBlank_0 : decode cd_To_isBlank 0 = .ok (.iload_n 0, 1) := by decide +kernel
theorem dc_To_isBlank_1 : decode cd_To_isBlank 1 = .ok (.bipush 9, 2) := by decide +kernel
theorem dc_To_isBlank_3 : decode cd_To_isBlank 3 = .ok (.if_icmp .eq 21, 3) := by decide +kernel
theorem dc_To_isBlank_6 : decode cd_To_isBlank 6 = .ok (.iload_n 0, 1) := by decide +kernel
theorem dc_To_isBlank_7 : decode cd_To_isBlank 7 = .ok (.bipush 10, 2) := by decide +kernel
theorem dc_To_isBlank_9 : decode cd_To_isBlank 9 = .ok (.if_icmp .eq 15, 3) := by decide +kernel
theorem dc_To_isBlank_12 : decode cd_To_isBlank 12 = .ok (.iload_n 0, 1) := by decide +kernel
theorem dc_To_isBlank_13 : decode cd_To_isBlank 13 = .ok (.bipush 13, 2) := by decide +kernel
theorem dc_To_isBlank_15 : decode cd_To_isBlank 15 = .ok (.if_icmp .eq 9, 3) := by decide +kernel
theorem dc_To_isBlank_18 : decode cd_To_isBlank 18 = .ok (.iload_n 0, 1) := by decide +kernel
theorem dc_To_isBlank_19 : decode cd_To_isBlank 19 = .ok (.bipush 32, 2) := by decide +kernel
theorem dc_To_isBlank_21 : decode cd_To_isBlank 21 = .ok (.if_icmp .ne 7, 3) := by decide +kernel
theorem dc_To_isBlank_24 : decode cd_To_isBlank 24 = .ok (.iconst 1, 1) := by decide +kernel
theorem dc_To_isBlank_25 : decode cd_To_isBlank 25 = .ok (.goto 4, 3) := by decide +kernel
theorem dc_To_isBlank_28 : decode cd_To_isBlank 28 = .ok (.iconst 0, 1) := by decide +kernel
theorem dc_To_isBlank_29 : decode cd_To_isBlank 29 = .ok (.ireturn, 1) := by decide +kernel
theorem dc_Mo_isDigit_0 : decode cd_Mo_isDigit 0 = .ok (.iload_n 0, 1) := by decide +kernel
theorem dc_Mo_isDigit_1 : decode cd_Mo_isDigit 1 = .ok (.bipush 48, 2) := by decide +kernel
theorem dc_Mo_isDigit_3 : decode cd_Mo_isDigit 3 = .ok (.if_icmp .lt 13, 3) := by decide +kernel
theorem dc_Mo_isDigit_6 : decode cd_Mo_isDigit 6 = .ok (.iload_n 0, 1) := by decide +kernel
theorem dc_Mo_isDigit_7 : decode cd_Mo_isDigit 7 = .ok (.bipush 57, 2) := by decide +kernel
theorem dc_Mo_isDigit_9 : decode cd_Mo_isDigit 9 = .ok (.if_icmp .gt 7, 3) := by decide +kernel
theorem dc_Mo_isDigit_12 : decode cd_Mo_isDigit 12 = .ok (.iconst 1, 1) := by decide +kernel
theorem dc_Mo_isDigit_13 : decode cd_Mo_isDigit 13 = .ok (.goto 4, 3) := by decide +kernel
theorem dc_Mo_isDigit_16 : decode cd_Mo_isDigit 16 = .ok (.iconst 0, 1) := by decide +kernel
theorem dc_Mo_isDigit_17 : decode cd_Mo_isDigit 17 = .ok (.ireturn, 1) := by decide +kernel
theorem dc_Mo_isSmall_0 : decode cd_Mo_isSmall 0 = .ok (.iload_n 0, 1) := by decide +kernel
theorem dc_Mo_isSmall_1 : decode cd_Mo_isSmall 1 = .ok (.bipush 97, 2) := by decide +kernel
theorem dc_Mo_isSmall_3 : decode cd_Mo_isSmall 3 = .ok (.if_icmp .lt 13, 3) := by decide +kernel
theorem dc_Mo_isSmall_6 : decode cd_Mo_isSmall 6 = .ok (.iload_n 0, 1) := by decide +kernel
theorem dc_Mo_isSmall_7 : decode cd_Mo_isSmall 7 = .ok (.bipush 122, 2) := by decide +kernel
theorem dc_Mo_isSmall_9 : decode cd_Mo_isSmall 9 = .ok (.if_icmp .gt 7, 3) := by decide +kernel
theorem dc_Mo_isSmall_12 : decode cd_Mo_isSmall 12 = .ok (.iconst 1, 1) := by decide +kernel
theorem dc_Mo_isSmall_13 : decode cd_Mo_isSmall 13 = .ok (.goto 4, 3) := by decide +kernel
theorem dc_Mo_isSmall_16 : decode cd_Mo_isSmall 16 = .ok (.iconst 0, 1) := by decide +kernel
theorem dc_Mo_isSmall_17 : decode cd_Mo_isSmall 17 = .ok (.ireturn, 1) := by decide +kernel
theorem dc_Mo_isBlank_0 : decode cd_Mo_isBlank 0 = .ok (.iload_n 0, 1) := by decide +kernel
theorem dc_Mo_isBlank_1 : decode cd_Mo_isBlank 1 = .ok (.bipush 9, 2) := by decide +kernel
theorem dc_Mo_isBlank_3 : decode cd_Mo_isBlank 3 = .ok (.if_icmp .eq 21, 3) := by decide +kernel
theorem dc_Mo_isBlank_6 : decode cd_Mo_isBlank 6 = .ok (.iload_n 0, 1) := by decide +kernel
theorem dc_Mo_isBlank_7 : decode cd_Mo_isBlank 7 = .ok (.bipush 10, 2) := by decide +kernel
theorem dc_Mo_isBlank_9 : decode cd_Mo_isBlank 9 = .ok (.if_icmp .eq 15, 3) := by decide +kernel
theorem dc_Mo_isBlank_12 : decode cd_Mo_isBlank 12 = .ok (.iload_n 0, 1) := by decide +kernel
theorem dc_Mo_isBlank_13 : decode cd_Mo_isBlank 13 = .ok (.bipush 13, 2) := by decide +kernel
theorem dc_Mo_isBlank_15 : decode cd_Mo_isBlank 15 = .ok (.if_icmp .eq 9, 3) := by decide +kernel
theorem dc_Mo_isBlank_18 : decode cd_Mo_isBlank 18 = .ok (.iload_n 0, 1) := by decide +kernel
theorem dc_Mo_isBlank_19 : decode cd_Mo_isBlank 19 = .ok (.bipush 32, 2) := by decide +kernel
theorem dc_Mo_isBlank_21 : decode cd_Mo_isBlank 21 = .ok (.if_icmp .ne 7, 3) := by decide +kernel
theorem dc_Mo_isBlank_24 : decode cd_Mo_isBlank 24 = .ok (.iconst 1, 1) := by decide +kernel
theorem dc_Mo_isBlank_25 : decode cd_Mo_isBlank 25 = .ok (.goto 4, 3) := by decide +kernel
theorem dc_Mo_isBlank_28 : decode cd_Mo_isBlank 28 = .ok (.iconst 0, 1) := by decide +kernel
theorem dc_Mo_isBlank_29 : decode cd_Mo_isBlank 29 = .ok (.ireturn, 1) := by decide +kernel
theorem dc_Na_clear_0 : decode cd_Na_clear 0 = .ok (.aload_n 0, 1) := by decide +kernel
theorem dc_Na_clear_1 : decode cd_Na_clear 1 = .ok (.iconst 0, 1) := by decide +kernel
theorem dc_Na_clear_2 : decode cd_Na_clear 2 = .ok (.putfield 22, 3) := by decide +kernel
theorem dc_Na_clear_5 : decode cd_Na_clear 5 = .ok (.aload_n 0, 1) := by decide +kernel
theorem dc_Na_clear_6 : decode cd_Na_clear 6 = .ok (.iconst 0, 1) := by decide +kernel
theorem dc_Na_clear_7 : decode cd_Na_clear 7 = .ok (.putfield 26, 3) := by decide +kernel
theorem dc_Na_clear_10 : decode cd_Na_clear 10 = .ok (.return_, 1) := by decide +kernel
theorem dc_Cl_clear_0 : decode cd_Cl_clear 0 = .ok (.aload_n 0, 1) := by decide +kernel
theorem dc_Cl_clear_1 : decode cd_Cl_clear 1 = .ok (.iconst 0, 1) := by decide +kernel
theorem dc_Cl_clear_2 : decode cd_Cl_clear 2 = .ok (.putfield 33, 3) := by decide +kernel
theorem dc_Cl_clear_5 : decode cd_Cl_clear 5 = .ok (.aload_n 0, 1) := by decide +kernel
theorem dc_Cl_clear_6 : decode cd_Cl_clear 6 = .ok (.iconst 0, 1) := by decide +kernel
theorem dc_Cl_clear_7 : decode cd_Cl_clear 7 = .ok (.putfield 37, 3) := by decide +kernel
theorem dc_Cl_clear_10 : decode cd_Cl_clear 10 = .ok (.return_, 1) := by decide +kernel
theorem dc_Cl_newest_0 : decode cd_Cl_newest 0 = .ok (.aload_n 0, 1) := by decide +kernel
theorem dc_Cl_newest_1 : decode cd_Cl_newest 1 = .ok (.getfield 37, 3) := by decide +kernel
theorem dc_Cl_newest_4 : decode cd_Cl_newest 4 = .ok (.iconst 1, 1) := by decide +kernel
theorem dc_Cl_newest_5 : decode cd_Cl_newest 5 = .ok (.isub, 1) := by decide +kernel
theorem dc_Cl_newest_6 : decode cd_Cl_newest 6 = .ok (.ireturn, 1) := by decide +kernel
theorem dc_Fa_shiftOf_0 : decode cd_Fa_shiftOf 0 = .ok (.bipush 50, 2) := by decide +kernel
theorem dc_Fa_shiftOf_2 : decode cd_Fa_shiftOf 2 = .ok (.bipush 10, 2) := by decide +kernel
theorem dc_Fa_shiftOf_4 : decode cd_Fa_shiftOf 4 = .ok (.iload_n 0, 1) := by decide +kernel
theorem dc_Fa_shiftOf_5 : decode cd_Fa_shiftOf 5 = .ok (.imul, 1) := by decide +kernel
theorem dc_Fa_shiftOf_6 : decode cd_Fa_shiftOf 6 = .ok (.isub, 1) := by decide +kernel
theorem dc_Fa_shiftOf_7 : decode cd_Fa_shiftOf 7 = .ok (.ireturn, 1) := by decide +kernel
theorem dc_Na_lengthOf_0 : decode cd_Na_lengthOf 0 = .ok (.aload_n 0, 1) := by decide +kernel
theorem dc_Na_lengthOf_1 : decode cd_Na_lengthOf 1 = .ok (.getfield 15, 3) := by decide +kernel
theorem dc_Na_lengthOf_4 : decode cd_Na_lengthOf 4 = .ok (.iload_n 1, 1) := by decide +kernel
theorem dc_Na_lengthOf_5 : decode cd_Na_lengthOf 5 = .ok (.iaload, 1) := by decide +kernel
theorem dc_Na_lengthOf_6 : decode cd_Na_lengthOf 6 = .ok (.ireturn, 1) := by decide +kernel
theorem dc_To_isWordByte_0 : decode cd_To_isWordByte 0 = .ok (.iload_n 0, 1) := by decide +kernel
theorem dc_To_isWordByte_1 : decode cd_To_isWordByte 1 = .ok (.invokestatic 51, 3) := by decide +kernel
theorem dc_To_isWordByte_4 : decode cd_To_isWordByte 4 = .ok (.ifCond .ne 28, 3) := by decide +kernel
theorem dc_To_isWordByte_7 : decode cd_To_isWordByte 7 = .ok (.iload_n 0, 1) := by decide +kernel
theorem dc_To_isWordByte_8 : decode cd_To_isWordByte 8 = .ok (.bipush 65, 2) := by decide +kernel
theorem dc_To_isWordByte_10 : decode cd_To_isWordByte 10 = .ok (.if_icmp .lt 9, 3) := by decide +kernel
theorem dc_To_isWordByte_13 : decode cd_To_isWordByte 13 = .ok (.iload_n 0, 1) := by decide +kernel
theorem dc_To_isWordByte_14 : decode cd_To_isWordByte 14 = .ok (.bipush 90, 2) := by decide +kernel
theorem dc_To_isWordByte_16 : decode cd_To_isWordByte 16 = .ok (.if_icmp .le 16, 3) := by decide +kernel
theorem dc_To_isWordByte_19 : decode cd_To_isWordByte 19 = .ok (.iload_n 0, 1) := by decide +kernel
theorem dc_To_isWordByte_20 : decode cd_To_isWordByte 20 = .ok (.bipush 95, 2) := by decide +kernel
theorem dc_To_isWordByte_22 : decode cd_To_isWordByte 22 = .ok (.if_icmp .eq 10, 3) := by decide +kernel
theorem dc_To_isWordByte_25 : decode cd_To_isWordByte 25 = .ok (.iload_n 0, 1) := by decide +kernel
theorem dc_To_isWordByte_26 : decode cd_To_isWordByte 26 = .ok (.invokestatic 36, 3) := by decide +kernel
theorem dc_To_isWordByte_29 : decode cd_To_isWordByte 29 = .ok (.ifCond .eq 7, 3) := by decide +kernel
theorem dc_To_isWordByte_32 : decode cd_To_isWordByte 32 = .ok (.iconst 1, 1) := by decide +kernel
theorem dc_To_isWordByte_33 : decode cd_To_isWordByte 33 = .ok (.goto 4, 3) := by decide +kernel
theorem dc_To_isWordByte_36 : decode cd_To_isWordByte 36 = .ok (.iconst 0, 1) := by decide +kernel
theorem dc_To_isWordByte_37 : decode cd_To_isWordByte 37 = .ok (.ireturn, 1) := by decide +kernel
theorem dc_Mo_isWord_0 : decode cd_Mo_isWord 0 = .ok (.iload_n 0, 1) := by decide +kernel
theorem dc_Mo_isWord_1 : decode cd_Mo_isWord 1 = .ok (.invokestatic 144, 3) := by decide +kernel
theorem dc_Mo_isWord_4 : decode cd_Mo_isWord 4 = .ok (.ifCond .ne 28, 3) := by decide +kernel
theorem dc_Mo_isWord_7 : decode cd_Mo_isWord 7 = .ok (.iload_n 0, 1) := by decide +kernel
theorem dc_Mo_isWord_8 : decode cd_Mo_isWord 8 = .ok (.invokestatic 148, 3) := by decide +kernel
theorem dc_Mo_isWord_11 : decode cd_Mo_isWord 11 = .ok (.ifCond .ne 21, 3) := by decide +kernel
theorem dc_Mo_isWord_14 : decode cd_Mo_isWord 14 = .ok (.iload_n 0, 1) := by decide +kernel
theorem dc_Mo_isWord_15 : decode cd_Mo_isWord 15 = .ok (.bipush 65, 2) := by decide +kernel
theorem dc_Mo_isWord_17 : decode cd_Mo_isWord 17 = .ok (.if_icmp .lt 9, 3) := by decide +kernel
theorem dc_Mo_isWord_20 : decode cd_Mo_isWord 20 = .ok (.iload_n 0, 1) := by decide +kernel
theorem dc_Mo_isWord_21 : decode cd_Mo_isWord 21 = .ok (.bipush 90, 2) := by decide +kernel
theorem dc_Mo_isWord_23 : decode cd_Mo_isWord 23 = .ok (.if_icmp .le 9, 3) := by decide +kernel
theorem dc_Mo_isWord_26 : decode cd_Mo_isWord 26 = .ok (.iload_n 0, 1) := by decide +kernel
theorem dc_Mo_isWord_27 : decode cd_Mo_isWord 27 = .ok (.bipush 95, 2) := by decide +kernel
theorem dc_Mo_isWord_29 : decode cd_Mo_isWord 29 = .ok (.if_icmp .ne 7, 3) := by decide +kernel
theorem dc_Mo_isWord_32 : decode cd_Mo_isWord 32 = .ok (.iconst 1, 1) := by decide +kernel
theorem dc_Mo_isWord_33 : decode cd_Mo_isWord 33 = .ok (.goto 4, 3) := by decide +kernel
theorem dc_Mo_isWord_36 : decode cd_Mo_isWord 36 = .ok (.iconst 0, 1) := by decide +kernel
theorem dc_Mo_isWord_37 : decode cd_Mo_isWord 37 = .ok (.ireturn, 1) := by decide +kernel
theorem dc_Co_clear_0 : decode cd_Co_clear 0 = .ok (.aload_n 0, 1) := by decide +kernel
theorem dc_Co_clear_1 : decode cd_Co_clear 1 = .ok (.getfield 14, 3) := by decide +kernel
theorem dc_Co_clear_4 : decode cd_Co_clear 4 = .ok (.invokevirtual 30, 3) := by decide +kernel
theorem dc_Co_clear_7 : decode cd_Co_clear 7 = .ok (.return_, 1) := by decide +kernel
theorem dc_Co_size_0 : decode cd_Co_size 0 = .ok (.aload_n 0, 1) := by decide +kernel
theorem dc_Co_size_1 : decode cd_Co_size 1 = .ok (.getfield 14, 3) := by decide +kernel
theorem dc_Co_size_4 : decode cd_Co_size 4 = .ok (.getfield 33, 3) := by decide +kernel
theorem dc_Co_size_7 : decode cd_Co_size 7 = .ok (.ireturn, 1) := by decide +kernel
theorem dc_Cl_setTerm_0 : decode cd_Cl_setTerm 0 = .ok (.aload_n 0, 1) := by decide +kernel
theorem dc_Cl_setTerm_1 : decode cd_Cl_setTerm 1 = .ok (.getfield 30, 3) := by decide +kernel
theorem dc_Cl_setTerm_4 : decode cd_Cl_setTerm 4 = .ok (.iload_n 1, 1) := by decide +kernel
theorem dc_Cl_setTerm_5 : decode cd_Cl_setTerm 5 = .ok (.bipush 6, 2) := by decide +kernel
theorem dc_Cl_setTerm_7 : decode cd_Cl_setTerm 7 = .ok (.imul, 1) := by decide +kernel
theorem dc_Cl_setTerm_8 : decode cd_Cl_setTerm 8 = .ok (.iload_n 2, 1) := by decide +kernel
theorem dc_Cl_setTerm_9 : decode cd_Cl_setTerm 9 = .ok (.iadd, 1) := by decide +kernel
theorem dc_Cl_setTerm_10 : decode cd_Cl_setTerm 10 = .ok (.iload_n 3, 1) := by decide +kernel
theorem dc_Cl_setTerm_11 : decode cd_Cl_setTerm 11 = .ok (.iastore, 1) := by decide +kernel
theorem dc_Cl_setTerm_12 : decode cd_Cl_setTerm 12 = .ok (.return_, 1) := by decide +kernel
theorem dc_Cl_term_0 : decode cd_Cl_term 0 = .ok (.aload_n 0, 1) := by decide +kernel
theorem dc_Cl_term_1 : decode cd_Cl_term 1 = .ok (.getfield 30, 3) := by decide +kernel
theorem dc_Cl_term_4 : decode cd_Cl_term 4 = .ok (.iload_n 1, 1) := by decide +kernel
theorem dc_Cl_term_5 : decode cd_Cl_term 5 = .ok (.bipush 6, 2) := by decide +kernel
theorem dc_Cl_term_7 : decode cd_Cl_term 7 = .ok (.imul, 1) := by decide +kernel
theorem dc_Cl_term_8 : decode cd_Cl_term 8 = .ok (.iload_n 2, 1) := by decide +kernel
theorem dc_Cl_term_9 : decode cd_Cl_term 9 = .ok (.iadd, 1) := by decide +kernel
theorem dc_Cl_term_10 : decode cd_Cl_term 10 = .ok (.iaload, 1) := by decide +kernel
theorem dc_Cl_term_11 : decode cd_Cl_term 11 = .ok (.ireturn, 1) := by decide +kernel
theorem dc_Cl_close_0 : decode cd_Cl_close 0 = .ok (.aload_n 0, 1) := by decide +kernel
theorem dc_Cl_close_1 : decode cd_Cl_close 1 = .ok (.dup, 1) := by decide +kernel
theorem dc_Cl_close_2 : decode cd_Cl_close 2 = .ok (.getfield 33, 3) := by decide +kernel
theorem dc_Cl_close_5 : decode cd_Cl_close 5 = .ok (.iconst 1, 1) := by decide +kernel
theorem dc_Cl_close_6 : decode cd_Cl_close 6 = .ok (.iadd, 1) := by decide +kernel
theorem dc_Cl_close_7 : decode cd_Cl_close 7 = .ok (.putfield 33, 3) := by decide +kernel
theorem dc_Cl_close_10 : decode cd_Cl_close 10 = .ok (.aload_n 0, 1) := by decide +kernel
theorem dc_Cl_close_11 : decode cd_Cl_close 11 = .ok (.getfield 11, 3) := by decide +kernel
theorem dc_Cl_close_14 : decode cd_Cl_close 14 = .ok (.aload_n 0, 1) := by decide +kernel
theorem dc_Cl_close_15 : decode cd_Cl_close 15 = .ok (.getfield 33, 3) := by decide +kernel
theorem dc_Cl_close_18 : decode cd_Cl_close 18 = .ok (.aload_n 0, 1) := by decide +kernel
theorem dc_Cl_close_19 : decode cd_Cl_close 19 = .ok (.getfield 37, 3) := by decide +kernel
theorem dc_Cl_close_22 : decode cd_Cl_close 22 = .ok (.iastore, 1) := by decide +kernel
theorem dc_Cl_close_23 : decode cd_Cl_close 23 = .ok (.return_, 1) := by decide +kernel
theorem dc_Cl_open_0 : decode cd_Cl_open 0 = .ok (.aload_n 0, 1) := by decide +kernel
theorem dc_Cl_open_1 : decode cd_Cl_open 1 = .ok (.getfield 15, 3) := by decide +kernel
theorem dc_Cl_open_4 : decode cd_Cl_open 4 = .ok (.aload_n 0, 1) := by decide +kernel
theorem dc_Cl_open_5 : decode cd_Cl_open 5 = .ok (.getfield 37, 3) := by decide +kernel
theorem dc_Cl_open_8 : decode cd_Cl_open 8 = .ok (.iload_n 1, 1) := by decide +kernel
theorem dc_Cl_open_9 : decode cd_Cl_open 9 = .ok (.iastore, 1) := by decide +kernel
theorem dc_Cl_open_10 : decode cd_Cl_open 10 = .ok (.aload_n 0, 1) := by decide +kernel
theorem dc_Cl_open_11 : decode cd_Cl_open 11 = .ok (.getfield 21, 3) := by decide +kernel
theorem dc_Cl_open_14 : decode cd_Cl_open 14 = .ok (.aload_n 0, 1) := by decide +kernel
theorem dc_Cl_open_15 : decode cd_Cl_open 15 = .ok (.getfield 37, 3) := by decide +kernel
theorem dc_Cl_open_18 : decode cd_Cl_open 18 = .ok (.iload_n 2, 1) := by decide +kernel
theorem dc_Cl_open_19 : decode cd_Cl_open 19 = .ok (.iastore, 1) := by decide +kernel
theorem dc_Cl_open_20 : decode cd_Cl_open 20 = .ok (.aload_n 0, 1) := by decide +kernel
theorem dc_Cl_open_21 : decode cd_Cl_open 21 = .ok (.getfield 18, 3) := by decide +kernel
theorem dc_Cl_open_24 : decode cd_Cl_open 24 = .ok (.aload_n 0, 1) := by decide +kernel
theorem dc_Cl_open_25 : decode cd_Cl_open 25 = .ok (.getfield 37, 3) := by decide +kernel
theorem dc_Cl_open_28 : decode cd_Cl_open 28 = .ok (.iconst (-1), 1) := by decide +kernel
theorem dc_Cl_open_29 : decode cd_Cl_open 29 = .ok (.iastore, 1) := by decide +kernel
theorem dc_Cl_open_30 : decode cd_Cl_open 30 = .ok (.aload_n 0, 1) := by decide +kernel
theorem dc_Cl_open_31 : decode cd_Cl_open 31 = .ok (.getfield 24, 3) := by decide +kernel
theorem dc_Cl_open_34 : decode cd_Cl_open 34 = .ok (.aload_n 0, 1) := by decide +kernel
theorem dc_Cl_open_35 : decode cd_Cl_open 35 = .ok (.getfield 37, 3) := by decide +kernel
theorem dc_Cl_open_38 : decode cd_Cl_open 38 = .ok (.iconst 0, 1) := by decide +kernel
theorem dc_Cl_open_39 : decode cd_Cl_open 39 = .ok (.iastore, 1) := by decide +kernel
theorem dc_Cl_open_40 : decode cd_Cl_open 40 = .ok (.aload_n 0, 1) := by decide +kernel
theorem dc_Cl_open_41 : decode cd_Cl_open 41 = .ok (.getfield 27, 3) := by decide +kernel
theorem dc_Cl_open_44 : decode cd_Cl_open 44 = .ok (.aload_n 0, 1) := by decide +kernel
theorem dc_Cl_open_45 : decode cd_Cl_open 45 = .ok (.getfield 37, 3) := by decide +kernel
theorem dc_Cl_open_48 : decode cd_Cl_open 48 = .ok (.iconst 0, 1) := by decide +kernel
theorem dc_Cl_open_49 : decode cd_Cl_open 49 = .ok (.iastore, 1) := by decide +kernel
theorem dc_Cl_open_50 : decode cd_Cl_open 50 = .ok (.aload_n 0, 1) := by decide +kernel
theorem dc_Cl_open_51 : decode cd_Cl_open 51 = .ok (.dup, 1) := by decide +kernel
theorem dc_Cl_open_52 : decode cd_Cl_open 52 = .ok (.getfield 37, 3) := by decide +kernel
theorem dc_Cl_open_55 : decode cd_Cl_open 55 = .ok (.iconst 1, 1) := by decide +kernel
theorem dc_Cl_open_56 : decode cd_Cl_open 56 = .ok (.iadd, 1) := by decide +kernel
theorem dc_Cl_open_57 : decode cd_Cl_open 57 = .ok (.putfield 37, 3) := by decide +kernel
theorem dc_Cl_open_60 : decode cd_Cl_open 60 = .ok (.return_, 1) := by decide +kernel
theorem dc_Ar_fill_0 : decode cd_Ar_fill 0 = .ok (.iconst 0, 1) := by decide +kernel
theorem dc_Ar_fill_1 : decode cd_Ar_fill 1 = .ok (.istore_n 2, 1) := by decide +kernel
theorem dc_Ar_fill_2 : decode cd_Ar_fill 2 = .ok (.aload_n 0, 1) := by decide +kernel
theorem dc_Ar_fill_3 : decode cd_Ar_fill 3 = .ok (.arraylength, 1) := by decide +kernel
theorem dc_Ar_fill_4 : decode cd_Ar_fill 4 = .ok (.istore_n 3, 1) := by decide +kernel
theorem dc_Ar_fill_5 : decode cd_Ar_fill 5 = .ok (.iload_n 2, 1) := by decide +kernel
theorem dc_Ar_fill_6 : decode cd_Ar_fill 6 = .ok (.iload_n 3, 1) := by decide +kernel
theorem dc_Ar_fill_7 : decode cd_Ar_fill 7 = .ok (.if_icmp .ge 13, 3) := by decide +kernel
theorem dc_Ar_fill_10 : decode cd_Ar_fill 10 = .ok (.aload_n 0, 1) := by decide +kernel
theorem dc_Ar_fill_11 : decode cd_Ar_fill 11 = .ok (.iload_n 2, 1) := by decide +kernel
theorem dc_Ar_fill_12 : decode cd_Ar_fill 12 = .ok (.iload_n 1, 1) := by decide +kernel
theorem dc_Ar_fill_13 : decode cd_Ar_fill 13 = .ok (.iastore, 1) := by decide +kernel
theorem dc_Ar_fill_14 : decode cd_Ar_fill 14 = .ok (.iinc 2 1, 3) := by decide +kernel
theorem dc_Ar_fill_17 : decode cd_Ar_fill 17 = .ok (.goto (-12), 3) := by decide +kernel
theorem dc_Ar_fill_20 : decode cd_Ar_fill 20 = .ok (.return_, 1) := by decide +kernel
theorem dc_Na_compare_0 : decode cd_Na_compare 0 = .ok (.aload_n 0, 1) := by decide +kernel
theorem dc_Na_compare_1 : decode cd_Na_compare 1 = .ok (.getfield 15, 3) := by decide +kernel
theorem dc_Na_compare_4 : decode cd_Na_compare 4 = .ok (.iload_n 1, 1) := by decide +kernel
theorem dc_Na_compare_5 : decode cd_Na_compare 5 = .ok (.iaload, 1) := by decide +kernel
theorem dc_Na_compare_6 : decode cd_Na_compare 6 = .ok (.iload 4, 2) := by decide +kernel
theorem dc_Na_compare_8 : decode cd_Na_compare 8 = .ok (.if_icmp .ge 12, 3) := by decide +kernel
theorem dc_Na_compare_11 : decode cd_Na_compare 11 = .ok (.aload_n 0, 1) := by decide +kernel
theorem dc_Na_compare_12 : decode cd_Na_compare 12 = .ok (.getfield 15, 3) := by decide +kernel
theorem dc_Na_compare_15 : decode cd_Na_compare 15 = .ok (.iload_n 1, 1) := by decide +kernel
theorem dc_Na_compare_16 : decode cd_Na_compare 16 = .ok (.iaload, 1) := by decide +kernel
theorem dc_Na_compare_17 : decode cd_Na_compare 17 = .ok (.goto 5, 3) := by decide +kernel
theorem dc_Na_compare_20 : decode cd_Na_compare 20 = .ok (.iload 4, 2) := by decide +kernel
theorem dc_Na_compare_22 : decode cd_Na_compare 22 = .ok (.istore 5, 2) := by decide +kernel
theorem dc_Na_compare_24 : decode cd_Na_compare 24 = .ok (.iconst 0, 1) := by decide +kernel
theorem dc_Na_compare_25 : decode cd_Na_compare 25 = .ok (.istore 6, 2) := by decide +kernel
theorem dc_Na_compare_27 : decode cd_Na_compare 27 = .ok (.iload 6, 2) := by decide +kernel
theorem dc_Na_compare_29 : decode cd_Na_compare 29 = .ok (.iload 5, 2) := by decide +kernel
theorem dc_Na_compare_31 : decode cd_Na_compare 31 = .ok (.if_icmp .ge 40, 3) := by decide +kernel
theorem dc_Na_compare_34 : decode cd_Na_compare 34 = .ok (.aload_n 0, 1) := by decide +kernel
theorem dc_Na_compare_35 : decode cd_Na_compare 35 = .ok (.getfield 18, 3) := by decide +kernel
theorem dc_Na_compare_38 : decode cd_Na_compare 38 = .ok (.aload_n 0, 1) := by decide +kernel
theorem dc_Na_compare_39 : decode cd_Na_compare 39 = .ok (.getfield 9, 3) := by decide +kernel
theorem dc_Na_compare_42 : decode cd_Na_compare 42 = .ok (.iload_n 1, 1) := by decide +kernel
theorem dc_Na_compare_43 : decode cd_Na_compare 43 = .ok (.iaload, 1) := by decide +kernel
theorem dc_Na_compare_44 : decode cd_Na_compare 44 = .ok (.iload 6, 2) := by decide +kernel
theorem dc_Na_compare_46 : decode cd_Na_compare 46 = .ok (.iadd, 1) := by decide +kernel
theorem dc_Na_compare_47 : decode cd_Na_compare 47 = .ok (.baload, 1) := by decide +kernel
theorem dc_Na_compare_48 : decode cd_Na_compare 48 = .ok (.aload_n 2, 1) := by decide +kernel
theorem dc_Na_compare_49 : decode cd_Na_compare 49 = .ok (.iload_n 3, 1) := by decide +kernel
theorem dc_Na_compare_50 : decode cd_Na_compare 50 = .ok (.iload 6, 2) := by decide +kernel
theorem dc_Na_compare_52 : decode cd_Na_compare 52 = .ok (.iadd, 1) := by decide +kernel
theorem dc_Na_compare_53 : decode cd_Na_compare 53 = .ok (.baload, 1) := by decide +kernel
theorem dc_Na_compare_54 : decode cd_Na_compare 54 = .ok (.isub, 1) := by decide +kernel
theorem dc_Na_compare_55 : decode cd_Na_compare 55 = .ok (.istore 7, 2) := by decide +kernel
theorem dc_Na_compare_57 : decode cd_Na_compare 57 = .ok (.iload 7, 2) := by decide +kernel
theorem dc_Na_compare_59 : decode cd_Na_compare 59 = .ok (.ifCond .eq 6, 3) := by decide +kernel
theorem dc_Na_compare_62 : decode cd_Na_compare 62 = .ok (.iload 7, 2) := by decide +kernel
theorem dc_Na_compare_64 : decode cd_Na_compare 64 = .ok (.ireturn, 1) := by decide +kernel
theorem dc_Na_compare_65 : decode cd_Na_compare 65 = .ok (.iinc 6 1, 3) := by decide +kernel
theorem dc_Na_compare_68 : decode cd_Na_compare 68 = .ok (.goto (-41), 3) := by decide +kernel
theorem dc_Na_compare_71 : decode cd_Na_compare 71 = .ok (.aload_n 0, 1) := by decide +kernel
theorem dc_Na_compare_72 : decode cd_Na_compare 72 = .ok (.getfield 15, 3) := by decide +kernel
theorem dc_Na_compare_75 : decode cd_Na_compare 75 = .ok (.iload_n 1, 1) := by decide +kernel
theorem dc_Na_compare_76 : decode cd_Na_compare 76 = .ok (.iaload, 1) := by decide +kernel
theorem dc_Na_compare_77 : decode cd_Na_compare 77 = .ok (.iload 4, 2) := by decide +kernel
theorem dc_Na_compare_79 : decode cd_Na_compare 79 = .ok (.isub, 1) := by decide +kernel
theorem dc_Na_compare_80 : decode cd_Na_compare 80 = .ok (.ireturn, 1) := by decide +kernel
theorem dc_Na_find_0 : decode cd_Na_find 0 = .ok (.iconst 0, 1) := by decide +kernel
theorem dc_Na_find_1 : decode cd_Na_find 1 = .ok (.istore 4, 2) := by decide +kernel
theorem dc_Na_find_3 : decode cd_Na_find 3 = .ok (.iload 4, 2) := by decide +kernel
theorem dc_Na_find_5 : decode cd_Na_find 5 = .ok (.aload_n 0, 1) := by decide +kernel
theorem dc_Na_find_6 : decode cd_Na_find 6 = .ok (.getfield 22, 3) := by decide +kernel
theorem dc_Na_find_9 : decode cd_Na_find 9 = .ok (.if_icmp .ge 35, 3) := by decide +kernel
theorem dc_Na_find_12 : decode cd_Na_find 12 = .ok (.aload_n 0, 1) := by decide +kernel
theorem dc_Na_find_13 : decode cd_Na_find 13 = .ok (.getfield 15, 3) := by decide +kernel
theorem dc_Na_find_16 : decode cd_Na_find 16 = .ok (.iload 4, 2) := by decide +kernel
theorem dc_Na_find_18 : decode cd_Na_find 18 = .ok (.iaload, 1) := by decide +kernel
theorem dc_Na_find_19 : decode cd_Na_find 19 = .ok (.iload_n 3, 1) := by decide +kernel
theorem dc_Na_find_20 : decode cd_Na_find 20 = .ok (.if_icmp .ne 18, 3) := by decide +kernel
theorem dc_Na_find_23 : decode cd_Na_find 23 = .ok (.aload_n 0, 1) := by decide +kernel
theorem dc_Na_find_24 : decode cd_Na_find 24 = .ok (.iload 4, 2) := by decide +kernel
theorem dc_Na_find_26 : decode cd_Na_find 26 = .ok (.aload_n 1, 1) := by decide +kernel
theorem dc_Na_find_27 : decode cd_Na_find 27 = .ok (.iload_n 2, 1) := by decide +kernel
theorem dc_Na_find_28 : decode cd_Na_find 28 = .ok (.iload_n 3, 1) := by decide +kernel
theorem dc_Na_find_29 : decode cd_Na_find 29 = .ok (.invokevirtual 29, 3) := by decide +kernel
theorem dc_Na_find_32 : decode cd_Na_find 32 = .ok (.ifCond .ne 6, 3) := by decide +kernel
theorem dc_Na_find_35 : decode cd_Na_find 35 = .ok (.iload 4, 2) := by decide +kernel
theorem dc_Na_find_37 : decode cd_Na_find 37 = .ok (.ireturn, 1) := by decide +kernel
theorem dc_Na_find_38 : decode cd_Na_find 38 = .ok (.iinc 4 1, 3) := by decide +kernel
theorem dc_Na_find_41 : decode cd_Na_find 41 = .ok (.goto (-38), 3) := by decide +kernel
theorem dc_Na_find_44 : decode cd_Na_find 44 = .ok (.iconst (-1), 1) := by decide +kernel
theorem dc_Na_find_45 : decode cd_Na_find 45 = .ok (.ireturn, 1) := by decide +kernel
theorem nz_n {y : Int32} (h : y = 0 ∨ y = 1) : narrow .boolean (.int y) = .int y := by rcases h with rfl | rfl <;> decide
theorem nz_f {y : Int32} (h : y = 0 ∨ y = 1) : fits .boolean (.int y) = true := by rcases h with rfl | rfl <;> decide
theorem sw_ne {x : Int32} {c : Int32} {k : Int} (h : ¬ x = c) (hk : c.toInt = k) : ¬ x.toInt = k := fun q => h (Int32.toInt_inj.mp (q.trans hk.symm))
theorem sw_off {k : Int} {d : Int} : ∀ (ps : List (Int × Int)), (∀ q ∈ ps, ¬ k = q.1) → Op.lookupswitch.offset ps d k = d
  | [], _ => rfl
  | (a, o) :: r, h => by
    rw [Op.lookupswitch.offset_cons, if_neg (fun q => h (a, o) List.mem_cons_self q.symm)]
    exact sw_off r (fun q hq => h q (List.mem_cons_of_mem _ hq))
section JxRows
variable {p : Program} {l : Launch} {e : Env} {R : Room} {s : State} {m : MethodId} {args : Array Value} {below : List Frame} {meth : Method} {c : Code} {cells slots : Nat} {Q : State → Prop}
/-- two roads that hand one long on to the same row -/
theorem jn_topl {H : Heap} {locs : List Loc} {pc pc2 : Nat} {ls : Array Slot} {rest st0 : List Value} (Cnd : Int64 → Prop)
    (k : ∀ y : Int64, Cnd y → W p l e R s m args below meth c H locs cells slots Q (F0 m pc2 ls (.long y :: rest)))
    (g : (∀ y : Int64, Cnd y → W p l e R s m args below meth c H locs cells slots Q (F0 m pc2 ls (.long y :: rest))) → W p l e R s m args below meth c H locs cells slots Q (F0 m pc ls st0)) : W p l e R s m args below meth c H locs cells slots Q (F0 m pc ls st0) := g k
/-- roads that come to the same row, with something on the stack -/
theorem jn_st {σ : Type} {H : Heap} {locs : List Loc} {pc pc2 : Nat} {ls : Array Slot} {st0 : List Value} (F : σ → Prop) (st : σ → List Value) (Inv : σ → Heap → List Loc → Array Slot → Prop)
    (k : ∀ x : σ, F x → ∀ (H : Heap) (locs : List Loc) (ls : Array Slot), Inv x H locs ls → W p l e R s m args below meth c H locs cells slots Q (F0 m pc2 ls (st x)))
    (g : (∀ x : σ, F x → ∀ (H : Heap) (locs : List Loc) (ls : Array Slot), Inv x H locs ls → W p l e R s m args below meth c H locs cells slots Q (F0 m pc2 ls (st x))) → W p l e R s m args below meth c H locs cells slots Q (F0 m pc ls st0)) : W p l e R s m args below meth c H locs cells slots Q (F0 m pc ls st0) := g k
end JxRows
def fm {α : Type} (g : Nat → α) : List α := [g 0, g 1, g 2, g 3, g 4, g 5, g 6, g 7, g 8, g 9, g 10, g 11]
def fup {α : Type} (f : Nat → α) (k : Nat) (x : α) : Nat → α := fun j => if j = k then x else f j
theorem fup_self {α : Type} (f : Nat → α) (k : Nat) (x : α) : fup f k x k = x := by simp [fup]
theorem fup_ne {α : Type} (f : Nat → α) {k : Nat} (x : α) {j : Nat} (h : j ≠ k) : fup f k x j = f j := by simp [fup, h]
theorem fm_at {α : Type} {g : Nat → α} {X : Nat} (h : X < 12) : (fm g)[X]? = some (g X) := by
  have h9 : X = 0 ∨ X = 1 ∨ X = 2 ∨ X = 3 ∨ X = 4 ∨ X = 5 ∨ X = 6 ∨ X = 7 ∨ X = 8 ∨ X = 9 ∨ X = 10 ∨ X = 11 := by omega
  rcases h9 with rfl | rfl | rfl | rfl | rfl | rfl | rfl | rfl | rfl | rfl | rfl | rfl <;> rfl
theorem fm_get {α : Type} {L R : List α} {g : Nat → α} {X n : Nat} (h : X < 12) (hn : L.length = n) : (L ++ (fm g ++ R))[n + X]? = some (g X) := by
  subst hn
  rw [List.getElem?_append_right (by omega), Nat.add_sub_cancel_left, List.getElem?_append_left (by show X < 12; exact h)]
  exact fm_at h
theorem fm_set {α : Type} {L R : List α} {g g2 : Nat → α} {X n : Nat} {e : α} (h : X < 12) (hn : L.length = n) (he : e = g2 X) (ho : ∀ i, i ≠ X → g2 i = g i) : (L ++ (fm g ++ R)).set (n + X) e = L ++ (fm g2 ++ R) := by
  subst hn
  subst he
  rw [List.set_append_right _ _ (by omega), Nat.add_sub_cancel_left, List.set_append_left _ _ (by show X < 12; exact h)]
  congr 2
  have h9 : X = 0 ∨ X = 1 ∨ X = 2 ∨ X = 3 ∨ X = 4 ∨ X = 5 ∨ X = 6 ∨ X = 7 ∨ X = 8 ∨ X = 9 ∨ X = 10 ∨ X = 11 := by omega
  rcases h9 with rfl | rfl | rfl | rfl | rfl | rfl | rfl | rfl | rfl | rfl | rfl | rfl <;> simp [fm, List.set, ho]
theorem vp_lt {i : Int32} {n : Nat} (h : vp_in i n) : i.toNatClampNeg < n := Nat.lt_of_not_le (fun q => h (Or.inr q))
section JyRows
variable {p : Program} {l : Launch} {e : Env} {R : Room} {s : State} {m : MethodId} {args : Array Value} {below : List Frame} {meth : Method} {c : Code} {cells slots : Nat} {Q : State → Prop}
/-- roads that come to the same row, each with what it has made -/
theorem jn_stA {σ : Type} {H : Heap} {locs : List Loc} {pc pc2 : Nat} {ls : Array Slot} {st0 : List Value} (F : σ → Prop) (st : σ → List Value) (cs sl : σ → Nat) (Inv : σ → Heap → List Loc → Array Slot → Prop)
    (k : ∀ x : σ, F x → ∀ (H : Heap) (locs : List Loc) (ls : Array Slot), Inv x H locs ls → W p l e R s m args below meth c H locs (cs x) (sl x) Q (F0 m pc2 ls (st x)))
    (g : (∀ x : σ, F x → ∀ (H : Heap) (locs : List Loc) (ls : Array Slot), Inv x H locs ls → W p l e R s m args below meth c H locs (cs x) (sl x) Q (F0 m pc2 ls (st x))) → W p l e R s m args below meth c H locs cells slots Q (F0 m pc ls st0)) : W p l e R s m args below meth c H locs cells slots Q (F0 m pc ls st0) := g k
/-- a loop, by fuel, with what it makes -/
theorem lp_fuelA {σ : Type} {pc : Nat} (cs sl : σ → Nat) (F : Nat → σ → Prop) (Inv : σ → Heap → List Loc → Array Slot → Prop) (h0 : ∀ x, ¬ F 0 x)
    (step : ∀ (n : Nat) (x : σ), F (n + 1) x → (∀ y : σ, F n y → ∀ (H : Heap) (locs : List Loc) (ls : Array Slot), Inv y H locs ls → W p l e R s m args below meth c H locs (cs y) (sl y) Q (F0 m pc ls [])) → ∀ (H : Heap) (locs : List Loc) (ls : Array Slot), Inv x H locs ls → W p l e R s m args below meth c H locs (cs x) (sl x) Q (F0 m pc ls []))
    {n : Nat} {x : σ} (hw : F n x) {H : Heap} {locs : List Loc} {ls : Array Slot} (hi : Inv x H locs ls) : W p l e R s m args below meth c H locs (cs x) (sl x) Q (F0 m pc ls []) := by
  have key : ∀ (n : Nat) (x : σ), F n x → ∀ (H : Heap) (locs : List Loc) (ls : Array Slot), Inv x H locs ls → W p l e R s m args below meth c H locs (cs x) (sl x) Q (F0 m pc ls []) := by
    intro n
    induction n with
    | zero => intro x h; exact absurd h (h0 x)
    | succ n ih => intro x h; exact step n x h ih
  exact key n x hw H locs ls hi
end JyRows
def wp_met_In_compare (post : Int32 → Unit → Prop) (x : Int32) (y : Int32) : Prop := ∀ y1 : Int32, y1 = (if y ≤ x then (if x = y then (0 : Int32) else (1 : Int32)) else ((-1) : Int32)) → (post y1 ())
set_option maxHeartbeats 4000000 in
set_option maxRecDepth 100000 in
theorem met_In_compare (l : Launch) (dC : Nat → ClassId) (dI : Nat → Nat → Nat) (x : Int32) (y : Int32) (sz : Nat) {post : Int32 → Unit → Prop} (hw : wp_met_In_compare post x y) : Met l my_In_compare (Cond.code my_In_compare cd_In_compare 2 (some (.int)) :: tblG) ({ frames := 0, cells := 0, slots := 0, locals := 0 }) (va_Pc [.int x, .int y] (fun U => U.heap.size = sz ∧ va_P (dC, dI) vwCl [] U.heap ∧ va_K (dC, dI) vwCl [] U ∧ va_D (fun _ => True) [])) (va_Qi post (fun (u : Unit) (t : State) => va_P (dC, dI) vwCl [] t.heap ∧ va_K (dC, dI) vwCl [] t ∧ va_D (va_A [] sz) []) (va_A [] sz)) 0 0 (va_A [] sz) := by
  refine Met.ofW (cc := cd_In_compare) (maxL := 2) (ret := (some (.int))) (by decide) rfl ?_
  intro p e s m args below meth c s₁ B hml hv
  obtain ⟨rfl, hsz, hP, hK, hD0⟩ := hv
  have hx := B.exec
  have hb := B.bytes
  have hr := B.returns
  have hT : ∀ w ∈ tblG, w.before _ s = true := fun w h => atoms_spec (ws := (Cond.code my_In_compare cd_In_compare 2 (some (.int)) :: tblG)) B.pre w (List.mem_cons_of_mem _ h)
  have hown : s.vm.findClass "java/lang/Integer" = some m.cls := findClass_of_methodNamed B.named
  have hlocks := B.notSynchronized
  subst hsz
  have hD := hD0.self (sz := s.heap.size)
  generalize hAe : va_A [] s.heap.size = A at hD ⊢
  have hA : ∀ q : Nat, s.heap.size ≤ q → A q := fun q h => by rw [← hAe]; exact Or.inr h
  have hS : va_S A s.heap s.heap [] := va_S.rf
  have hl := lv_entry ([.int x, .int y]) (n := 2) (Nat.le_of_ble_eq_true rfl)
  rw [lg_entry_eq]
  generalize (lg_sl ([.int x, .int y]) ++ List.replicate (2 - (lg_sl ([.int x, .int y])).length) Slot.unset).toArray = ls at hl ⊢
  have hl : lv_has ls 2 [(0, .int x), (1, .int y)] := hl
  unfold wp_met_In_compare at hw
  refine lv_iload_n hx hb dc_In_compare_0 rfl (lv_at hl 0 rfl) ?_
  refine lv_iload_n hx hb dc_In_compare_1 rfl (lv_at hl 1 rfl) ?_
  refine jn_top (pc2 := 19) (rest := []) (fun y1 => y1 = (if y ≤ x then (if x = y then (0 : Int32) else (1 : Int32)) else ((-1) : Int32))) (fun y1 ey1 => ?_) (fun k9 => ?_)
  rotate_left
  · refine lv_icmp_ge (tgt := 9) hx hb dc_In_compare_2 (by decide) (fun h2 => ?_) (fun h2 => ?_)
    · refine lv_iload_n hx hb dc_In_compare_9 rfl (lv_at hl 0 rfl) ?_
      refine lv_iload_n hx hb dc_In_compare_10 rfl (lv_at hl 1 rfl) ?_
      refine lv_icmp_ne (tgt := 18) hx hb dc_In_compare_11 (by decide) (fun h11 => ?_) (fun h11 => ?_)
      · refine lv_iconst (v := 1) hx hb dc_In_compare_18 (by decide) ?_
        exact k9 (1 : Int32) (by rw [if_pos h2, if_neg h11])
      · refine lv_iconst (v := 0) hx hb dc_In_compare_14 (by decide) ?_
        refine lv_goto (tgt := 19) hx hb dc_In_compare_15 (by decide) ?_
        exact k9 (0 : Int32) (by rw [if_pos h2, if_pos h11])
    · refine lv_iconst (v := (-1)) hx hb dc_In_compare_5 (by decide) ?_
      refine lv_goto (tgt := 19) hx hb dc_In_compare_6 (by decide) ?_
      exact k9 ((-1) : Int32) (by rw [if_neg h2])
  have hw := hw y1 ey1
  refine W.widen (k := 0) (n := 0) (Nat.le_of_ble_eq_true rfl) (Nat.le_of_ble_eq_true rfl) ?_
  exact W.iret (v := y1) hx hb hr (fun t ht hW => ⟨⟨y1, (), rfl, hw, by rw [ht]; exact hP, va_K.moved hW.alike hK, hD⟩, hS.F ht⟩) hS.2.2 dc_In_compare_19

def wp_met_Ar_copyOf (post : (ClassId × Nat × (Nat → Int32)) → Prop) (mc : Nat) (ms : Nat) (na : Nat) (x : Int32) (fa : Nat → Int32) : Prop := (¬ (x = (nI na))) ∧ ((¬ x < 0) ∧ (x.toNatClampNeg * componentBytes .byte ≤ 536870912) ∧ ((0 + 1 ≤ mc) ∧ (0 + x.toNatClampNeg ≤ ms) ∧ (∀ (q15 : Nat) (k15 : ClassId), (∀ g1 : Nat → Int32, g1 = (fun _ => 0) → (∀ y2 : Int32, y2 = (if x < (nI na) then x else (nI na)) → ((¬ (0 : Int32) < 0) ∧ (¬ (0 : Int32) < 0) ∧ (¬ y2 < 0) ∧ ((0 : Int32).toNatClampNeg + y2.toNatClampNeg ≤ na) ∧ ((0 : Int32).toNatClampNeg + y2.toNatClampNeg ≤ x.toNatClampNeg) ∧ (∀ i : Nat, i < y2.toNatClampNeg → fits .byte (.int (fa ((0 : Int32).toNatClampNeg + i))) = true) ∧ (∀ g3 : Nat → Int32, g3 = va_cpy fa g1 (0 : Int32).toNatClampNeg (0 : Int32).toNatClampNeg y2.toNatClampNeg → (post (k15, x.toNatClampNeg, g3)))))))))
set_option maxHeartbeats 4000000 in
set_option maxRecDepth 100000 in
theorem met_Ar_copyOf (l : Launch) (dC : Nat → ClassId) (dI : Nat → Nat → Nat) (mc : Nat) (ms : Nat) (na : Nat) (h0 : Nat) (x : Int32) (fa : Nat → Int32) (k1 : ClassId) (sz : Nat) {post : (ClassId × Nat × (Nat → Int32)) → Prop} (hw : wp_met_Ar_copyOf post mc ms na x fa) : Met l my_Ar_copyOf (Cond.code my_Ar_copyOf cd_Ar_copyOf 3 (some ((.array .byte))) :: tblG) ({ frames := 1, cells := mc, slots := ms, locals := 40 }) (va_Pc [.ref h0, .int x] (fun U => U.heap.size = sz ∧ va_P (dC, dI) vwCl [(h0, .inl (k1, na, .inl fa))] U.heap ∧ va_K (dC, dI) vwCl [(k1, .byte)] U ∧ va_D (fun _ => True) [(h0, .inl (k1, na, .inl fa))])) (va_Qr post (fun (u : ClassId × Nat × (Nat → Int32)) (a9 : Nat) (t : State) => match u with | (o0, o1, o2) => va_P (dC, dI) vwCl [(h0, .inl (k1, na, .inl fa)), (a9, .inl (o0, o1, .inl o2))] t.heap ∧ va_K (dC, dI) vwCl [(k1, .byte), (o0, .byte)] t ∧ va_D (va_A [(h0, .inl (k1, na, .inl fa))] sz) [(h0, .inl (k1, na, .inl fa)), (a9, .inl (o0, o1, .inl o2))]) (va_A [(h0, .inl (k1, na, .inl fa))] sz)) mc ms (va_A [(h0, .inl (k1, na, .inl fa))] sz) := by
  refine Met.ofW (cc := cd_Ar_copyOf) (maxL := 3) (ret := (some ((.array .byte)))) (by decide) rfl ?_
  intro p e s m args below meth c s₁ B hml hv
  obtain ⟨rfl, hsz, hP, hK, hD0⟩ := hv
  have hx := B.exec
  have hb := B.bytes
  have hr := B.returns
  have hT : ∀ w ∈ tblG, w.before _ s = true := fun w h => atoms_spec (ws := (Cond.code my_Ar_copyOf cd_Ar_copyOf 3 (some ((.array .byte))) :: tblG)) B.pre w (List.mem_cons_of_mem _ h)
  have hown : s.vm.findClass "java/util/Arrays" = some m.cls := findClass_of_methodNamed B.named
  have hlocks := B.notSynchronized
  subst hsz
  have hD := hD0.self (sz := s.heap.size)
  generalize hAe : va_A [(h0, .inl (k1, na, .inl fa))] s.heap.size = A at hD ⊢
  have hA : ∀ q : Nat, s.heap.size ≤ q → A q := fun q h => by rw [← hAe]; exact Or.inr h
  have hS : va_S A s.heap s.heap [] := va_S.rf
  have hl := lv_entry ([.ref h0, .int x]) (n := 3) (Nat.le_of_ble_eq_true rfl)
  rw [lg_entry_eq]
  generalize (lg_sl ([.ref h0, .int x]) ++ List.replicate (3 - (lg_sl ([.ref h0, .int x])).length) Slot.unset).toArray = ls at hl ⊢
  have hl : lv_has ls 3 [(0, .ref h0), (1, .int x)] := hl
  unfold wp_met_Ar_copyOf at hw
  have hkc := Nat.zero_le mc
  have hks := Nat.zero_le ms
  refine lv_iload_n hx hb dc_Ar_copyOf_0 rfl (lv_at hl 1 rfl) ?_
  refine lv_aload_n hx hb dc_Ar_copyOf_1 rfl (lv_at hl 0 rfl) ?_
  refine va_alen (v := nI na) hx hb hK hP 0 0 rfl rfl rfl dc_Ar_copyOf_2 ?_
  obtain ⟨hnv3, hw⟩ := hw
  refine lv_icmp_ne (tgt := 14) hx hb dc_Ar_copyOf_3 (by decide) (fun _ => ?_) (fun h9 => absurd h9 hnv3)
  refine lv_iload_n hx hb dc_Ar_copyOf_14 rfl (lv_at hl 1 rfl) ?_
  obtain ⟨hn15, hby15, hw⟩ := hw
  obtain ⟨hkc, hks, hw⟩ := hw
  refine va_newa (atype := .byte) (N' := x.toNatClampNeg) (a0 := (x.toNatClampNeg, .inl (fun _ => 0))) (ty := .byte) (n := x) hx hb (hT _ wd_96) rfl hK hP hD hS hA (fun _ => rfl) hn15 rfl hby15 hkc hks dc_Ar_copyOf_15 (fun q15 k15 H hK hP hD hS => ?_)
  have hw := hw q15 k15
  have hP : va_P (dC, dI) vwCl [(h0, .inl (k1, na, .inl fa)), (q15, .inl (k15, x.toNatClampNeg, .inl (fun _ => 0)))] H := hP
  have hD : va_D A [(h0, .inl (k1, na, .inl fa)), (q15, .inl (k15, x.toNatClampNeg, .inl (fun _ => 0)))] := hD
  have hK : va_K (dC, dI) vwCl [(k1, .byte), (k15, .byte)] s := hK
  obtain ⟨g1, eg1⟩ : ∃ z9 : Nat → Int32, z9 = (fun _ => 0) := ⟨_, rfl⟩
  rw [← eg1] at hP hD
  have hw := hw g1 eg1
  have hP : va_P (dC, dI) vwCl [(h0, .inl (k1, na, .inl fa)), (q15, .inl (k15, x.toNatClampNeg, .inl g1))] H := hP
  have hD : va_D A [(h0, .inl (k1, na, .inl fa)), (q15, .inl (k15, x.toNatClampNeg, .inl g1))] := hD
  refine lv_astore_n (lv' := [(2, .ref q15), (0, .ref h0), (1, .int x)]) hx hb dc_Ar_copyOf_17 rfl hl (by decide) rfl (fun ls hl => ?_)
  refine lv_aload_n hx hb dc_Ar_copyOf_18 rfl (lv_at hl 1 rfl) ?_
  refine lv_iconst (v := 0) hx hb dc_Ar_copyOf_19 (by decide) ?_
  refine lv_aload_n hx hb dc_Ar_copyOf_20 rfl (lv_at hl 0 rfl) ?_
  refine lv_iconst (v := 0) hx hb dc_Ar_copyOf_21 (by decide) ?_
  refine lv_aload_n hx hb dc_Ar_copyOf_22 rfl (lv_at hl 1 rfl) ?_
  refine va_alen (v := nI na) hx hb hK hP 0 0 rfl rfl rfl dc_Ar_copyOf_23 ?_
  refine lv_iload_n hx hb dc_Ar_copyOf_24 rfl (lv_at hl 2 rfl) ?_
  refine va_mmin hx hb (by rw [hml]; exact hl.1.symm) hown (hT _ wd_704) (hT _ wd_705) (hT _ wd_20) (hT _ wd_706) (Nat.le_of_ble_eq_true rfl) (Nat.le_of_ble_eq_true rfl) hkc hks dc_Ar_copyOf_25 ?_
  refine lv_topi (fun y2 ey2 => ?_)
  have hw := hw y2 ey2
  obtain ⟨hc28_0, hc28_1, hc28_2, hc28_3, hc28_4, hc28_5, hw⟩ := hw
  refine va_copyi (sp := 0) (dp := 0) (n := y2) hx hb (by rw [hml]; exact hl.1.symm) hown (hT _ wd_707) (hT _ wd_709) (hT _ wd_708) (hT _ wd_22) hK hP hD hS 0 1 0 1 rfl rfl rfl rfl rfl hc28_0 hc28_1 hc28_2 hc28_3 hc28_4 hc28_5 (Nat.le_of_ble_eq_true rfl) (Nat.le_of_ble_eq_true rfl) dc_Ar_copyOf_28 (fun H locs hP hD hS => ?_)
  have hP : va_P (dC, dI) vwCl [(h0, .inl (k1, na, .inl fa)), (q15, .inl (k15, x.toNatClampNeg, .inl (va_cpy fa g1 (0 : Int32).toNatClampNeg (0 : Int32).toNatClampNeg y2.toNatClampNeg)))] H := hP
  have hD : va_D A [(h0, .inl (k1, na, .inl fa)), (q15, .inl (k15, x.toNatClampNeg, .inl (va_cpy fa g1 (0 : Int32).toNatClampNeg (0 : Int32).toNatClampNeg y2.toNatClampNeg)))] := hD
  obtain ⟨g3, eg3⟩ : ∃ z9 : Nat → Int32, z9 = va_cpy fa g1 (0 : Int32).toNatClampNeg (0 : Int32).toNatClampNeg y2.toNatClampNeg := ⟨_, rfl⟩
  rw [← eg3] at hP hD
  have hw := hw g3 eg3
  refine lv_aload_n hx hb dc_Ar_copyOf_31 rfl (lv_at hl 0 rfl) ?_
  refine W.widen (k := mc) (n := ms) hkc hks ?_
  exact W.aret (v := .ref q15) hx hb hr (Or.inr ⟨_, rfl⟩) (Or.inr ⟨_, rfl⟩) (fun t ht hW => ⟨⟨(k15, x.toNatClampNeg, g3), q15, rfl, hw, by rw [ht]; exact hP, va_K.moved hW.alike hK, hD⟩, hS.F ht⟩) hS.2.2 dc_Ar_copyOf_32

def wp_met_To_isDigit (post : Int32 → Unit → Prop) (x : Int32) : Prop := ∀ y1 : Int32, y1 = (if x < (48 : Int32) then (0 : Int32) else (if (57 : Int32) < x then (0 : Int32) else (1 : Int32))) → (post y1 ())
set_option maxHeartbeats 4000000 in
set_option maxRecDepth 100000 in
theorem met_To_isDigit (l : Launch) (dC : Nat → ClassId) (dI : Nat → Nat → Nat) (x : Int32) (sz : Nat) {post : Int32 → Unit → Prop} (hw : wp_met_To_isDigit post x) : Met l my_To_isDigit (Cond.code my_To_isDigit cd_To_isDigit 1 (some (.boolean)) :: tblG) ({ frames := 0, cells := 0, slots := 0, locals := 0 }) (va_Pc [.int x] (fun U => U.heap.size = sz ∧ va_P (dC, dI) vwCl [] U.heap ∧ va_K (dC, dI) vwCl [] U ∧ va_D (fun _ => True) [])) (va_Qi post (fun (u : Unit) (t : State) => va_P (dC, dI) vwCl [] t.heap ∧ va_K (dC, dI) vwCl [] t ∧ va_D (va_A [] sz) []) (va_A [] sz)) 0 0 (va_A [] sz) := by
  refine Met.ofW (cc := cd_To_isDigit) (maxL := 1) (ret := (some (.boolean))) (by decide) rfl ?_
  intro p e s m args below meth c s₁ B hml hv
  obtain ⟨rfl, hsz, hP, hK, hD0⟩ := hv
  have hx := B.exec
  have hb := B.bytes
  have hr := B.returns
  have hT : ∀ w ∈ tblG, w.before _ s = true := fun w h => atoms_spec (ws := (Cond.code my_To_isDigit cd_To_isDigit 1 (some (.boolean)) :: tblG)) B.pre w (List.mem_cons_of_mem _ h)
  have hown : s.vm.findClass "StrataBase$Tokens" = some m.cls := findClass_of_methodNamed B.named
  have hlocks := B.notSynchronized
  subst hsz
  have hD := hD0.self (sz := s.heap.size)
  generalize hAe : va_A [] s.heap.size = A at hD ⊢
  have hA : ∀ q : Nat, s.heap.size ≤ q → A q := fun q h => by rw [← hAe]; exact Or.inr h
  have hS : va_S A s.heap s.heap [] := va_S.rf
  have hl := lv_entry ([.int x]) (n := 1) (Nat.le_of_ble_eq_true rfl)
  rw [lg_entry_eq]
  generalize (lg_sl ([.int x]) ++ List.replicate (1 - (lg_sl ([.int x])).length) Slot.unset).toArray = ls at hl ⊢
  have hl : lv_has ls 1 [(0, .int x)] := hl
  unfold wp_met_To_isDigit at hw
  refine lv_iload_n hx hb dc_To_isDigit_0 rfl (lv_at hl 0 rfl) ?_
  refine lv_bipush (v := 48) hx hb dc_To_isDigit_1 (by decide) ?_
  refine jn_top (pc2 := 17) (rest := []) (fun y1 => y1 = (if x < (48 : Int32) then (0 : Int32) else (if (57 : Int32) < x then (0 : Int32) else (1 : Int32)))) (fun y1 ey1 => ?_) (fun k9 => ?_)
  rotate_left
  · refine lv_icmp_lt (tgt := 16) hx hb dc_To_isDigit_3 (by decide) (fun h3 => ?_) (fun h3 => ?_)
    · refine lv_iconst (v := 0) hx hb dc_To_isDigit_16 (by decide) ?_
      exact k9 (0 : Int32) (by rw [if_pos h3])
    · refine lv_iload_n hx hb dc_To_isDigit_6 rfl (lv_at hl 0 rfl) ?_
      refine lv_bipush (v := 57) hx hb dc_To_isDigit_7 (by decide) ?_
      refine lv_icmp_gt (tgt := 16) hx hb dc_To_isDigit_9 (by decide) (fun h9 => ?_) (fun h9 => ?_)
      · refine lv_iconst (v := 0) hx hb dc_To_isDigit_16 (by decide) ?_
        exact k9 (0 : Int32) (by rw [if_neg h3, if_pos h9])
      · refine lv_iconst (v := 1) hx hb dc_To_isDigit_12 (by decide) ?_
        refine lv_goto (tgt := 17) hx hb dc_To_isDigit_13 (by decide) ?_
        exact k9 (1 : Int32) (by rw [if_neg h3, if_neg h9])
  have hw := hw y1 ey1
  have hzy1 : y1 = 0 ∨ y1 = 1 := by
    rw [ey1]; repeat' split
    all_goals first | exact Or.inl rfl | exact Or.inr rfl
  refine W.widen (k := 0) (n := 0) (Nat.le_of_ble_eq_true rfl) (Nat.le_of_ble_eq_true rfl) ?_
  exact W.zret (v := y1) hx hb hr (nz_n hzy1) (fun t ht hW => ⟨⟨y1, (), rfl, hw, by rw [ht]; exact hP, va_K.moved hW.alike hK, hD⟩, hS.F ht⟩) hS.2.2 dc_To_isDigit_17

def wp_met_To_isSmall (post : Int32 → Unit → Prop) (x : Int32) : Prop := ∀ y1 : Int32, y1 = (if x < (97 : Int32) then (0 : Int32) else (if (122 : Int32) < x then (0 : Int32) else (1 : Int32))) → (post y1 ())
set_option maxHeartbeats 4000000 in
set_option maxRecDepth 100000 in
theorem met_To_isSmall (l : Launch) (dC : Nat → ClassId) (dI : Nat → Nat → Nat) (x : Int32) (sz : Nat) {post : Int32 → Unit → Prop} (hw : wp_met_To_isSmall post x) : Met l my_To_isSmall (Cond.code my_To_isSmall cd_To_isSmall 1 (some (.boolean)) :: tblG) ({ frames := 0, cells := 0, slots := 0, locals := 0 }) (va_Pc [.int x] (fun U => U.heap.size = sz ∧ va_P (dC, dI) vwCl [] U.heap ∧ va_K (dC, dI) vwCl [] U ∧ va_D (fun _ => True) [])) (va_Qi post (fun (u : Unit) (t : State) => va_P (dC, dI) vwCl [] t.heap ∧ va_K (dC, dI) vwCl [] t ∧ va_D (va_A [] sz) []) (va_A [] sz)) 0 0 (va_A [] sz) := by
  refine Met.ofW (cc := cd_To_isSmall) (maxL := 1) (ret := (some (.boolean))) (by decide) rfl ?_
  intro p e s m args below meth c s₁ B hml hv
  obtain ⟨rfl, hsz, hP, hK, hD0⟩ := hv
  have hx := B.exec
  have hb := B.bytes
  have hr := B.returns
  have hT : ∀ w ∈ tblG, w.before _ s = true := fun w h => atoms_spec (ws := (Cond.code my_To_isSmall cd_To_isSmall 1 (some (.boolean)) :: tblG)) B.pre w (List.mem_cons_of_mem _ h)
  have hown : s.vm.findClass "StrataBase$Tokens" = some m.cls := findClass_of_methodNamed B.named
  have hlocks := B.notSynchronized
  subst hsz
  have hD := hD0.self (sz := s.heap.size)
  generalize hAe : va_A [] s.heap.size = A at hD ⊢
  have hA : ∀ q : Nat, s.heap.size ≤ q → A q := fun q h => by rw [← hAe]; exact Or.inr h
  have hS : va_S A s.heap s.heap [] := va_S.rf
  have hl := lv_entry ([.int x]) (n := 1) (Nat.le_of_ble_eq_true rfl)
  rw [lg_entry_eq]
  generalize (lg_sl ([.int x]) ++ List.replicate (1 - (lg_sl ([.int x])).length) Slot.unset).toArray = ls at hl ⊢
  have hl : lv_has ls 1 [(0, .int x)] := hl
  unfold wp_met_To_isSmall at hw
  refine lv_iload_n hx hb dc_To_isSmall_0 rfl (lv_at hl 0 rfl) ?_
  refine lv_bipush (v := 97) hx hb dc_To_isSmall_1 (by decide) ?_
  refine jn_top (pc2 := 17) (rest := []) (fun y1 => y1 = (if x < (97 : Int32) then (0 : Int32) else (if (122 : Int32) < x then (0 : Int32) else (1 : Int32)))) (fun y1 ey1 => ?_) (fun k9 => ?_)
  rotate_left
  · refine lv_icmp_lt (tgt := 16) hx hb dc_To_isSmall_3 (by decide) (fun h3 => ?_) (fun h3 => ?_)
    · refine lv_iconst (v := 0) hx hb dc_To_isSmall_16 (by decide) ?_
      exact k9 (0 : Int32) (by rw [if_pos h3])
    · refine lv_iload_n hx hb dc_To_isSmall_6 rfl (lv_at hl 0 rfl) ?_
      refine lv_bipush (v := 122) hx hb dc_To_isSmall_7 (by decide) ?_
      refine lv_icmp_gt (tgt := 16) hx hb dc_To_isSmall_9 (by decide) (fun h9 => ?_) (fun h9 => ?_)
      · refine lv_iconst (v := 0) hx hb dc_To_isSmall_16 (by decide) ?_
        exact k9 (0 : Int32) (by rw [if_neg h3, if_pos h9])
      · refine lv_iconst (v := 1) hx hb dc_To_isSmall_12 (by decide) ?_
        refine lv_goto (tgt := 17) hx hb dc_To_isSmall_13 (by decide) ?_
        exact k9 (1 : Int32) (by rw [if_neg h3, if_neg h9])
  have hw := hw y1 ey1
  have hzy1 : y1 = 0 ∨ y1 = 1 := by
    rw [ey1]; repeat' split
    all_goals first | exact Or.inl rfl | exact Or.inr rfl
  refine W.widen (k := 0) (n := 0) (Nat.le_of_ble_eq_true rfl) (Nat.le_of_ble_eq_true rfl) ?_
  exact W.zret (v := y1) hx hb hr (nz_n hzy1) (fun t ht hW => ⟨⟨y1, (), rfl, hw, by rw [ht]; exact hP, va_K.moved hW.alike hK, hD⟩, hS.F ht⟩) hS.2.2 dc_To_isSmall_17

def wp_met_To_isBlank (post : Int32 → Unit → Prop) (x : Int32) : Prop := ∀ y1 : Int32, y1 = (if x = (9 : Int32) then (1 : Int32) else (if x = (10 : Int32) then (1 : Int32) else (if x = (13 : Int32) then (1 : Int32) else (if x = (32 : Int32) then (1 : Int32) else (0 : Int32))))) → (post y1 ())
set_option maxHeartbeats 4000000 in
set_option maxRecDepth 100000 in
theorem met_To_isBlank (l : Launch) (dC : Nat → ClassId) (dI : Nat → Nat → Nat) (x : Int32) (sz : Nat) {post : Int32 → Unit → Prop} (hw : wp_met_To_isBlank post x) : Met l my_To_isBlank (Cond.code my_To_isBlank cd_To_isBlank 1 (some (.boolean)) :: tblG) ({ frames := 0, cells := 0, slots := 0, locals := 0 }) (va_Pc [.int x] (fun U => U.heap.size = sz ∧ va_P (dC, dI) vwCl [] U.heap ∧ va_K (dC, dI) vwCl [] U ∧ va_D (fun _ => True) [])) (va_Qi post (fun (u : Unit) (t : State) => va_P (dC, dI) vwCl [] t.heap ∧ va_K (dC, dI) vwCl [] t ∧ va_D (va_A [] sz) []) (va_A [] sz)) 0 0 (va_A [] sz) := by
  refine Met.ofW (cc := cd_To_isBlank) (maxL := 1) (ret := (some (.boolean))) (by decide) rfl ?_
  intro p e s m args below meth c s₁ B hml hv
  obtain ⟨rfl, hsz, hP, hK, hD0⟩ := hv
  have hx := B.exec
  have hb := B.bytes
  have hr := B.returns
  have hT : ∀ w ∈ tblG, w.before _ s = true := fun w h => atoms_spec (ws := (Cond.code my_To_isBlank cd_To_isBlank 1 (some (.boolean)) :: tblG)) B.pre w (List.mem_cons_of_mem _ h)
  have hown : s.vm.findClass "StrataBase$Tokens" = some m.cls := findClass_of_methodNamed B.named
  have hlocks := B.notSynchronized
  subst hsz
  have hD := hD0.self (sz := s.heap.size)
  generalize hAe : va_A [] s.heap.size = A at hD ⊢
  have hA : ∀ q : Nat, s.heap.size ≤ q → A q := fun q h => by rw [← hAe]; exact Or.inr h
  have hS : va_S A s.heap s.heap [] := va_S.rf
  have hl := lv_entry ([.int x]) (n := 1) (Nat.le_of_ble_eq_true rfl)
  rw [lg_entry_eq]
  generalize (lg_sl ([.int x]) ++ List.replicate (1 - (lg_sl ([.int x])).length) Slot.unset).toArray = ls at hl ⊢
  have hl : lv_has ls 1 [(0, .int x)] := hl
  unfold wp_met_To_isBlank at hw
  refine lv_iload_n hx hb dc_To_isBlank_0 rfl (lv_at hl 0 rfl) ?_
  refine lv_bipush (v := 9) hx hb dc_To_isBlank_1 (by decide) ?_
  refine jn_top (pc2 := 29) (rest := []) (fun y1 => y1 = (if x = (9 : Int32) then (1 : Int32) else (if x = (10 : Int32) then (1 : Int32) else (if x = (13 : Int32) then (1 : Int32) else (if x = (32 : Int32) then (1 : Int32) else (0 : Int32)))))) (fun y1 ey1 => ?_) (fun k9 => ?_)
  rotate_left
  · refine lv_icmp_eq (tgt := 24) hx hb dc_To_isBlank_3 (by decide) (fun h3 => ?_) (fun h3 => ?_)
    · refine lv_iconst (v := 1) hx hb dc_To_isBlank_24 (by decide) ?_
      refine lv_goto (tgt := 29) hx hb dc_To_isBlank_25 (by decide) ?_
      exact k9 (1 : Int32) (by rw [if_pos h3])
    · refine lv_iload_n hx hb dc_To_isBlank_6 rfl (lv_at hl 0 rfl) ?_
      refine lv_bipush (v := 10) hx hb dc_To_isBlank_7 (by decide) ?_
      refine lv_icmp_eq (tgt := 24) hx hb dc_To_isBlank_9 (by decide) (fun h9 => ?_) (fun h9 => ?_)
      · refine lv_iconst (v := 1) hx hb dc_To_isBlank_24 (by decide) ?_
        refine lv_goto (tgt := 29) hx hb dc_To_isBlank_25 (by decide) ?_
        exact k9 (1 : Int32) (by rw [if_neg h3, if_pos h9])
      · refine lv_iload_n hx hb dc_To_isBlank_12 rfl (lv_at hl 0 rfl) ?_
        refine lv_bipush (v := 13) hx hb dc_To_isBlank_13 (by decide) ?_
        refine lv_icmp_eq (tgt := 24) hx hb dc_To_isBlank_15 (by decide) (fun h15 => ?_) (fun h15 => ?_)
        · refine lv_iconst (v := 1) hx hb dc_To_isBlank_24 (by decide) ?_
          refine lv_goto (tgt := 29) hx hb dc_To_isBlank_25 (by decide) ?_
          exact k9 (1 : Int32) (by rw [if_neg h3, if_neg h9, if_pos h15])
        · refine lv_iload_n hx hb dc_To_isBlank_18 rfl (lv_at hl 0 rfl) ?_
          refine lv_bipush (v := 32) hx hb dc_To_isBlank_19 (by decide) ?_
          refine lv_icmp_ne (tgt := 28) hx hb dc_To_isBlank_21 (by decide) (fun h21 => ?_) (fun h21 => ?_)
          · refine lv_iconst (v := 0) hx hb dc_To_isBlank_28 (by decide) ?_
            exact k9 (0 : Int32) (by rw [if_neg h3, if_neg h9, if_neg h15, if_neg h21])
          · refine lv_iconst (v := 1) hx hb dc_To_isBlank_24 (by decide) ?_
            refine lv_goto (tgt := 29) hx hb dc_To_isBlank_25 (by decide) ?_
            exact k9 (1 : Int32) (by rw [if_neg h3, if_neg h9, if_neg h15, if_pos h21])
  have hw := hw y1 ey1
  have hzy1 : y1 = 0 ∨ y1 = 1 := by
    rw [ey1]; repeat' split
    all_goals first | exact Or.inl rfl | exact Or.inr rfl
  refine W.widen (k := 0) (n := 0) (Nat.le_of_ble_eq_true rfl) (Nat.le_of_ble_eq_true rfl) ?_
  exact W.zret (v := y1) hx hb hr (nz_n hzy1) (fun t ht hW => ⟨⟨y1, (), rfl, hw, by rw [ht]; exact hP, va_K.moved hW.alike hK, hD⟩, hS.F ht⟩) hS.2.2 dc_To_isBlank_29

def wp_met_Mo_isDigit (post : Int32 → Unit → Prop) (x : Int32) : Prop := ∀ y1 : Int32, y1 = (if x < (48 : Int32) then (0 : Int32) else (if (57 : Int32) < x then (0 : Int32) else (1 : Int32))) → (post y1 ())
set_option maxHeartbeats 4000000 in
set_option maxRecDepth 100000 in
theorem met_Mo_isDigit (l : Launch) (dC : Nat → ClassId) (dI : Nat → Nat → Nat) (x : Int32) (sz : Nat) {post : Int32 → Unit → Prop} (hw : wp_met_Mo_isDigit post x) : Met l my_Mo_isDigit (Cond.code my_Mo_isDigit cd_Mo_isDigit 1 (some (.boolean)) :: tblG) ({ frames := 0, cells := 0, slots := 0, locals := 0 }) (va_Pc [.int x] (fun U => U.heap.size = sz ∧ va_P (dC, dI) vwCl [] U.heap ∧ va_K (dC, dI) vwCl [] U ∧ va_D (fun _ => True) [])) (va_Qi post (fun (u : Unit) (t : State) => va_P (dC, dI) vwCl [] t.heap ∧ va_K (dC, dI) vwCl [] t ∧ va_D (va_A [] sz) []) (va_A [] sz)) 0 0 (va_A [] sz) := by
  refine Met.ofW (cc := cd_Mo_isDigit) (maxL := 1) (ret := (some (.boolean))) (by decide) rfl ?_
  intro p e s m args below meth c s₁ B hml hv
  obtain ⟨rfl, hsz, hP, hK, hD0⟩ := hv
  have hx := B.exec
  have hb := B.bytes
  have hr := B.returns
  have hT : ∀ w ∈ tblG, w.before _ s = true := fun w h => atoms_spec (ws := (Cond.code my_Mo_isDigit cd_Mo_isDigit 1 (some (.boolean)) :: tblG)) B.pre w (List.mem_cons_of_mem _ h)
  have hown : s.vm.findClass "StrataBaseModel" = some m.cls := findClass_of_methodNamed B.named
  have hlocks := B.notSynchronized
  subst hsz
  have hD := hD0.self (sz := s.heap.size)
  generalize hAe : va_A [] s.heap.size = A at hD ⊢
  have hA : ∀ q : Nat, s.heap.size ≤ q → A q := fun q h => by rw [← hAe]; exact Or.inr h
  have hS : va_S A s.heap s.heap [] := va_S.rf
  have hl := lv_entry ([.int x]) (n := 1) (Nat.le_of_ble_eq_true rfl)
  rw [lg_entry_eq]
  generalize (lg_sl ([.int x]) ++ List.replicate (1 - (lg_sl ([.int x])).length) Slot.unset).toArray = ls at hl ⊢
  have hl : lv_has ls 1 [(0, .int x)] := hl
  unfold wp_met_Mo_isDigit at hw
  refine lv_iload_n hx hb dc_Mo_isDigit_0 rfl (lv_at hl 0 rfl) ?_
  refine lv_bipush (v := 48) hx hb dc_Mo_isDigit_1 (by decide) ?_
  refine jn_top (pc2 := 17) (rest := []) (fun y1 => y1 = (if x < (48 : Int32) then (0 : Int32) else (if (57 : Int32) < x then (0 : Int32) else (1 : Int32)))) (fun y1 ey1 => ?_) (fun k9 => ?_)
  rotate_left
  · refine lv_icmp_lt (tgt := 16) hx hb dc_Mo_isDigit_3 (by decide) (fun h3 => ?_) (fun h3 => ?_)
    · refine lv_iconst (v := 0) hx hb dc_Mo_isDigit_16 (by decide) ?_
      exact k9 (0 : Int32) (by rw [if_pos h3])
    · refine lv_iload_n hx hb dc_Mo_isDigit_6 rfl (lv_at hl 0 rfl) ?_
      refine lv_bipush (v := 57) hx hb dc_Mo_isDigit_7 (by decide) ?_
      refine lv_icmp_gt (tgt := 16) hx hb dc_Mo_isDigit_9 (by decide) (fun h9 => ?_) (fun h9 => ?_)
      · refine lv_iconst (v := 0) hx hb dc_Mo_isDigit_16 (by decide) ?_
        exact k9 (0 : Int32) (by rw [if_neg h3, if_pos h9])
      · refine lv_iconst (v := 1) hx hb dc_Mo_isDigit_12 (by decide) ?_
        refine lv_goto (tgt := 17) hx hb dc_Mo_isDigit_13 (by decide) ?_
        exact k9 (1 : Int32) (by rw [if_neg h3, if_neg h9])
  have hw := hw y1 ey1
  have hzy1 : y1 = 0 ∨ y1 = 1 := by
    rw [ey1]; repeat' split
    all_goals first | exact Or.inl rfl | exact Or.inr rfl
  refine W.widen (k := 0) (n := 0) (Nat.le_of_ble_eq_true rfl) (Nat.le_of_ble_eq_true rfl) ?_
  exact W.zret (v := y1) hx hb hr (nz_n hzy1) (fun t ht hW => ⟨⟨y1, (), rfl, hw, by rw [ht]; exact hP, va_K.moved hW.alike hK, hD⟩, hS.F ht⟩) hS.2.2 dc_Mo_isDigit_17

def wp_met_Mo_isSmall (post : Int32 → Unit → Prop) (x : Int32) : Prop := ∀ y1 : Int32, y1 = (if x < (97 : Int32) then (0 : Int32) else (if (122 : Int32) < x then (0 : Int32) else (1 : Int32))) → (post y1 ())
set_option maxHeartbeats 4000000 in
set_option maxRecDepth 100000 in
theorem met_Mo_isSmall (l : Launch) (dC : Nat → ClassId) (dI : Nat → Nat → Nat) (x : Int32) (sz : Nat) {post : Int32 → Unit → Prop} (hw : wp_met_Mo_isSmall post x) : Met l my_Mo_isSmall (Cond.code my_Mo_isSmall cd_Mo_isSmall 1 (some (.boolean)) :: tblG) ({ frames := 0, cells := 0, slots := 0, locals := 0 }) (va_Pc [.int x] (fun U => U.heap.size = sz ∧ va_P (dC, dI) vwCl [] U.heap ∧ va_K (dC, dI) vwCl [] U ∧ va_D (fun _ => True) [])) (va_Qi post (fun (u : Unit) (t : State) => va_P (dC, dI) vwCl [] t.heap ∧ va_K (dC, dI) vwCl [] t ∧ va_D (va_A [] sz) []) (va_A [] sz)) 0 0 (va_A [] sz) := by
  refine Met.ofW (cc := cd_Mo_isSmall) (maxL := 1) (ret := (some (.boolean))) (by decide) rfl ?_
  intro p e s m args below meth c s₁ B hml hv
  obtain ⟨rfl, hsz, hP, hK, hD0⟩ := hv
  have hx := B.exec
  have hb := B.bytes
  have hr := B.returns
  have hT : ∀ w ∈ tblG, w.before _ s = true := fun w h => atoms_spec (ws := (Cond.code my_Mo_isSmall cd_Mo_isSmall 1 (some (.boolean)) :: tblG)) B.pre w (List.mem_cons_of_mem _ h)
  have hown : s.vm.findClass "StrataBaseModel" = some m.cls := findClass_of_methodNamed B.named
  have hlocks := B.notSynchronized
  subst hsz
  have hD := hD0.self (sz := s.heap.size)
  generalize hAe : va_A [] s.heap.size = A at hD ⊢
  have hA : ∀ q : Nat, s.heap.size ≤ q → A q := fun q h => by rw [← hAe]; exact Or.inr h
  have hS : va_S A s.heap s.heap [] := va_S.rf
  have hl := lv_entry ([.int x]) (n := 1) (Nat.le_of_ble_eq_true rfl)
  rw [lg_entry_eq]
  generalize (lg_sl ([.int x]) ++ List.replicate (1 - (lg_sl ([.int x])).length) Slot.unset).toArray = ls at hl ⊢
  have hl : lv_has ls 1 [(0, .int x)] := hl
  unfold wp_met_Mo_isSmall at hw
  refine lv_iload_n hx hb dc_Mo_isSmall_0 rfl (lv_at hl 0 rfl) ?_
  refine lv_bipush (v := 97) hx hb dc_Mo_isSmall_1 (by decide) ?_
  refine jn_top (pc2 := 17) (rest := []) (fun y1 => y1 = (if x < (97 : Int32) then (0 : Int32) else (if (122 : Int32) < x then (0 : Int32) else (1 : Int32)))) (fun y1 ey1 => ?_) (fun k9 => ?_)
  rotate_left
  · refine lv_icmp_lt (tgt := 16) hx hb dc_Mo_isSmall_3 (by decide) (fun h3 => ?_) (fun h3 => ?_)
    · refine lv_iconst (v := 0) hx hb dc_Mo_isSmall_16 (by decide) ?_
      exact k9 (0 : Int32) (by rw [if_pos h3])
    · refine lv_iload_n hx hb dc_Mo_isSmall_6 rfl (lv_at hl 0 rfl) ?_
      refine lv_bipush (v := 122) hx hb dc_Mo_isSmall_7 (by decide) ?_
      refine lv_icmp_gt (tgt := 16) hx hb dc_Mo_isSmall_9 (by decide) (fun h9 => ?_) (fun h9 => ?_)
      · refine lv_iconst (v := 0) hx hb dc_Mo_isSmall_16 (by decide) ?_
        exact k9 (0 : Int32) (by rw [if_neg h3, if_pos h9])
      · refine lv_iconst (v := 1) hx hb dc_Mo_isSmall_12 (by decide) ?_
        refine lv_goto (tgt := 17) hx hb dc_Mo_isSmall_13 (by decide) ?_
        exact k9 (1 : Int32) (by rw [if_neg h3, if_neg h9])
  have hw := hw y1 ey1
  have hzy1 : y1 = 0 ∨ y1 = 1 := by
    rw [ey1]; repeat' split
    all_goals first | exact Or.inl rfl | exact Or.inr rfl
  refine W.widen (k := 0) (n := 0) (Nat.le_of_ble_eq_true rfl) (Nat.le_of_ble_eq_true rfl) ?_
  exact W.zret (v := y1) hx hb hr (nz_n hzy1) (fun t ht hW => ⟨⟨y1, (), rfl, hw, by rw [ht]; exact hP, va_K.moved hW.alike hK, hD⟩, hS.F ht⟩) hS.2.2 dc_Mo_isSmall_17

def wp_met_Mo_isBlank (post : Int32 → Unit → Prop) (x : Int32) : Prop := ∀ y1 : Int32, y1 = (if x = (9 : Int32) then (1 : Int32) else (if x = (10 : Int32) then (1 : Int32) else (if x = (13 : Int32) then (1 : Int32) else (if x = (32 : Int32) then (1 : Int32) else (0 : Int32))))) → (post y1 ())
set_option maxHeartbeats 4000000 in
set_option maxRecDepth 100000 in
theorem met_Mo_isBlank (l : Launch) (dC : Nat → ClassId) (dI : Nat → Nat → Nat) (x : Int32) (sz : Nat) {post : Int32 → Unit → Prop} (hw : wp_met_Mo_isBlank post x) : Met l my_Mo_isBlank (Cond.code my_Mo_isBlank cd_Mo_isBlank 1 (some (.boolean)) :: tblG) ({ frames := 0, cells := 0, slots := 0, locals := 0 }) (va_Pc [.int x] (fun U => U.heap.size = sz ∧ va_P (dC, dI) vwCl [] U.heap ∧ va_K (dC, dI) vwCl [] U ∧ va_D (fun _ => True) [])) (va_Qi post (fun (u : Unit) (t : State) => va_P (dC, dI) vwCl [] t.heap ∧ va_K (dC, dI) vwCl [] t ∧ va_D (va_A [] sz) []) (va_A [] sz)) 0 0 (va_A [] sz) := by
  refine Met.ofW (cc := cd_Mo_isBlank) (maxL := 1) (ret := (some (.boolean))) (by decide) rfl ?_
  intro p e s m args below meth c s₁ B hml hv
  obtain ⟨rfl, hsz, hP, hK, hD0⟩ := hv
  have hx := B.exec
  have hb := B.bytes
  have hr := B.returns
  have hT : ∀ w ∈ tblG, w.before _ s = true := fun w h => atoms_spec (ws := (Cond.code my_Mo_isBlank cd_Mo_isBlank 1 (some (.boolean)) :: tblG)) B.pre w (List.mem_cons_of_mem _ h)
  have hown : s.vm.findClass "StrataBaseModel" = some m.cls := findClass_of_methodNamed B.named
  have hlocks := B.notSynchronized
  subst hsz
  have hD := hD0.self (sz := s.heap.size)
  generalize hAe : va_A [] s.heap.size = A at hD ⊢
  have hA : ∀ q : Nat, s.heap.size ≤ q → A q := fun q h => by rw [← hAe]; exact Or.inr h
  have hS : va_S A s.heap s.heap [] := va_S.rf
  have hl := lv_entry ([.int x]) (n := 1) (Nat.le_of_ble_eq_true rfl)
  rw [lg_entry_eq]
  generalize (lg_sl ([.int x]) ++ List.replicate (1 - (lg_sl ([.int x])).length) Slot.unset).toArray = ls at hl ⊢
  have hl : lv_has ls 1 [(0, .int x)] := hl
  unfold wp_met_Mo_isBlank at hw
  refine lv_iload_n hx hb dc_Mo_isBlank_0 rfl (lv_at hl 0 rfl) ?_
  refine lv_bipush (v := 9) hx hb dc_Mo_isBlank_1 (by decide) ?_
  refine jn_top (pc2 := 29) (rest := []) (fun y1 => y1 = (if x = (9 : Int32) then (1 : Int32) else (if x = (10 : Int32) then (1 : Int32) else (if x = (13 : Int32) then (1 : Int32) else (if x = (32 : Int32) then (1 : Int32) else (0 : Int32)))))) (fun y1 ey1 => ?_) (fun k9 => ?_)
  rotate_left
  · refine lv_icmp_eq (tgt := 24) hx hb dc_Mo_isBlank_3 (by decide) (fun h3 => ?_) (fun h3 => ?_)
    · refine lv_iconst (v := 1) hx hb dc_Mo_isBlank_24 (by decide) ?_
      refine lv_goto (tgt := 29) hx hb dc_Mo_isBlank_25 (by decide) ?_
      exact k9 (1 : Int32) (by rw [if_pos h3])
    · refine lv_iload_n hx hb dc_Mo_isBlank_6 rfl (lv_at hl 0 rfl) ?_
      refine lv_bipush (v := 10) hx hb dc_Mo_isBlank_7 (by decide) ?_
      refine lv_icmp_eq (tgt := 24) hx hb dc_Mo_isBlank_9 (by decide) (fun h9 => ?_) (fun h9 => ?_)
      · refine lv_iconst (v := 1) hx hb dc_Mo_isBlank_24 (by decide) ?_
        refine lv_goto (tgt := 29) hx hb dc_Mo_isBlank_25 (by decide) ?_
        exact k9 (1 : Int32) (by rw [if_neg h3, if_pos h9])
      · refine lv_iload_n hx hb dc_Mo_isBlank_12 rfl (lv_at hl 0 rfl) ?_
        refine lv_bipush (v := 13) hx hb dc_Mo_isBlank_13 (by decide) ?_
        refine lv_icmp_eq (tgt := 24) hx hb dc_Mo_isBlank_15 (by decide) (fun h15 => ?_) (fun h15 => ?_)
        · refine lv_iconst (v := 1) hx hb dc_Mo_isBlank_24 (by decide) ?_
          refine lv_goto (tgt := 29) hx hb dc_Mo_isBlank_25 (by decide) ?_
          exact k9 (1 : Int32) (by rw [if_neg h3, if_neg h9, if_pos h15])
        · refine lv_iload_n hx hb dc_Mo_isBlank_18 rfl (lv_at hl 0 rfl) ?_
          refine lv_bipush (v := 32) hx hb dc_Mo_isBlank_19 (by decide) ?_
          refine lv_icmp_ne (tgt := 28) hx hb dc_Mo_isBlank_21 (by decide) (fun h21 => ?_) (fun h21 => ?_)
          · refine lv_iconst (v := 0) hx hb dc_Mo_isBlank_28 (by decide) ?_
            exact k9 (0 : Int32) (by rw [if_neg h3, if_neg h9, if_neg h15, if_neg h21])
          · refine lv_iconst (v := 1) hx hb dc_Mo_isBlank_24 (by decide) ?_
            refine lv_goto (tgt := 29) hx hb dc_Mo_isBlank_25 (by decide) ?_
            exact k9 (1 : Int32) (by rw [if_neg h3, if_neg h9, if_neg h15, if_pos h21])
  have hw := hw y1 ey1
  have hzy1 : y1 = 0 ∨ y1 = 1 := by
    rw [ey1]; repeat' split
    all_goals first | exact Or.inl rfl | exact Or.inr rfl
  refine W.widen (k := 0) (n := 0) (Nat.le_of_ble_eq_true rfl) (Nat.le_of_ble_eq_true rfl) ?_
  exact W.zret (v := y1) hx hb hr (nz_n hzy1) (fun t ht hW => ⟨⟨y1, (), rfl, hw, by rw [ht]; exact hP, va_K.moved hW.alike hK, hD⟩, hS.F ht⟩) hS.2.2 dc_Mo_isBlank_29

def wp_met_Na_clear (post : (Int32 × Int32) → Prop) : Prop := post ((0 : Int32), (0 : Int32))
set_option maxHeartbeats 4000000 in
set_option maxRecDepth 100000 in
theorem met_Na_clear (l : Launch) (dC : Nat → ClassId) (dI : Nat → Nat → Nat) (h0 : Nat) (starts_ : Nat) (lengths_ : Nat) (text_ : Nat) (size_ : Int32) (used_ : Int32) (sz : Nat) {post : (Int32 × Int32) → Prop} (hw : wp_met_Na_clear post) : Met l my_Na_clear (Cond.code my_Na_clear cd_Na_clear 1 none :: tblG) ({ frames := 0, cells := 0, slots := 0, locals := 0 }) (va_Pc [.ref h0] (fun U => U.heap.size = sz ∧ va_P (dC, dI) vwCl [(h0, .inr (6, [.int size_, .ref starts_, .ref lengths_, .ref text_, .int used_]))] U.heap ∧ va_K (dC, dI) vwCl [] U ∧ va_D (fun _ => True) [(h0, .inr (6, [.int size_, .ref starts_, .ref lengths_, .ref text_, .int used_]))])) (va_Qv post (fun (u : Int32 × Int32) (t : State) => match u with | (o0, o1) => va_P (dC, dI) vwCl [(h0, .inr (6, [.int o0, .ref starts_, .ref lengths_, .ref text_, .int o1]))] t.heap ∧ va_K (dC, dI) vwCl [] t ∧ va_D (va_A [(h0, .inr (6, [.int size_, .ref starts_, .ref lengths_, .ref text_, .int used_]))] sz) [(h0, .inr (6, [.int o0, .ref starts_, .ref lengths_, .ref text_, .int o1]))]) (va_A [(h0, .inr (6, [.int size_, .ref starts_, .ref lengths_, .ref text_, .int used_]))] sz)) 0 0 (va_A [(h0, .inr (6, [.int size_, .ref starts_, .ref lengths_, .ref text_, .int used_]))] sz) := by
  refine Met.ofW (cc := cd_Na_clear) (maxL := 1) (ret := none) (by decide) rfl ?_
  intro p e s m args below meth c s₁ B hml hv
  obtain ⟨rfl, hsz, hP, hK, hD0⟩ := hv
  have hx := B.exec
  have hb := B.bytes
  have hr := B.returns
  have hT : ∀ w ∈ tblG, w.before _ s = true := fun w h => atoms_spec (ws := (Cond.code my_Na_clear cd_Na_clear 1 none :: tblG)) B.pre w (List.mem_cons_of_mem _ h)
  have hown : s.vm.findClass "StrataBase$Names" = some m.cls := findClass_of_methodNamed B.named
  have hlocks := B.notSynchronized
  subst hsz
  have hD := hD0.self (sz := s.heap.size)
  generalize hAe : va_A [(h0, .inr (6, [.int size_, .ref starts_, .ref lengths_, .ref text_, .int used_]))] s.heap.size = A at hD ⊢
  have hA : ∀ q : Nat, s.heap.size ≤ q → A q := fun q h => by rw [← hAe]; exact Or.inr h
  have hS : va_S A s.heap s.heap [] := va_S.rf
  have hl := lv_entry ([.ref h0]) (n := 1) (Nat.le_of_ble_eq_true rfl)
  rw [lg_entry_eq]
  generalize (lg_sl ([.ref h0]) ++ List.replicate (1 - (lg_sl ([.ref h0])).length) Slot.unset).toArray = ls at hl ⊢
  have hl : lv_has ls 1 [(0, .ref h0)] := hl
  unfold wp_met_Na_clear at hw
  refine lv_aload_n hx hb dc_Na_clear_0 rfl (lv_at hl 0 rfl) ?_
  refine lv_iconst (v := 0) hx hb dc_Na_clear_1 (by decide) ?_
  refine va_put (D := (dC, dI)) (ci := 6) (v := .int 0) (ty := .int) (C := "StrataBase$Names") (T := tb_Na) (N := 5) hx hb hT in_Na ty_Na tk_Na nm_Na hown hK hP hD hS 0 rfl rfl 0 (by decide) (hT _ wd_104) (fun _ h9 => h9) rfl (by decide +kernel) rfl rfl (Nat.le_of_ble_eq_true rfl) dc_Na_clear_2 (fun H locs hP hD hS => ?_)
  have hP : va_P (dC, dI) vwCl [(h0, .inr (6, [.int 0, .ref starts_, .ref lengths_, .ref text_, .int used_]))] H := hP
  have hD : va_D A [(h0, .inr (6, [.int 0, .ref starts_, .ref lengths_, .ref text_, .int used_]))] := hD
  refine lv_aload_n hx hb dc_Na_clear_5 rfl (lv_at hl 0 rfl) ?_
  refine lv_iconst (v := 0) hx hb dc_Na_clear_6 (by decide) ?_
  refine va_put (D := (dC, dI)) (ci := 6) (v := .int 0) (ty := .int) (C := "StrataBase$Names") (T := tb_Na) (N := 5) hx hb hT in_Na ty_Na tk_Na nm_Na hown hK hP hD hS 0 rfl rfl 4 (by decide) (hT _ wd_112) (fun _ h9 => h9) rfl (by decide +kernel) rfl rfl (Nat.le_of_ble_eq_true rfl) dc_Na_clear_7 (fun H locs hP hD hS => ?_)
  have hP : va_P (dC, dI) vwCl [(h0, .inr (6, [.int 0, .ref starts_, .ref lengths_, .ref text_, .int 0]))] H := hP
  have hD : va_D A [(h0, .inr (6, [.int 0, .ref starts_, .ref lengths_, .ref text_, .int 0]))] := hD
  refine W.widen (k := 0) (n := 0) (Nat.le_of_ble_eq_true rfl) (Nat.le_of_ble_eq_true rfl) ?_
  exact W.vret hx hb hr (fun t ht hW => ⟨⟨((0 : Int32), (0 : Int32)), rfl, hw, by rw [ht]; exact hP, va_K.moved hW.alike hK, hD⟩, hS.F ht⟩) hS.2.2 dc_Na_clear_10

def wp_met_Cl_clear (post : (Int32 × Int32) → Prop) : Prop := post ((0 : Int32), (0 : Int32))
set_option maxHeartbeats 4000000 in
set_option maxRecDepth 100000 in
theorem met_Cl_clear (l : Launch) (dC : Nat → ClassId) (dI : Nat → Nat → Nat) (h0 : Nat) (first_ : Nat) (kinds_ : Nat) (predicates_ : Nat) (places_ : Nat) (sizes_ : Nat) (masks_ : Nat) (terms_ : Nat) (size_ : Int32) (literals_ : Int32) (sz : Nat) {post : (Int32 × Int32) → Prop} (hw : wp_met_Cl_clear post) : Met l my_Cl_clear (Cond.code my_Cl_clear cd_Cl_clear 1 none :: tblG) ({ frames := 0, cells := 0, slots := 0, locals := 0 }) (va_Pc [.ref h0] (fun U => U.heap.size = sz ∧ va_P (dC, dI) vwCl [(h0, .inr (1, [.int size_, .ref first_, .ref kinds_, .ref predicates_, .ref places_, .ref sizes_, .ref masks_, .ref terms_, .int literals_]))] U.heap ∧ va_K (dC, dI) vwCl [] U ∧ va_D (fun _ => True) [(h0, .inr (1, [.int size_, .ref first_, .ref kinds_, .ref predicates_, .ref places_, .ref sizes_, .ref masks_, .ref terms_, .int literals_]))])) (va_Qv post (fun (u : Int32 × Int32) (t : State) => match u with | (o0, o1) => va_P (dC, dI) vwCl [(h0, .inr (1, [.int o0, .ref first_, .ref kinds_, .ref predicates_, .ref places_, .ref sizes_, .ref masks_, .ref terms_, .int o1]))] t.heap ∧ va_K (dC, dI) vwCl [] t ∧ va_D (va_A [(h0, .inr (1, [.int size_, .ref first_, .ref kinds_, .ref predicates_, .ref places_, .ref sizes_, .ref masks_, .ref terms_, .int literals_]))] sz) [(h0, .inr (1, [.int o0, .ref first_, .ref kinds_, .ref predicates_, .ref places_, .ref sizes_, .ref masks_, .ref terms_, .int o1]))]) (va_A [(h0, .inr (1, [.int size_, .ref first_, .ref kinds_, .ref predicates_, .ref places_, .ref sizes_, .ref masks_, .ref terms_, .int literals_]))] sz)) 0 0 (va_A [(h0, .inr (1, [.int size_, .ref first_, .ref kinds_, .ref predicates_, .ref places_, .ref sizes_, .ref masks_, .ref terms_, .int literals_]))] sz) := by
  refine Met.ofW (cc := cd_Cl_clear) (maxL := 1) (ret := none) (by decide) rfl ?_
  intro p e s m args below meth c s₁ B hml hv
  obtain ⟨rfl, hsz, hP, hK, hD0⟩ := hv
  have hx := B.exec
  have hb := B.bytes
  have hr := B.returns
  have hT : ∀ w ∈ tblG, w.before _ s = true := fun w h => atoms_spec (ws := (Cond.code my_Cl_clear cd_Cl_clear 1 none :: tblG)) B.pre w (List.mem_cons_of_mem _ h)
  have hown : s.vm.findClass "StrataBase$Clauses" = some m.cls := findClass_of_methodNamed B.named
  have hlocks := B.notSynchronized
  subst hsz
  have hD := hD0.self (sz := s.heap.size)
  generalize hAe : va_A [(h0, .inr (1, [.int size_, .ref first_, .ref kinds_, .ref predicates_, .ref places_, .ref sizes_, .ref masks_, .ref terms_, .int literals_]))] s.heap.size = A at hD ⊢
  have hA : ∀ q : Nat, s.heap.size ≤ q → A q := fun q h => by rw [← hAe]; exact Or.inr h
  have hS : va_S A s.heap s.heap [] := va_S.rf
  have hl := lv_entry ([.ref h0]) (n := 1) (Nat.le_of_ble_eq_true rfl)
  rw [lg_entry_eq]
  generalize (lg_sl ([.ref h0]) ++ List.replicate (1 - (lg_sl ([.ref h0])).length) Slot.unset).toArray = ls at hl ⊢
  have hl : lv_has ls 1 [(0, .ref h0)] := hl
  unfold wp_met_Cl_clear at hw
  refine lv_aload_n hx hb dc_Cl_clear_0 rfl (lv_at hl 0 rfl) ?_
  refine lv_iconst (v := 0) hx hb dc_Cl_clear_1 (by decide) ?_
  refine va_put (D := (dC, dI)) (ci := 1) (v := .int 0) (ty := .int) (C := "StrataBase$Clauses") (T := tb_Cl) (N := 9) hx hb hT in_Cl ty_Cl tk_Cl nm_Cl hown hK hP hD hS 0 rfl rfl 0 (by decide) (hT _ wd_46) (fun _ h9 => h9) rfl (by decide +kernel) rfl rfl (Nat.le_of_ble_eq_true rfl) dc_Cl_clear_2 (fun H locs hP hD hS => ?_)
  have hP : va_P (dC, dI) vwCl [(h0, .inr (1, [.int 0, .ref first_, .ref kinds_, .ref predicates_, .ref places_, .ref sizes_, .ref masks_, .ref terms_, .int literals_]))] H := hP
  have hD : va_D A [(h0, .inr (1, [.int 0, .ref first_, .ref kinds_, .ref predicates_, .ref places_, .ref sizes_, .ref masks_, .ref terms_, .int literals_]))] := hD
  refine lv_aload_n hx hb dc_Cl_clear_5 rfl (lv_at hl 0 rfl) ?_
  refine lv_iconst (v := 0) hx hb dc_Cl_clear_6 (by decide) ?_
  refine va_put (D := (dC, dI)) (ci := 1) (v := .int 0) (ty := .int) (C := "StrataBase$Clauses") (T := tb_Cl) (N := 9) hx hb hT in_Cl ty_Cl tk_Cl nm_Cl hown hK hP hD hS 0 rfl rfl 8 (by decide) (hT _ wd_76) (fun _ h9 => h9) rfl (by decide +kernel) rfl rfl (Nat.le_of_ble_eq_true rfl) dc_Cl_clear_7 (fun H locs hP hD hS => ?_)
  have hP : va_P (dC, dI) vwCl [(h0, .inr (1, [.int 0, .ref first_, .ref kinds_, .ref predicates_, .ref places_, .ref sizes_, .ref masks_, .ref terms_, .int 0]))] H := hP
  have hD : va_D A [(h0, .inr (1, [.int 0, .ref first_, .ref kinds_, .ref predicates_, .ref places_, .ref sizes_, .ref masks_, .ref terms_, .int 0]))] := hD
  refine W.widen (k := 0) (n := 0) (Nat.le_of_ble_eq_true rfl) (Nat.le_of_ble_eq_true rfl) ?_
  exact W.vret hx hb hr (fun t ht hW => ⟨⟨((0 : Int32), (0 : Int32)), rfl, hw, by rw [ht]; exact hP, va_K.moved hW.alike hK, hD⟩, hS.F ht⟩) hS.2.2 dc_Cl_clear_10

def wp_met_Cl_newest (post : Int32 → Unit → Prop) (literals_ : Int32) : Prop := ∀ y1 : Int32, y1 = literals_ - (1 : Int32) → (post y1 ())
set_option maxHeartbeats 4000000 in
set_option maxRecDepth 100000 in
theorem met_Cl_newest (l : Launch) (dC : Nat → ClassId) (dI : Nat → Nat → Nat) (h0 : Nat) (first_ : Nat) (kinds_ : Nat) (predicates_ : Nat) (places_ : Nat) (sizes_ : Nat) (masks_ : Nat) (terms_ : Nat) (size_ : Int32) (literals_ : Int32) (sz : Nat) {post : Int32 → Unit → Prop} (hw : wp_met_Cl_newest post literals_) : Met l my_Cl_newest (Cond.code my_Cl_newest cd_Cl_newest 1 (some (.int)) :: tblG) ({ frames := 0, cells := 0, slots := 0, locals := 0 }) (va_Pc [.ref h0] (fun U => U.heap.size = sz ∧ va_P (dC, dI) vwCl [(h0, .inr (1, [.int size_, .ref first_, .ref kinds_, .ref predicates_, .ref places_, .ref sizes_, .ref masks_, .ref terms_, .int literals_]))] U.heap ∧ va_K (dC, dI) vwCl [] U ∧ va_D (fun _ => True) [(h0, .inr (1, [.int size_, .ref first_, .ref kinds_, .ref predicates_, .ref places_, .ref sizes_, .ref masks_, .ref terms_, .int literals_]))])) (va_Qi post (fun (u : Unit) (t : State) => va_P (dC, dI) vwCl [(h0, .inr (1, [.int size_, .ref first_, .ref kinds_, .ref predicates_, .ref places_, .ref sizes_, .ref masks_, .ref terms_, .int literals_]))] t.heap ∧ va_K (dC, dI) vwCl [] t ∧ va_D (va_A [(h0, .inr (1, [.int size_, .ref first_, .ref kinds_, .ref predicates_, .ref places_, .ref sizes_, .ref masks_, .ref terms_, .int literals_]))] sz) [(h0, .inr (1, [.int size_, .ref first_, .ref kinds_, .ref predicates_, .ref places_, .ref sizes_, .ref masks_, .ref terms_, .int literals_]))]) (va_A [(h0, .inr (1, [.int size_, .ref first_, .ref kinds_, .ref predicates_, .ref places_, .ref sizes_, .ref masks_, .ref terms_, .int literals_]))] sz)) 0 0 (va_A [(h0, .inr (1, [.int size_, .ref first_, .ref kinds_, .ref predicates_, .ref places_, .ref sizes_, .ref masks_, .ref terms_, .int literals_]))] sz) := by
  refine Met.ofW (cc := cd_Cl_newest) (maxL := 1) (ret := (some (.int))) (by decide) rfl ?_
  intro p e s m args below meth c s₁ B hml hv
  obtain ⟨rfl, hsz, hP, hK, hD0⟩ := hv
  have hx := B.exec
  have hb := B.bytes
  have hr := B.returns
  have hT : ∀ w ∈ tblG, w.before _ s = true := fun w h => atoms_spec (ws := (Cond.code my_Cl_newest cd_Cl_newest 1 (some (.int)) :: tblG)) B.pre w (List.mem_cons_of_mem _ h)
  have hown : s.vm.findClass "StrataBase$Clauses" = some m.cls := findClass_of_methodNamed B.named
  have hlocks := B.notSynchronized
  subst hsz
  have hD := hD0.self (sz := s.heap.size)
  generalize hAe : va_A [(h0, .inr (1, [.int size_, .ref first_, .ref kinds_, .ref predicates_, .ref places_, .ref sizes_, .ref masks_, .ref terms_, .int literals_]))] s.heap.size = A at hD ⊢
  have hA : ∀ q : Nat, s.heap.size ≤ q → A q := fun q h => by rw [← hAe]; exact Or.inr h
  have hS : va_S A s.heap s.heap [] := va_S.rf
  have hl := lv_entry ([.ref h0]) (n := 1) (Nat.le_of_ble_eq_true rfl)
  rw [lg_entry_eq]
  generalize (lg_sl ([.ref h0]) ++ List.replicate (1 - (lg_sl ([.ref h0])).length) Slot.unset).toArray = ls at hl ⊢
  have hl : lv_has ls 1 [(0, .ref h0)] := hl
  unfold wp_met_Cl_newest at hw
  refine lv_aload_n hx hb dc_Cl_newest_0 rfl (lv_at hl 0 rfl) ?_
  refine va_get (D := (dC, dI)) (ci := 1) (v := .int literals_) (C := "StrataBase$Clauses") (T := tb_Cl) (N := 9) hx hb hT in_Cl hown hK hP 0 rfl rfl 8 (by decide) (hT _ wd_76) (fun _ h9 => h9) rfl dc_Cl_newest_1 ?_
  refine lv_iconst (v := 1) hx hb dc_Cl_newest_4 (by decide) ?_
  refine lv_isub hx hb dc_Cl_newest_5 ?_
  refine lv_topi (fun y1 ey1 => ?_)
  have hw := hw y1 ey1
  refine W.widen (k := 0) (n := 0) (Nat.le_of_ble_eq_true rfl) (Nat.le_of_ble_eq_true rfl) ?_
  exact W.iret (v := y1) hx hb hr (fun t ht hW => ⟨⟨y1, (), rfl, hw, by rw [ht]; exact hP, va_K.moved hW.alike hK, hD⟩, hS.F ht⟩) hS.2.2 dc_Cl_newest_6

def wp_met_Fa_shiftOf (post : Int32 → Unit → Prop) (x : Int32) : Prop := ∀ y1 : Int32, y1 = (10 : Int32) * x → (∀ y2 : Int32, y2 = (50 : Int32) - y1 → (post y2 ()))
set_option maxHeartbeats 4000000 in
set_option maxRecDepth 100000 in
theorem met_Fa_shiftOf (l : Launch) (dC : Nat → ClassId) (dI : Nat → Nat → Nat) (x : Int32) (sz : Nat) {post : Int32 → Unit → Prop} (hw : wp_met_Fa_shiftOf post x) : Met l my_Fa_shiftOf (Cond.code my_Fa_shiftOf cd_Fa_shiftOf 1 (some (.int)) :: tblG) ({ frames := 0, cells := 0, slots := 0, locals := 0 }) (va_Pc [.int x] (fun U => U.heap.size = sz ∧ va_P (dC, dI) vwCl [] U.heap ∧ va_K (dC, dI) vwCl [] U ∧ va_D (fun _ => True) [])) (va_Qi post (fun (u : Unit) (t : State) => va_P (dC, dI) vwCl [] t.heap ∧ va_K (dC, dI) vwCl [] t ∧ va_D (va_A [] sz) []) (va_A [] sz)) 0 0 (va_A [] sz) := by
  refine Met.ofW (cc := cd_Fa_shiftOf) (maxL := 1) (ret := (some (.int))) (by decide) rfl ?_
  intro p e s m args below meth c s₁ B hml hv
  obtain ⟨rfl, hsz, hP, hK, hD0⟩ := hv
  have hx := B.exec
  have hb := B.bytes
  have hr := B.returns
  have hT : ∀ w ∈ tblG, w.before _ s = true := fun w h => atoms_spec (ws := (Cond.code my_Fa_shiftOf cd_Fa_shiftOf 1 (some (.int)) :: tblG)) B.pre w (List.mem_cons_of_mem _ h)
  have hown : s.vm.findClass "StrataBase$Facts" = some m.cls := findClass_of_methodNamed B.named
  have hlocks := B.notSynchronized
  subst hsz
  have hD := hD0.self (sz := s.heap.size)
  generalize hAe : va_A [] s.heap.size = A at hD ⊢
  have hA : ∀ q : Nat, s.heap.size ≤ q → A q := fun q h => by rw [← hAe]; exact Or.inr h
  have hS : va_S A s.heap s.heap [] := va_S.rf
  have hl := lv_entry ([.int x]) (n := 1) (Nat.le_of_ble_eq_true rfl)
  rw [lg_entry_eq]
  generalize (lg_sl ([.int x]) ++ List.replicate (1 - (lg_sl ([.int x])).length) Slot.unset).toArray = ls at hl ⊢
  have hl : lv_has ls 1 [(0, .int x)] := hl
  unfold wp_met_Fa_shiftOf at hw
  refine lv_bipush (v := 50) hx hb dc_Fa_shiftOf_0 (by decide) ?_
  refine lv_bipush (v := 10) hx hb dc_Fa_shiftOf_2 (by decide) ?_
  refine lv_iload_n hx hb dc_Fa_shiftOf_4 rfl (lv_at hl 0 rfl) ?_
  refine lv_imul hx hb dc_Fa_shiftOf_5 ?_
  refine lv_topi (fun y1 ey1 => ?_)
  have hw := hw y1 ey1
  refine lv_isub hx hb dc_Fa_shiftOf_6 ?_
  refine lv_topi (fun y2 ey2 => ?_)
  have hw := hw y2 ey2
  refine W.widen (k := 0) (n := 0) (Nat.le_of_ble_eq_true rfl) (Nat.le_of_ble_eq_true rfl) ?_
  exact W.iret (v := y2) hx hb hr (fun t ht hW => ⟨⟨y2, (), rfl, hw, by rw [ht]; exact hP, va_K.moved hW.alike hK, hD⟩, hS.F ht⟩) hS.2.2 dc_Fa_shiftOf_7

def wp_met_Na_lengthOf (post : Int32 → Unit → Prop) (nl : Nat) (x : Int32) (fl : Nat → Int32) : Prop := vp_in x nl ∧ (∀ y2 : Int32, y2 = fl x.toNatClampNeg → (post y2 ()))
set_option maxHeartbeats 4000000 in
set_option maxRecDepth 100000 in
theorem met_Na_lengthOf (l : Launch) (dC : Nat → ClassId) (dI : Nat → Nat → Nat) (nl : Nat) (h0 : Nat) (starts_ : Nat) (lengths_ : Nat) (text_ : Nat) (x : Int32) (size_ : Int32) (used_ : Int32) (fl : Nat → Int32) (k1 : ClassId) (sz : Nat) {post : Int32 → Unit → Prop} (hw : wp_met_Na_lengthOf post nl x fl) : Met l my_Na_lengthOf (Cond.code my_Na_lengthOf cd_Na_lengthOf 2 (some (.int)) :: tblG) ({ frames := 0, cells := 0, slots := 0, locals := 0 }) (va_Pc [.ref h0, .int x] (fun U => U.heap.size = sz ∧ va_P (dC, dI) vwCl [(h0, .inr (6, [.int size_, .ref starts_, .ref lengths_, .ref text_, .int used_])), (lengths_, .inl (k1, nl, .inl fl))] U.heap ∧ va_K (dC, dI) vwCl [(k1, .int)] U ∧ va_D (fun _ => True) [(h0, .inr (6, [.int size_, .ref starts_, .ref lengths_, .ref text_, .int used_])), (lengths_, .inl (k1, nl, .inl fl))])) (va_Qi post (fun (u : Unit) (t : State) => va_P (dC, dI) vwCl [(h0, .inr (6, [.int size_, .ref starts_, .ref lengths_, .ref text_, .int used_])), (lengths_, .inl (k1, nl, .inl fl))] t.heap ∧ va_K (dC, dI) vwCl [(k1, .int)] t ∧ va_D (va_A [(h0, .inr (6, [.int size_, .ref starts_, .ref lengths_, .ref text_, .int used_])), (lengths_, .inl (k1, nl, .inl fl))] sz) [(h0, .inr (6, [.int size_, .ref starts_, .ref lengths_, .ref text_, .int used_])), (lengths_, .inl (k1, nl, .inl fl))]) (va_A [(h0, .inr (6, [.int size_, .ref starts_, .ref lengths_, .ref text_, .int used_])), (lengths_, .inl (k1, nl, .inl fl))] sz)) 0 0 (va_A [(h0, .inr (6, [.int size_, .ref starts_, .ref lengths_, .ref text_, .int used_])), (lengths_, .inl (k1, nl, .inl fl))] sz) := by
  refine Met.ofW (cc := cd_Na_lengthOf) (maxL := 2) (ret := (some (.int))) (by decide) rfl ?_
  intro p e s m args below meth c s₁ B hml hv
  obtain ⟨rfl, hsz, hP, hK, hD0⟩ := hv
  have hx := B.exec
  have hb := B.bytes
  have hr := B.returns
  have hT : ∀ w ∈ tblG, w.before _ s = true := fun w h => atoms_spec (ws := (Cond.code my_Na_lengthOf cd_Na_lengthOf 2 (some (.int)) :: tblG)) B.pre w (List.mem_cons_of_mem _ h)
  have hown : s.vm.findClass "StrataBase$Names" = some m.cls := findClass_of_methodNamed B.named
  have hlocks := B.notSynchronized
  subst hsz
  have hD := hD0.self (sz := s.heap.size)
  generalize hAe : va_A [(h0, .inr (6, [.int size_, .ref starts_, .ref lengths_, .ref text_, .int used_])), (lengths_, .inl (k1, nl, .inl fl))] s.heap.size = A at hD ⊢
  have hA : ∀ q : Nat, s.heap.size ≤ q → A q := fun q h => by rw [← hAe]; exact Or.inr h
  have hS : va_S A s.heap s.heap [] := va_S.rf
  have hl := lv_entry ([.ref h0, .int x]) (n := 2) (Nat.le_of_ble_eq_true rfl)
  rw [lg_entry_eq]
  generalize (lg_sl ([.ref h0, .int x]) ++ List.replicate (2 - (lg_sl ([.ref h0, .int x])).length) Slot.unset).toArray = ls at hl ⊢
  have hl : lv_has ls 2 [(0, .ref h0), (1, .int x)] := hl
  unfold wp_met_Na_lengthOf at hw
  refine lv_aload_n hx hb dc_Na_lengthOf_0 rfl (lv_at hl 0 rfl) ?_
  refine va_get (D := (dC, dI)) (ci := 6) (v := .ref lengths_) (C := "StrataBase$Names") (T := tb_Na) (N := 5) hx hb hT in_Na hown hK hP 0 rfl rfl 2 (by decide) (hT _ wd_110) (fun _ h9 => h9) rfl dc_Na_lengthOf_1 ?_
  refine lv_iload_n hx hb dc_Na_lengthOf_4 rfl (lv_at hl 1 rfl) ?_
  obtain ⟨hv1, hw⟩ := hw
  refine va_iald hx hb hK hP 1 0 rfl rfl hv1 dc_Na_lengthOf_5 ?_
  refine lv_topi (fun y2 ey2 => ?_)
  have hw := hw y2 ey2
  refine W.widen (k := 0) (n := 0) (Nat.le_of_ble_eq_true rfl) (Nat.le_of_ble_eq_true rfl) ?_
  exact W.iret (v := y2) hx hb hr (fun t ht hW => ⟨⟨y2, (), rfl, hw, by rw [ht]; exact hP, va_K.moved hW.alike hK, hD⟩, hS.F ht⟩) hS.2.2 dc_Na_lengthOf_6

def jw_met_To_isWordByte_19 (post : Int32 → Unit → Prop) (x : Int32) : (Unit) → Prop
  | _ => ((x = (95 : Int32) → (post (1 : Int32) ())) ∧ (¬ (x = (95 : Int32)) → (wp_met_To_isDigit (fun (r3 : Int32) (_ : Unit) => (∀ y4 : Int32, y4 = (if r3 = 0 then (0 : Int32) else (1 : Int32)) → (post y4 ()))) x)))
def wp_met_To_isWordByte (post : Int32 → Unit → Prop) (x : Int32) : Prop := wp_met_To_isSmall (fun (r1 : Int32) (_ : Unit) => (((r1 = 0 → (((x < (65 : Int32) → (jw_met_To_isWordByte_19 post x ())) ∧ (¬ (x < (65 : Int32)) → (((x ≤ (90 : Int32) → (post (1 : Int32) ())) ∧ (¬ (x ≤ (90 : Int32)) → (jw_met_To_isWordByte_19 post x ())))))))) ∧ (¬ (r1 = 0) → (post (1 : Int32) ()))))) x
set_option maxHeartbeats 4000000 in
set_option maxRecDepth 100000 in
theorem met_To_isWordByte (l : Launch) (dC : Nat → ClassId) (dI : Nat → Nat → Nat) (x : Int32) (sz : Nat) {post : Int32 → Unit → Prop} (hw : wp_met_To_isWordByte post x) : Met l my_To_isWordByte (Cond.code my_To_isWordByte cd_To_isWordByte 1 (some (.boolean)) :: tblG) ({ frames := 1, cells := 0, slots := 0, locals := 20 }) (va_Pc [.int x] (fun U => U.heap.size = sz ∧ va_P (dC, dI) vwCl [] U.heap ∧ va_K (dC, dI) vwCl [] U ∧ va_D (fun _ => True) [])) (va_Qi post (fun (u : Unit) (t : State) => va_P (dC, dI) vwCl [] t.heap ∧ va_K (dC, dI) vwCl [] t ∧ va_D (va_A [] sz) []) (va_A [] sz)) 0 0 (va_A [] sz) := by
  refine Met.ofW (cc := cd_To_isWordByte) (maxL := 1) (ret := (some (.boolean))) (by decide) rfl ?_
  intro p e s m args below meth c s₁ B hml hv
  obtain ⟨rfl, hsz, hP, hK, hD0⟩ := hv
  have hx := B.exec
  have hb := B.bytes
  have hr := B.returns
  have hT : ∀ w ∈ tblG, w.before _ s = true := fun w h => atoms_spec (ws := (Cond.code my_To_isWordByte cd_To_isWordByte 1 (some (.boolean)) :: tblG)) B.pre w (List.mem_cons_of_mem _ h)
  have hown : s.vm.findClass "StrataBase$Tokens" = some m.cls := findClass_of_methodNamed B.named
  have hlocks := B.notSynchronized
  subst hsz
  have hD := hD0.self (sz := s.heap.size)
  generalize hAe : va_A [] s.heap.size = A at hD ⊢
  have hA : ∀ q : Nat, s.heap.size ≤ q → A q := fun q h => by rw [← hAe]; exact Or.inr h
  have hS : va_S A s.heap s.heap [] := va_S.rf
  have hl := lv_entry ([.int x]) (n := 1) (Nat.le_of_ble_eq_true rfl)
  rw [lg_entry_eq]
  generalize (lg_sl ([.int x]) ++ List.replicate (1 - (lg_sl ([.int x])).length) Slot.unset).toArray = ls at hl ⊢
  have hl : lv_has ls 1 [(0, .int x)] := hl
  unfold wp_met_To_isWordByte at hw
  refine lv_iload_n hx hb dc_To_isWordByte_0 rfl (lv_at hl 0 rfl) ?_
  have hPc := hP.sub (ws' := []) [] rfl
  have hDc := hD.sub (ws' := []) [] (by decide) rfl
  have hKc := hK.sub (tys' := []) [] rfl
  have hFc := va_free (wc := []) hD hS hA [] rfl
  refine va_calli (va_runS (As := [.int x]) (rest := []) ⟨hx, hb, hml, hown, hT⟩ (met_To_isSmall l dC dI x s.heap.size hw) (va_cwS 1 hT (gd_S wd_617 wd_618 wd_7 wd_619) rfl rfl rfl (by decide +kernel) ⟨Nat.le_of_ble_eq_true rfl, Nat.le_of_ble_eq_true rfl⟩) ⟨fun a U g mk q => by obtain ⟨q0, q1, qP, qK, qD⟩ := q; exact ⟨q0, q1, qP, va_K.moved (u := U) (U := U.calling g mk a) (Vm.Alike.refl U.vm) qK, qD⟩, fun U hU hW => ⟨rfl, by rw [hU], by rw [hU]; exact hPc, va_K.moved hW.alike hKc, hDc.weaken (fun _ _ _ _ => trivial)⟩⟩ rfl rfl hl.1 rfl (lv_room (Nat.le_of_ble_eq_true rfl)) dc_To_isWordByte_1 ⟨(Nat.le_of_ble_eq_true rfl), (Nat.le_of_ble_eq_true rfl)⟩) hS (fun q _ h => hFc q h) hFc (fun r1 _ t H1 locs ht hvm hw hB hz1 hk1 hS => ?_)
  obtain ⟨hP1, hK1, hD1⟩ := hB
  rw [ht] at hP1
  have hK1 := va_K.moved hvm.symm hK1
  obtain ⟨hP, hD⟩ := va_join (wr := []) (w1 := []) hP hD [] [] rfl rfl (by decide) (by decide) hk1 hFc hP1 hD1
  have hK := (hK.sub (tys' := []) [] rfl).app hK1
  generalize H1 = H at hP hS ⊢
  have hP : va_P (dC, dI) vwCl [] H := hP
  have hD : va_D A [] := hD
  have hK : va_K (dC, dI) vwCl [] s := hK
  refine lv_if_ne (tgt := 32) hx hb dc_To_isWordByte_4 (by decide) (fun h4 => ?_) (fun h4 => ?_)
  · have hw := hw.2 h4
    refine lv_iconst (v := 1) hx hb dc_To_isWordByte_32 (by decide) ?_
    refine lv_goto (tgt := 37) hx hb dc_To_isWordByte_33 (by decide) ?_
    refine W.widen (k := 0) (n := 0) (Nat.le_of_ble_eq_true rfl) (Nat.le_of_ble_eq_true rfl) ?_
    exact W.zret (v := 1) hx hb hr (by decide) (fun t ht hW => ⟨⟨1, (), rfl, hw, by rw [ht]; exact hP, va_K.moved hW.alike hK, hD⟩, hS.F ht⟩) hS.2.2 dc_To_isWordByte_37
  · have hw := hw.1 h4
    refine lv_iload_n hx hb dc_To_isWordByte_7 rfl (lv_at hl 0 rfl) ?_
    refine lv_bipush (v := 65) hx hb dc_To_isWordByte_8 (by decide) ?_
    refine jn_st (σ := Unit) (pc2 := 19) (fun x9 => jw_met_To_isWordByte_19 post x x9) (fun _ => []) (fun _ H locs ls => va_K (dC, dI) vwCl [] s ∧ va_P (dC, dI) vwCl [] H ∧ va_D A [] ∧ va_S A s.heap H locs ∧ lv_has ls 1 [(0, .int x)]) ?_ (fun k2 => ?_)
    rotate_left
    · refine lv_icmp_lt (tgt := 19) hx hb dc_To_isWordByte_10 (by decide) (fun h10 => ?_) (fun h10 => ?_)
      · have hw := hw.1 h10
        exact k2 () hw _ _ _ ⟨hK.sub [] rfl, hP.sub [] rfl, hD.sub [] (by decide) rfl, hS, lv_sub hl [0] rfl⟩
      · have hw := hw.2 h10
        refine lv_iload_n hx hb dc_To_isWordByte_13 rfl (lv_at hl 0 rfl) ?_
        refine lv_bipush (v := 90) hx hb dc_To_isWordByte_14 (by decide) ?_
        refine lv_icmp_le (tgt := 32) hx hb dc_To_isWordByte_16 (by decide) (fun h16 => ?_) (fun h16 => ?_)
        · have hw := hw.1 h16
          refine lv_iconst (v := 1) hx hb dc_To_isWordByte_32 (by decide) ?_
          refine lv_goto (tgt := 37) hx hb dc_To_isWordByte_33 (by decide) ?_
          refine W.widen (k := 0) (n := 0) (Nat.le_of_ble_eq_true rfl) (Nat.le_of_ble_eq_true rfl) ?_
          exact W.zret (v := 1) hx hb hr (by decide) (fun t ht hW => ⟨⟨1, (), rfl, hw, by rw [ht]; exact hP, va_K.moved hW.alike hK, hD⟩, hS.F ht⟩) hS.2.2 dc_To_isWordByte_37
        · have hw := hw.2 h16
          exact k2 () hw _ _ _ ⟨hK.sub [] rfl, hP.sub [] rfl, hD.sub [] (by decide) rfl, hS, lv_sub hl [0] rfl⟩
    intro x9 hw H locs ls hI
    obtain ⟨hK, hP, hD, hS, hl⟩ := hI
    unfold jw_met_To_isWordByte_19 at hw
    refine W.eq (g2 := F0 m 19 ls []) rfl ?_
    refine lv_iload_n hx hb dc_To_isWordByte_19 rfl (lv_at hl 0 rfl) ?_
    refine lv_bipush (v := 95) hx hb dc_To_isWordByte_20 (by decide) ?_
    refine lv_icmp_eq (tgt := 32) hx hb dc_To_isWordByte_22 (by decide) (fun h22 => ?_) (fun h22 => ?_)
    · have hw := hw.1 h22
      refine lv_iconst (v := 1) hx hb dc_To_isWordByte_32 (by decide) ?_
      refine lv_goto (tgt := 37) hx hb dc_To_isWordByte_33 (by decide) ?_
      refine W.widen (k := 0) (n := 0) (Nat.le_of_ble_eq_true rfl) (Nat.le_of_ble_eq_true rfl) ?_
      exact W.zret (v := 1) hx hb hr (by decide) (fun t ht hW => ⟨⟨1, (), rfl, hw, by rw [ht]; exact hP, va_K.moved hW.alike hK, hD⟩, hS.F ht⟩) hS.2.2 dc_To_isWordByte_37
    · have hw := hw.2 h22
      refine lv_iload_n hx hb dc_To_isWordByte_25 rfl (lv_at hl 0 rfl) ?_
      have hPc := hP.sub (ws' := []) [] rfl
      have hDc := hD.sub (ws' := []) [] (by decide) rfl
      have hKc := hK.sub (tys' := []) [] rfl
      have hFc := va_free (wc := []) hD hS hA [] rfl
      refine va_calli (va_runS (As := [.int x]) (rest := []) ⟨hx, hb, hml, hown, hT⟩ (met_To_isDigit l dC dI x H.size hw) (va_cwS 1 hT (gd_S wd_620 wd_621 wd_7 wd_622) rfl rfl rfl (by decide +kernel) ⟨Nat.le_of_ble_eq_true rfl, Nat.le_of_ble_eq_true rfl⟩) ⟨fun a U g mk q => by obtain ⟨q0, q1, qP, qK, qD⟩ := q; exact ⟨q0, q1, qP, va_K.moved (u := U) (U := U.calling g mk a) (Vm.Alike.refl U.vm) qK, qD⟩, fun U hU hW => ⟨rfl, by rw [hU], by rw [hU]; exact hPc, va_K.moved hW.alike hKc, hDc.weaken (fun _ _ _ _ => trivial)⟩⟩ rfl rfl hl.1 rfl (lv_room (Nat.le_of_ble_eq_true rfl)) dc_To_isWordByte_26 ⟨(Nat.le_of_ble_eq_true rfl), (Nat.le_of_ble_eq_true rfl)⟩) hS (fun q _ h => hFc q h) hFc (fun r3 _ t H1 locs ht hvm hw hB hz1 hk1 hS => ?_)
      obtain ⟨hP1, hK1, hD1⟩ := hB
      rw [ht] at hP1
      have hK1 := va_K.moved hvm.symm hK1
      obtain ⟨hP, hD⟩ := va_join (wr := []) (w1 := []) hP hD [] [] rfl rfl (by decide) (by decide) hk1 hFc hP1 hD1
      have hK := (hK.sub (tys' := []) [] rfl).app hK1
      generalize H1 = H at hP hS ⊢
      have hP : va_P (dC, dI) vwCl [] H := hP
      have hD : va_D A [] := hD
      have hK : va_K (dC, dI) vwCl [] s := hK
      refine jn_top (pc2 := 37) (rest := []) (fun y4 => y4 = (if r3 = 0 then (0 : Int32) else (1 : Int32))) (fun y4 ey4 => ?_) (fun k9 => ?_)
      rotate_left
      · refine lv_if_eq (tgt := 36) hx hb dc_To_isWordByte_29 (by decide) (fun h29 => ?_) (fun h29 => ?_)
        · refine lv_iconst (v := 0) hx hb dc_To_isWordByte_36 (by decide) ?_
          exact k9 (0 : Int32) (by rw [if_pos h29])
        · refine lv_iconst (v := 1) hx hb dc_To_isWordByte_32 (by decide) ?_
          refine lv_goto (tgt := 37) hx hb dc_To_isWordByte_33 (by decide) ?_
          exact k9 (1 : Int32) (by rw [if_neg h29])
      have hw := hw y4 ey4
      have hzy4 : y4 = 0 ∨ y4 = 1 := by
        rw [ey4]; repeat' split
        all_goals first | exact Or.inl rfl | exact Or.inr rfl
      refine W.widen (k := 0) (n := 0) (Nat.le_of_ble_eq_true rfl) (Nat.le_of_ble_eq_true rfl) ?_
      exact W.zret (v := y4) hx hb hr (nz_n hzy4) (fun t ht hW => ⟨⟨y4, (), rfl, hw, by rw [ht]; exact hP, va_K.moved hW.alike hK, hD⟩, hS.F ht⟩) hS.2.2 dc_To_isWordByte_37

def wp_met_Mo_isWord (post : Int32 → Unit → Prop) (x : Int32) : Prop := wp_met_Mo_isDigit (fun (r1 : Int32) (_ : Unit) => (((r1 = 0 → (wp_met_Mo_isSmall (fun (r2 : Int32) (_ : Unit) => (∀ y3 : Int32, y3 = (if r2 = 0 then (if x < (65 : Int32) then (if x = (95 : Int32) then (1 : Int32) else (0 : Int32)) else (if x ≤ (90 : Int32) then (1 : Int32) else (if x = (95 : Int32) then (1 : Int32) else (0 : Int32)))) else (1 : Int32)) → (post y3 ()))) x)) ∧ (¬ (r1 = 0) → (post (1 : Int32) ()))))) x
set_option maxHeartbeats 4000000 in
set_option maxRecDepth 100000 in
theorem met_Mo_isWord (l : Launch) (dC : Nat → ClassId) (dI : Nat → Nat → Nat) (x : Int32) (sz : Nat) {post : Int32 → Unit → Prop} (hw : wp_met_Mo_isWord post x) : Met l my_Mo_isWord (Cond.code my_Mo_isWord cd_Mo_isWord 1 (some (.boolean)) :: tblG) ({ frames := 1, cells := 0, slots := 0, locals := 20 }) (va_Pc [.int x] (fun U => U.heap.size = sz ∧ va_P (dC, dI) vwCl [] U.heap ∧ va_K (dC, dI) vwCl [] U ∧ va_D (fun _ => True) [])) (va_Qi post (fun (u : Unit) (t : State) => va_P (dC, dI) vwCl [] t.heap ∧ va_K (dC, dI) vwCl [] t ∧ va_D (va_A [] sz) []) (va_A [] sz)) 0 0 (va_A [] sz) := by
  refine Met.ofW (cc := cd_Mo_isWord) (maxL := 1) (ret := (some (.boolean))) (by decide) rfl ?_
  intro p e s m args below meth c s₁ B hml hv
  obtain ⟨rfl, hsz, hP, hK, hD0⟩ := hv
  have hx := B.exec
  have hb := B.bytes
  have hr := B.returns
  have hT : ∀ w ∈ tblG, w.before _ s = true := fun w h => atoms_spec (ws := (Cond.code my_Mo_isWord cd_Mo_isWord 1 (some (.boolean)) :: tblG)) B.pre w (List.mem_cons_of_mem _ h)
  have hown : s.vm.findClass "StrataBaseModel" = some m.cls := findClass_of_methodNamed B.named
  have hlocks := B.notSynchronized
  subst hsz
  have hD := hD0.self (sz := s.heap.size)
  generalize hAe : va_A [] s.heap.size = A at hD ⊢
  have hA : ∀ q : Nat, s.heap.size ≤ q → A q := fun q h => by rw [← hAe]; exact Or.inr h
  have hS : va_S A s.heap s.heap [] := va_S.rf
  have hl := lv_entry ([.int x]) (n := 1) (Nat.le_of_ble_eq_true rfl)
  rw [lg_entry_eq]
  generalize (lg_sl ([.int x]) ++ List.replicate (1 - (lg_sl ([.int x])).length) Slot.unset).toArray = ls at hl ⊢
  have hl : lv_has ls 1 [(0, .int x)] := hl
  unfold wp_met_Mo_isWord at hw
  refine lv_iload_n hx hb dc_Mo_isWord_0 rfl (lv_at hl 0 rfl) ?_
  have hPc := hP.sub (ws' := []) [] rfl
  have hDc := hD.sub (ws' := []) [] (by decide) rfl
  have hKc := hK.sub (tys' := []) [] rfl
  have hFc := va_free (wc := []) hD hS hA [] rfl
  refine va_calli (va_runS (As := [.int x]) (rest := []) ⟨hx, hb, hml, hown, hT⟩ (met_Mo_isDigit l dC dI x s.heap.size hw) (va_cwS 1 hT (gd_S wd_1602 wd_1603 wd_13 wd_1604) rfl rfl rfl (by decide +kernel) ⟨Nat.le_of_ble_eq_true rfl, Nat.le_of_ble_eq_true rfl⟩) ⟨fun a U g mk q => by obtain ⟨q0, q1, qP, qK, qD⟩ := q; exact ⟨q0, q1, qP, va_K.moved (u := U) (U := U.calling g mk a) (Vm.Alike.refl U.vm) qK, qD⟩, fun U hU hW => ⟨rfl, by rw [hU], by rw [hU]; exact hPc, va_K.moved hW.alike hKc, hDc.weaken (fun _ _ _ _ => trivial)⟩⟩ rfl rfl hl.1 rfl (lv_room (Nat.le_of_ble_eq_true rfl)) dc_Mo_isWord_1 ⟨(Nat.le_of_ble_eq_true rfl), (Nat.le_of_ble_eq_true rfl)⟩) hS (fun q _ h => hFc q h) hFc (fun r1 _ t H1 locs ht hvm hw hB hz1 hk1 hS => ?_)
  obtain ⟨hP1, hK1, hD1⟩ := hB
  rw [ht] at hP1
  have hK1 := va_K.moved hvm.symm hK1
  obtain ⟨hP, hD⟩ := va_join (wr := []) (w1 := []) hP hD [] [] rfl rfl (by decide) (by decide) hk1 hFc hP1 hD1
  have hK := (hK.sub (tys' := []) [] rfl).app hK1
  generalize H1 = H at hP hS ⊢
  have hP : va_P (dC, dI) vwCl [] H := hP
  have hD : va_D A [] := hD
  have hK : va_K (dC, dI) vwCl [] s := hK
  refine lv_if_ne (tgt := 32) hx hb dc_Mo_isWord_4 (by decide) (fun h4 => ?_) (fun h4 => ?_)
  · have hw := hw.2 h4
    refine lv_iconst (v := 1) hx hb dc_Mo_isWord_32 (by decide) ?_
    refine lv_goto (tgt := 37) hx hb dc_Mo_isWord_33 (by decide) ?_
    refine W.widen (k := 0) (n := 0) (Nat.le_of_ble_eq_true rfl) (Nat.le_of_ble_eq_true rfl) ?_
    exact W.zret (v := 1) hx hb hr (by decide) (fun t ht hW => ⟨⟨1, (), rfl, hw, by rw [ht]; exact hP, va_K.moved hW.alike hK, hD⟩, hS.F ht⟩) hS.2.2 dc_Mo_isWord_37
  · have hw := hw.1 h4
    refine lv_iload_n hx hb dc_Mo_isWord_7 rfl (lv_at hl 0 rfl) ?_
    have hPc := hP.sub (ws' := []) [] rfl
    have hDc := hD.sub (ws' := []) [] (by decide) rfl
    have hKc := hK.sub (tys' := []) [] rfl
    have hFc := va_free (wc := []) hD hS hA [] rfl
    refine va_calli (va_runS (As := [.int x]) (rest := []) ⟨hx, hb, hml, hown, hT⟩ (met_Mo_isSmall l dC dI x H.size hw) (va_cwS 1 hT (gd_S wd_1605 wd_1606 wd_13 wd_1607) rfl rfl rfl (by decide +kernel) ⟨Nat.le_of_ble_eq_true rfl, Nat.le_of_ble_eq_true rfl⟩) ⟨fun a U g mk q => by obtain ⟨q0, q1, qP, qK, qD⟩ := q; exact ⟨q0, q1, qP, va_K.moved (u := U) (U := U.calling g mk a) (Vm.Alike.refl U.vm) qK, qD⟩, fun U hU hW => ⟨rfl, by rw [hU], by rw [hU]; exact hPc, va_K.moved hW.alike hKc, hDc.weaken (fun _ _ _ _ => trivial)⟩⟩ rfl rfl hl.1 rfl (lv_room (Nat.le_of_ble_eq_true rfl)) dc_Mo_isWord_8 ⟨(Nat.le_of_ble_eq_true rfl), (Nat.le_of_ble_eq_true rfl)⟩) hS (fun q _ h => hFc q h) hFc (fun r2 _ t H1 locs ht hvm hw hB hz1 hk1 hS => ?_)
    obtain ⟨hP1, hK1, hD1⟩ := hB
    rw [ht] at hP1
    have hK1 := va_K.moved hvm.symm hK1
    obtain ⟨hP, hD⟩ := va_join (wr := []) (w1 := []) hP hD [] [] rfl rfl (by decide) (by decide) hk1 hFc hP1 hD1
    have hK := (hK.sub (tys' := []) [] rfl).app hK1
    generalize H1 = H at hP hS ⊢
    have hP : va_P (dC, dI) vwCl [] H := hP
    have hD : va_D A [] := hD
    have hK : va_K (dC, dI) vwCl [] s := hK
    refine jn_top (pc2 := 37) (rest := []) (fun y3 => y3 = (if r2 = 0 then (if x < (65 : Int32) then (if x = (95 : Int32) then (1 : Int32) else (0 : Int32)) else (if x ≤ (90 : Int32) then (1 : Int32) else (if x = (95 : Int32) then (1 : Int32) else (0 : Int32)))) else (1 : Int32))) (fun y3 ey3 => ?_) (fun k9 => ?_)
    rotate_left
    · refine lv_if_ne (tgt := 32) hx hb dc_Mo_isWord_11 (by decide) (fun h11 => ?_) (fun h11 => ?_)
      · refine lv_iconst (v := 1) hx hb dc_Mo_isWord_32 (by decide) ?_
        refine lv_goto (tgt := 37) hx hb dc_Mo_isWord_33 (by decide) ?_
        exact k9 (1 : Int32) (by rw [if_neg h11])
      · refine lv_iload_n hx hb dc_Mo_isWord_14 rfl (lv_at hl 0 rfl) ?_
        refine lv_bipush (v := 65) hx hb dc_Mo_isWord_15 (by decide) ?_
        refine lv_icmp_lt (tgt := 26) hx hb dc_Mo_isWord_17 (by decide) (fun h17 => ?_) (fun h17 => ?_)
        · refine lv_iload_n hx hb dc_Mo_isWord_26 rfl (lv_at hl 0 rfl) ?_
          refine lv_bipush (v := 95) hx hb dc_Mo_isWord_27 (by decide) ?_
          refine lv_icmp_ne (tgt := 36) hx hb dc_Mo_isWord_29 (by decide) (fun h29 => ?_) (fun h29 => ?_)
          · refine lv_iconst (v := 0) hx hb dc_Mo_isWord_36 (by decide) ?_
            exact k9 (0 : Int32) (by rw [if_pos h11, if_pos h17, if_neg h29])
          · refine lv_iconst (v := 1) hx hb dc_Mo_isWord_32 (by decide) ?_
            refine lv_goto (tgt := 37) hx hb dc_Mo_isWord_33 (by decide) ?_
            exact k9 (1 : Int32) (by rw [if_pos h11, if_pos h17, if_pos h29])
        · refine lv_iload_n hx hb dc_Mo_isWord_20 rfl (lv_at hl 0 rfl) ?_
          refine lv_bipush (v := 90) hx hb dc_Mo_isWord_21 (by decide) ?_
          refine lv_icmp_le (tgt := 32) hx hb dc_Mo_isWord_23 (by decide) (fun h23 => ?_) (fun h23 => ?_)
          · refine lv_iconst (v := 1) hx hb dc_Mo_isWord_32 (by decide) ?_
            refine lv_goto (tgt := 37) hx hb dc_Mo_isWord_33 (by decide) ?_
            exact k9 (1 : Int32) (by rw [if_pos h11, if_neg h17, if_pos h23])
          · refine lv_iload_n hx hb dc_Mo_isWord_26 rfl (lv_at hl 0 rfl) ?_
            refine lv_bipush (v := 95) hx hb dc_Mo_isWord_27 (by decide) ?_
            refine lv_icmp_ne (tgt := 36) hx hb dc_Mo_isWord_29 (by decide) (fun h29 => ?_) (fun h29 => ?_)
            · refine lv_iconst (v := 0) hx hb dc_Mo_isWord_36 (by decide) ?_
              exact k9 (0 : Int32) (by rw [if_pos h11, if_neg h17, if_neg h23, if_neg h29])
            · refine lv_iconst (v := 1) hx hb dc_Mo_isWord_32 (by decide) ?_
              refine lv_goto (tgt := 37) hx hb dc_Mo_isWord_33 (by decide) ?_
              exact k9 (1 : Int32) (by rw [if_pos h11, if_neg h17, if_neg h23, if_pos h29])
    have hw := hw y3 ey3
    have hzy3 : y3 = 0 ∨ y3 = 1 := by
      rw [ey3]; repeat' split
      all_goals first | exact Or.inl rfl | exact Or.inr rfl
    refine W.widen (k := 0) (n := 0) (Nat.le_of_ble_eq_true rfl) (Nat.le_of_ble_eq_true rfl) ?_
    exact W.zret (v := y3) hx hb hr (nz_n hzy3) (fun t ht hW => ⟨⟨y3, (), rfl, hw, by rw [ht]; exact hP, va_K.moved hW.alike hK, hD⟩, hS.F ht⟩) hS.2.2 dc_Mo_isWord_37

def wp_met_Co_clear (post : (Int32 × Int32) → Prop) : Prop := wp_met_Na_clear (fun (u9 : Int32 × Int32) => match u9 with | (o1, o2) => (post (o1, o2)))
set_option maxHeartbeats 4000000 in
set_option maxRecDepth 100000 in
theorem met_Co_clear (l : Launch) (dC : Nat → ClassId) (dI : Nat → Nat → Nat) (h0 : Nat) (names_ : Nat) (values_ : Nat) (byRank_ : Nat) (ranks_ : Nat) (n_starts_ : Nat) (n_lengths_ : Nat) (n_text_ : Nat) (n_size_ : Int32) (n_used_ : Int32) (sz : Nat) {post : (Int32 × Int32) → Prop} (hw : wp_met_Co_clear post) : Met l my_Co_clear (Cond.code my_Co_clear cd_Co_clear 1 none :: tblG) ({ frames := 1, cells := 0, slots := 0, locals := 20 }) (va_Pc [.ref h0] (fun U => U.heap.size = sz ∧ va_P (dC, dI) vwCl [(h0, .inr (2, [.ref names_, .ref values_, .ref byRank_, .ref ranks_])), (names_, .inr (6, [.int n_size_, .ref n_starts_, .ref n_lengths_, .ref n_text_, .int n_used_]))] U.heap ∧ va_K (dC, dI) vwCl [] U ∧ va_D (fun _ => True) [(h0, .inr (2, [.ref names_, .ref values_, .ref byRank_, .ref ranks_])), (names_, .inr (6, [.int n_size_, .ref n_starts_, .ref n_lengths_, .ref n_text_, .int n_used_]))])) (va_Qv post (fun (u : Int32 × Int32) (t : State) => match u with | (o0, o1) => va_P (dC, dI) vwCl [(h0, .inr (2, [.ref names_, .ref values_, .ref byRank_, .ref ranks_])), (names_, .inr (6, [.int o0, .ref n_starts_, .ref n_lengths_, .ref n_text_, .int o1]))] t.heap ∧ va_K (dC, dI) vwCl [] t ∧ va_D (va_A [(h0, .inr (2, [.ref names_, .ref values_, .ref byRank_, .ref ranks_])), (names_, .inr (6, [.int n_size_, .ref n_starts_, .ref n_lengths_, .ref n_text_, .int n_used_]))] sz) [(h0, .inr (2, [.ref names_, .ref values_, .ref byRank_, .ref ranks_])), (names_, .inr (6, [.int o0, .ref n_starts_, .ref n_lengths_, .ref n_text_, .int o1]))]) (va_A [(h0, .inr (2, [.ref names_, .ref values_, .ref byRank_, .ref ranks_])), (names_, .inr (6, [.int n_size_, .ref n_starts_, .ref n_lengths_, .ref n_text_, .int n_used_]))] sz)) 0 0 (va_A [(h0, .inr (2, [.ref names_, .ref values_, .ref byRank_, .ref ranks_])), (names_, .inr (6, [.int n_size_, .ref n_starts_, .ref n_lengths_, .ref n_text_, .int n_used_]))] sz) := by
  refine Met.ofW (cc := cd_Co_clear) (maxL := 1) (ret := none) (by decide) rfl ?_
  intro p e s m args below meth c s₁ B hml hv
  obtain ⟨rfl, hsz, hP, hK, hD0⟩ := hv
  have hx := B.exec
  have hb := B.bytes
  have hr := B.returns
  have hT : ∀ w ∈ tblG, w.before _ s = true := fun w h => atoms_spec (ws := (Cond.code my_Co_clear cd_Co_clear 1 none :: tblG)) B.pre w (List.mem_cons_of_mem _ h)
  have hown : s.vm.findClass "StrataBase$Constants" = some m.cls := findClass_of_methodNamed B.named
  have hlocks := B.notSynchronized
  subst hsz
  have hD := hD0.self (sz := s.heap.size)
  generalize hAe : va_A [(h0, .inr (2, [.ref names_, .ref values_, .ref byRank_, .ref ranks_])), (names_, .inr (6, [.int n_size_, .ref n_starts_, .ref n_lengths_, .ref n_text_, .int n_used_]))] s.heap.size = A at hD ⊢
  have hA : ∀ q : Nat, s.heap.size ≤ q → A q := fun q h => by rw [← hAe]; exact Or.inr h
  have hS : va_S A s.heap s.heap [] := va_S.rf
  have hl := lv_entry ([.ref h0]) (n := 1) (Nat.le_of_ble_eq_true rfl)
  rw [lg_entry_eq]
  generalize (lg_sl ([.ref h0]) ++ List.replicate (1 - (lg_sl ([.ref h0])).length) Slot.unset).toArray = ls at hl ⊢
  have hl : lv_has ls 1 [(0, .ref h0)] := hl
  unfold wp_met_Co_clear at hw
  refine lv_aload_n hx hb dc_Co_clear_0 rfl (lv_at hl 0 rfl) ?_
  refine va_get (D := (dC, dI)) (ci := 2) (v := .ref names_) (C := "StrataBase$Constants") (T := tb_Co) (N := 4) hx hb hT in_Co hown hK hP 0 rfl rfl 0 (by decide) (hT _ wd_132) (fun _ h9 => h9) rfl dc_Co_clear_1 ?_
  have hPc := hP.sub (ws' := [(names_, .inr (6, [.int n_size_, .ref n_starts_, .ref n_lengths_, .ref n_text_, .int n_used_]))]) [1] rfl
  have hDc := hD.sub (ws' := [(names_, .inr (6, [.int n_size_, .ref n_starts_, .ref n_lengths_, .ref n_text_, .int n_used_]))]) [1] (by decide) rfl
  have hKc := hK.sub (tys' := []) [] rfl
  have hFc := va_free (wc := [(names_, .inr (6, [.int n_size_, .ref n_starts_, .ref n_lengths_, .ref n_text_, .int n_used_]))]) hD hS hA [1] rfl
  refine va_callv (va_runV (As := []) (rest := []) ⟨hx, hb, hml, hown, hT⟩ (met_Na_clear l dC dI names_ n_starts_ n_lengths_ n_text_ n_size_ n_used_ s.heap.size hw) (cwV 0 hT (gd_V wd_595 wd_578 wd_579 wd_4 wd_580) rfl rfl rfl (by decide +kernel) ⟨Nat.le_of_ble_eq_true rfl, Nat.le_of_ble_eq_true rfl⟩) ⟨fun a U g mk q => by obtain ⟨q0, q1, qP, qK, qD⟩ := q; exact ⟨q0, q1, qP, va_K.moved (u := U) (U := U.calling g mk a) (Vm.Alike.refl U.vm) qK, qD⟩, va_recv hK hP (q0 := 1) (ci := 6) rfl rfl, fun U hU hW => ⟨rfl, by rw [hU], by rw [hU]; exact hPc, va_K.moved hW.alike hKc, hDc.weaken (fun _ _ _ _ => trivial)⟩⟩ rfl rfl hl.1 rfl (lv_room (Nat.le_of_ble_eq_true rfl)) dc_Co_clear_4 ⟨(Nat.le_of_ble_eq_true rfl), (Nat.le_of_ble_eq_true rfl)⟩) hS (fun q _ h => hFc q h) hFc (fun u9 t H1 locs ht hvm hw hB hz1 hk1 hS => ?_)
  obtain ⟨o1, o2⟩ := u9
  obtain ⟨hP1, hK1, hD1⟩ := hB
  rw [ht] at hP1
  have hK1 := va_K.moved hvm.symm hK1
  obtain ⟨hP, hD⟩ := va_join (wr := [(h0, .inr (2, [.ref names_, .ref values_, .ref byRank_, .ref ranks_]))]) (w1 := [(names_, .inr (6, [.int o1, .ref n_starts_, .ref n_lengths_, .ref n_text_, .int o2]))]) hP hD [1] [0] rfl rfl (by decide) (by decide) hk1 hFc hP1 hD1
  have hK := (hK.sub (tys' := []) [] rfl).app hK1
  generalize H1 = H at hP hS ⊢
  have hP : va_P (dC, dI) vwCl [(h0, .inr (2, [.ref names_, .ref values_, .ref byRank_, .ref ranks_])), (names_, .inr (6, [.int o1, .ref n_starts_, .ref n_lengths_, .ref n_text_, .int o2]))] H := hP
  have hD : va_D A [(h0, .inr (2, [.ref names_, .ref values_, .ref byRank_, .ref ranks_])), (names_, .inr (6, [.int o1, .ref n_starts_, .ref n_lengths_, .ref n_text_, .int o2]))] := hD
  have hK : va_K (dC, dI) vwCl [] s := hK
  refine W.widen (k := 0) (n := 0) (Nat.le_of_ble_eq_true rfl) (Nat.le_of_ble_eq_true rfl) ?_
  exact W.vret hx hb hr (fun t ht hW => ⟨⟨(o1, o2), rfl, hw, by rw [ht]; exact hP, va_K.moved hW.alike hK, hD⟩, hS.F ht⟩) hS.2.2 dc_Co_clear_7

def wp_met_Co_size (post : Int32 → Unit → Prop) (n_size_ : Int32) : Prop := post n_size_ ()
set_option maxHeartbeats 4000000 in
set_option maxRecDepth 100000 in
theorem met_Co_size (l : Launch) (dC : Nat → ClassId) (dI : Nat → Nat → Nat) (h0 : Nat) (names_ : Nat) (values_ : Nat) (byRank_ : Nat) (ranks_ : Nat) (n_starts_ : Nat) (n_lengths_ : Nat) (n_text_ : Nat) (n_size_ : Int32) (n_used_ : Int32) (sz : Nat) {post : Int32 → Unit → Prop} (hw : wp_met_Co_size post n_size_) : Met l my_Co_size (Cond.code my_Co_size cd_Co_size 1 (some (.int)) :: tblG) ({ frames := 0, cells := 0, slots := 0, locals := 0 }) (va_Pc [.ref h0] (fun U => U.heap.size = sz ∧ va_P (dC, dI) vwCl [(h0, .inr (2, [.ref names_, .ref values_, .ref byRank_, .ref ranks_])), (names_, .inr (6, [.int n_size_, .ref n_starts_, .ref n_lengths_, .ref n_text_, .int n_used_]))] U.heap ∧ va_K (dC, dI) vwCl [] U ∧ va_D (fun _ => True) [(h0, .inr (2, [.ref names_, .ref values_, .ref byRank_, .ref ranks_])), (names_, .inr (6, [.int n_size_, .ref n_starts_, .ref n_lengths_, .ref n_text_, .int n_used_]))])) (va_Qi post (fun (u : Unit) (t : State) => va_P (dC, dI) vwCl [(h0, .inr (2, [.ref names_, .ref values_, .ref byRank_, .ref ranks_])), (names_, .inr (6, [.int n_size_, .ref n_starts_, .ref n_lengths_, .ref n_text_, .int n_used_]))] t.heap ∧ va_K (dC, dI) vwCl [] t ∧ va_D (va_A [(h0, .inr (2, [.ref names_, .ref values_, .ref byRank_, .ref ranks_])), (names_, .inr (6, [.int n_size_, .ref n_starts_, .ref n_lengths_, .ref n_text_, .int n_used_]))] sz) [(h0, .inr (2, [.ref names_, .ref values_, .ref byRank_, .ref ranks_])), (names_, .inr (6, [.int n_size_, .ref n_starts_, .ref n_lengths_, .ref n_text_, .int n_used_]))]) (va_A [(h0, .inr (2, [.ref names_, .ref values_, .ref byRank_, .ref ranks_])), (names_, .inr (6, [.int n_size_, .ref n_starts_, .ref n_lengths_, .ref n_text_, .int n_used_]))] sz)) 0 0 (va_A [(h0, .inr (2, [.ref names_, .ref values_, .ref byRank_, .ref ranks_])), (names_, .inr (6, [.int n_size_, .ref n_starts_, .ref n_lengths_, .ref n_text_, .int n_used_]))] sz) := by
  refine Met.ofW (cc := cd_Co_size) (maxL := 1) (ret := (some (.int))) (by decide) rfl ?_
  intro p e s m args below meth c s₁ B hml hv
  obtain ⟨rfl, hsz, hP, hK, hD0⟩ := hv
  have hx := B.exec
  have hb := B.bytes
  have hr := B.returns
  have hT : ∀ w ∈ tblG, w.before _ s = true := fun w h => atoms_spec (ws := (Cond.code my_Co_size cd_Co_size 1 (some (.int)) :: tblG)) B.pre w (List.mem_cons_of_mem _ h)
  have hown : s.vm.findClass "StrataBase$Constants" = some m.cls := findClass_of_methodNamed B.named
  have hlocks := B.notSynchronized
  subst hsz
  have hD := hD0.self (sz := s.heap.size)
  generalize hAe : va_A [(h0, .inr (2, [.ref names_, .ref values_, .ref byRank_, .ref ranks_])), (names_, .inr (6, [.int n_size_, .ref n_starts_, .ref n_lengths_, .ref n_text_, .int n_used_]))] s.heap.size = A at hD ⊢
  have hA : ∀ q : Nat, s.heap.size ≤ q → A q := fun q h => by rw [← hAe]; exact Or.inr h
  have hS : va_S A s.heap s.heap [] := va_S.rf
  have hl := lv_entry ([.ref h0]) (n := 1) (Nat.le_of_ble_eq_true rfl)
  rw [lg_entry_eq]
  generalize (lg_sl ([.ref h0]) ++ List.replicate (1 - (lg_sl ([.ref h0])).length) Slot.unset).toArray = ls at hl ⊢
  have hl : lv_has ls 1 [(0, .ref h0)] := hl
  unfold wp_met_Co_size at hw
  refine lv_aload_n hx hb dc_Co_size_0 rfl (lv_at hl 0 rfl) ?_
  refine va_get (D := (dC, dI)) (ci := 2) (v := .ref names_) (C := "StrataBase$Constants") (T := tb_Co) (N := 4) hx hb hT in_Co hown hK hP 0 rfl rfl 0 (by decide) (hT _ wd_132) (fun _ h9 => h9) rfl dc_Co_size_1 ?_
  refine va_get (D := (dC, dI)) (ci := 6) (v := .int n_size_) (C := "StrataBase$Names") (T := tb_Na) (N := 5) hx hb hT in_Na hown hK hP 1 rfl rfl 0 (by decide) (hT _ wd_105) (fun _ h9 => h9) rfl dc_Co_size_4 ?_
  refine W.widen (k := 0) (n := 0) (Nat.le_of_ble_eq_true rfl) (Nat.le_of_ble_eq_true rfl) ?_
  exact W.iret (v := n_size_) hx hb hr (fun t ht hW => ⟨⟨n_size_, (), rfl, hw, by rw [ht]; exact hP, va_K.moved hW.alike hK, hD⟩, hS.F ht⟩) hS.2.2 dc_Co_size_7

def wp_met_Cl_setTerm (post : (Nat → Int32) → Prop) (nt : Nat) (x : Int32) (y : Int32) (z : Int32) (ft : Nat → Int32) : Prop := ∀ y1 : Int32, y1 = x * (6 : Int32) → (∀ y2 : Int32, y2 = y1 + y → (vp_in y2 nt ∧ (∀ g4 : Nat → Int32, g4 = upd ft y2.toNatClampNeg z → (post g4))))
set_option maxHeartbeats 4000000 in
set_option maxRecDepth 100000 in
theorem met_Cl_setTerm (l : Launch) (dC : Nat → ClassId) (dI : Nat → Nat → Nat) (nt : Nat) (h0 : Nat) (first_ : Nat) (kinds_ : Nat) (predicates_ : Nat) (places_ : Nat) (sizes_ : Nat) (masks_ : Nat) (terms_ : Nat) (x : Int32) (y : Int32) (z : Int32) (size_ : Int32) (literals_ : Int32) (ft : Nat → Int32) (k1 : ClassId) (sz : Nat) {post : (Nat → Int32) → Prop} (hw : wp_met_Cl_setTerm post nt x y z ft) : Met l my_Cl_setTerm (Cond.code my_Cl_setTerm cd_Cl_setTerm 4 none :: tblG) ({ frames := 0, cells := 0, slots := 0, locals := 0 }) (va_Pc [.ref h0, .int x, .int y, .int z] (fun U => U.heap.size = sz ∧ va_P (dC, dI) vwCl [(h0, .inr (1, [.int size_, .ref first_, .ref kinds_, .ref predicates_, .ref places_, .ref sizes_, .ref masks_, .ref terms_, .int literals_])), (terms_, .inl (k1, nt, .inl ft))] U.heap ∧ va_K (dC, dI) vwCl [(k1, .int)] U ∧ va_D (fun _ => True) [(h0, .inr (1, [.int size_, .ref first_, .ref kinds_, .ref predicates_, .ref places_, .ref sizes_, .ref masks_, .ref terms_, .int literals_])), (terms_, .inl (k1, nt, .inl ft))])) (va_Qv post (fun (u : (Nat → Int32)) (t : State) => match u with | o0 => va_P (dC, dI) vwCl [(h0, .inr (1, [.int size_, .ref first_, .ref kinds_, .ref predicates_, .ref places_, .ref sizes_, .ref masks_, .ref terms_, .int literals_])), (terms_, .inl (k1, nt, .inl o0))] t.heap ∧ va_K (dC, dI) vwCl [(k1, .int)] t ∧ va_D (va_A [(h0, .inr (1, [.int size_, .ref first_, .ref kinds_, .ref predicates_, .ref places_, .ref sizes_, .ref masks_, .ref terms_, .int literals_])), (terms_, .inl (k1, nt, .inl ft))] sz) [(h0, .inr (1, [.int size_, .ref first_, .ref kinds_, .ref predicates_, .ref places_, .ref sizes_, .ref masks_, .ref terms_, .int literals_])), (terms_, .inl (k1, nt, .inl o0))]) (va_A [(h0, .inr (1, [.int size_, .ref first_, .ref kinds_, .ref predicates_, .ref places_, .ref sizes_, .ref masks_, .ref terms_, .int literals_])), (terms_, .inl (k1, nt, .inl ft))] sz)) 0 0 (va_A [(h0, .inr (1, [.int size_, .ref first_, .ref kinds_, .ref predicates_, .ref places_, .ref sizes_, .ref masks_, .ref terms_, .int literals_])), (terms_, .inl (k1, nt, .inl ft))] sz) := by
  refine Met.ofW (cc := cd_Cl_setTerm) (maxL := 4) (ret := none) (by decide) rfl ?_
  intro p e s m args below meth c s₁ B hml hv
  obtain ⟨rfl, hsz, hP, hK, hD0⟩ := hv
  have hx := B.exec
  have hb := B.bytes
  have hr := B.returns
  have hT : ∀ w ∈ tblG, w.before _ s = true := fun w h => atoms_spec (ws := (Cond.code my_Cl_setTerm cd_Cl_setTerm 4 none :: tblG)) B.pre w (List.mem_cons_of_mem _ h)
  have hown : s.vm.findClass "StrataBase$Clauses" = some m.cls := findClass_of_methodNamed B.named
  have hlocks := B.notSynchronized
  subst hsz
  have hD := hD0.self (sz := s.heap.size)
  generalize hAe : va_A [(h0, .inr (1, [.int size_, .ref first_, .ref kinds_, .ref predicates_, .ref places_, .ref sizes_, .ref masks_, .ref terms_, .int literals_])), (terms_, .inl (k1, nt, .inl ft))] s.heap.size = A at hD ⊢
  have hA : ∀ q : Nat, s.heap.size ≤ q → A q := fun q h => by rw [← hAe]; exact Or.inr h
  have hS : va_S A s.heap s.heap [] := va_S.rf
  have hl := lv_entry ([.ref h0, .int x, .int y, .int z]) (n := 4) (Nat.le_of_ble_eq_true rfl)
  rw [lg_entry_eq]
  generalize (lg_sl ([.ref h0, .int x, .int y, .int z]) ++ List.replicate (4 - (lg_sl ([.ref h0, .int x, .int y, .int z])).length) Slot.unset).toArray = ls at hl ⊢
  have hl : lv_has ls 4 [(0, .ref h0), (1, .int x), (2, .int y), (3, .int z)] := hl
  unfold wp_met_Cl_setTerm at hw
  refine lv_aload_n hx hb dc_Cl_setTerm_0 rfl (lv_at hl 0 rfl) ?_
  refine va_get (D := (dC, dI)) (ci := 1) (v := .ref terms_) (C := "StrataBase$Clauses") (T := tb_Cl) (N := 9) hx hb hT in_Cl hown hK hP 0 rfl rfl 7 (by decide) (hT _ wd_75) (fun _ h9 => h9) rfl dc_Cl_setTerm_1 ?_
  refine lv_iload_n hx hb dc_Cl_setTerm_4 rfl (lv_at hl 1 rfl) ?_
  refine lv_bipush (v := 6) hx hb dc_Cl_setTerm_5 (by decide) ?_
  refine lv_imul hx hb dc_Cl_setTerm_7 ?_
  refine lv_topi (fun y1 ey1 => ?_)
  have hw := hw y1 ey1
  refine lv_iload_n hx hb dc_Cl_setTerm_8 rfl (lv_at hl 2 rfl) ?_
  refine lv_iadd hx hb dc_Cl_setTerm_9 ?_
  refine lv_topi (fun y2 ey2 => ?_)
  have hw := hw y2 ey2
  refine lv_iload_n hx hb dc_Cl_setTerm_10 rfl (lv_at hl 3 rfl) ?_
  obtain ⟨hv3, hw⟩ := hw
  refine va_iast hx hb hK hP hD hS 1 0 rfl rfl hv3 dc_Cl_setTerm_11 (fun H locs hP hD hS => ?_)
  have hP : va_P (dC, dI) vwCl [(h0, .inr (1, [.int size_, .ref first_, .ref kinds_, .ref predicates_, .ref places_, .ref sizes_, .ref masks_, .ref terms_, .int literals_])), (terms_, .inl (k1, nt, .inl (upd ft y2.toNatClampNeg z)))] H := hP
  have hD : va_D A [(h0, .inr (1, [.int size_, .ref first_, .ref kinds_, .ref predicates_, .ref places_, .ref sizes_, .ref masks_, .ref terms_, .int literals_])), (terms_, .inl (k1, nt, .inl (upd ft y2.toNatClampNeg z)))] := hD
  obtain ⟨g4, eg4⟩ : ∃ z9 : Nat → Int32, z9 = upd ft y2.toNatClampNeg z := ⟨_, rfl⟩
  rw [← eg4] at hP hD
  have hw := hw g4 eg4
  refine W.widen (k := 0) (n := 0) (Nat.le_of_ble_eq_true rfl) (Nat.le_of_ble_eq_true rfl) ?_
  exact W.vret hx hb hr (fun t ht hW => ⟨⟨g4, rfl, hw, by rw [ht]; exact hP, va_K.moved hW.alike hK, hD⟩, hS.F ht⟩) hS.2.2 dc_Cl_setTerm_12

def wp_met_Cl_term (post : Int32 → Unit → Prop) (nt : Nat) (x : Int32) (y : Int32) (ft : Nat → Int32) : Prop := ∀ y1 : Int32, y1 = x * (6 : Int32) → (∀ y2 : Int32, y2 = y1 + y → (vp_in y2 nt ∧ (∀ y4 : Int32, y4 = ft y2.toNatClampNeg → (post y4 ()))))
set_option maxHeartbeats 4000000 in
set_option maxRecDepth 100000 in
theorem met_Cl_term (l : Launch) (dC : Nat → ClassId) (dI : Nat → Nat → Nat) (nt : Nat) (h0 : Nat) (first_ : Nat) (kinds_ : Nat) (predicates_ : Nat) (places_ : Nat) (sizes_ : Nat) (masks_ : Nat) (terms_ : Nat) (x : Int32) (y : Int32) (size_ : Int32) (literals_ : Int32) (ft : Nat → Int32) (k1 : ClassId) (sz : Nat) {post : Int32 → Unit → Prop} (hw : wp_met_Cl_term post nt x y ft) : Met l my_Cl_term (Cond.code my_Cl_term cd_Cl_term 3 (some (.int)) :: tblG) ({ frames := 0, cells := 0, slots := 0, locals := 0 }) (va_Pc [.ref h0, .int x, .int y] (fun U => U.heap.size = sz ∧ va_P (dC, dI) vwCl [(h0, .inr (1, [.int size_, .ref first_, .ref kinds_, .ref predicates_, .ref places_, .ref sizes_, .ref masks_, .ref terms_, .int literals_])), (terms_, .inl (k1, nt, .inl ft))] U.heap ∧ va_K (dC, dI) vwCl [(k1, .int)] U ∧ va_D (fun _ => True) [(h0, .inr (1, [.int size_, .ref first_, .ref kinds_, .ref predicates_, .ref places_, .ref sizes_, .ref masks_, .ref terms_, .int literals_])), (terms_, .inl (k1, nt, .inl ft))])) (va_Qi post (fun (u : Unit) (t : State) => va_P (dC, dI) vwCl [(h0, .inr (1, [.int size_, .ref first_, .ref kinds_, .ref predicates_, .ref places_, .ref sizes_, .ref masks_, .ref terms_, .int literals_])), (terms_, .inl (k1, nt, .inl ft))] t.heap ∧ va_K (dC, dI) vwCl [(k1, .int)] t ∧ va_D (va_A [(h0, .inr (1, [.int size_, .ref first_, .ref kinds_, .ref predicates_, .ref places_, .ref sizes_, .ref masks_, .ref terms_, .int literals_])), (terms_, .inl (k1, nt, .inl ft))] sz) [(h0, .inr (1, [.int size_, .ref first_, .ref kinds_, .ref predicates_, .ref places_, .ref sizes_, .ref masks_, .ref terms_, .int literals_])), (terms_, .inl (k1, nt, .inl ft))]) (va_A [(h0, .inr (1, [.int size_, .ref first_, .ref kinds_, .ref predicates_, .ref places_, .ref sizes_, .ref masks_, .ref terms_, .int literals_])), (terms_, .inl (k1, nt, .inl ft))] sz)) 0 0 (va_A [(h0, .inr (1, [.int size_, .ref first_, .ref kinds_, .ref predicates_, .ref places_, .ref sizes_, .ref masks_, .ref terms_, .int literals_])), (terms_, .inl (k1, nt, .inl ft))] sz) := by
  refine Met.ofW (cc := cd_Cl_term) (maxL := 3) (ret := (some (.int))) (by decide) rfl ?_
  intro p e s m args below meth c s₁ B hml hv
  obtain ⟨rfl, hsz, hP, hK, hD0⟩ := hv
  have hx := B.exec
  have hb := B.bytes
  have hr := B.returns
  have hT : ∀ w ∈ tblG, w.before _ s = true := fun w h => atoms_spec (ws := (Cond.code my_Cl_term cd_Cl_term 3 (some (.int)) :: tblG)) B.pre w (List.mem_cons_of_mem _ h)
  have hown : s.vm.findClass "StrataBase$Clauses" = some m.cls := findClass_of_methodNamed B.named
  have hlocks := B.notSynchronized
  subst hsz
  have hD := hD0.self (sz := s.heap.size)
  generalize hAe : va_A [(h0, .inr (1, [.int size_, .ref first_, .ref kinds_, .ref predicates_, .ref places_, .ref sizes_, .ref masks_, .ref terms_, .int literals_])), (terms_, .inl (k1, nt, .inl ft))] s.heap.size = A at hD ⊢
  have hA : ∀ q : Nat, s.heap.size ≤ q → A q := fun q h => by rw [← hAe]; exact Or.inr h
  have hS : va_S A s.heap s.heap [] := va_S.rf
  have hl := lv_entry ([.ref h0, .int x, .int y]) (n := 3) (Nat.le_of_ble_eq_true rfl)
  rw [lg_entry_eq]
  generalize (lg_sl ([.ref h0, .int x, .int y]) ++ List.replicate (3 - (lg_sl ([.ref h0, .int x, .int y])).length) Slot.unset).toArray = ls at hl ⊢
  have hl : lv_has ls 3 [(0, .ref h0), (1, .int x), (2, .int y)] := hl
  unfold wp_met_Cl_term at hw
  refine lv_aload_n hx hb dc_Cl_term_0 rfl (lv_at hl 0 rfl) ?_
  refine va_get (D := (dC, dI)) (ci := 1) (v := .ref terms_) (C := "StrataBase$Clauses") (T := tb_Cl) (N := 9) hx hb hT in_Cl hown hK hP 0 rfl rfl 7 (by decide) (hT _ wd_75) (fun _ h9 => h9) rfl dc_Cl_term_1 ?_
  refine lv_iload_n hx hb dc_Cl_term_4 rfl (lv_at hl 1 rfl) ?_
  refine lv_bipush (v := 6) hx hb dc_Cl_term_5 (by decide) ?_
  refine lv_imul hx hb dc_Cl_term_7 ?_
  refine lv_topi (fun y1 ey1 => ?_)
  have hw := hw y1 ey1
  refine lv_iload_n hx hb dc_Cl_term_8 rfl (lv_at hl 2 rfl) ?_
  refine lv_iadd hx hb dc_Cl_term_9 ?_
  refine lv_topi (fun y2 ey2 => ?_)
  have hw := hw y2 ey2
  obtain ⟨hv3, hw⟩ := hw
  refine va_iald hx hb hK hP 1 0 rfl rfl hv3 dc_Cl_term_10 ?_
  refine lv_topi (fun y4 ey4 => ?_)
  have hw := hw y4 ey4
  refine W.widen (k := 0) (n := 0) (Nat.le_of_ble_eq_true rfl) (Nat.le_of_ble_eq_true rfl) ?_
  exact W.iret (v := y4) hx hb hr (fun t ht hW => ⟨⟨y4, (), rfl, hw, by rw [ht]; exact hP, va_K.moved hW.alike hK, hD⟩, hS.F ht⟩) hS.2.2 dc_Cl_term_11

def wp_met_Cl_close (post : (Int32 × (Nat → Int32)) → Prop) (nt : Nat) (size_ : Int32) (literals_ : Int32) (ft : Nat → Int32) : Prop := ∀ y1 : Int32, y1 = size_ + (1 : Int32) → (vp_in y1 nt ∧ (∀ g3 : Nat → Int32, g3 = upd ft y1.toNatClampNeg literals_ → (post (y1, g3))))
set_option maxHeartbeats 4000000 in
set_option maxRecDepth 100000 in
theorem met_Cl_close (l : Launch) (dC : Nat → ClassId) (dI : Nat → Nat → Nat) (nt : Nat) (h0 : Nat) (first_ : Nat) (kinds_ : Nat) (predicates_ : Nat) (places_ : Nat) (sizes_ : Nat) (masks_ : Nat) (terms_ : Nat) (size_ : Int32) (literals_ : Int32) (ft : Nat → Int32) (k1 : ClassId) (sz : Nat) {post : (Int32 × (Nat → Int32)) → Prop} (hw : wp_met_Cl_close post nt size_ literals_ ft) : Met l my_Cl_close (Cond.code my_Cl_close cd_Cl_close 1 none :: tblG) ({ frames := 0, cells := 0, slots := 0, locals := 0 }) (va_Pc [.ref h0] (fun U => U.heap.size = sz ∧ va_P (dC, dI) vwCl [(h0, .inr (1, [.int size_, .ref first_, .ref kinds_, .ref predicates_, .ref places_, .ref sizes_, .ref masks_, .ref terms_, .int literals_])), (first_, .inl (k1, nt, .inl ft))] U.heap ∧ va_K (dC, dI) vwCl [(k1, .int)] U ∧ va_D (fun _ => True) [(h0, .inr (1, [.int size_, .ref first_, .ref kinds_, .ref predicates_, .ref places_, .ref sizes_, .ref masks_, .ref terms_, .int literals_])), (first_, .inl (k1, nt, .inl ft))])) (va_Qv post (fun (u : Int32 × (Nat → Int32)) (t : State) => match u with | (o0, o1) => va_P (dC, dI) vwCl [(h0, .inr (1, [.int o0, .ref first_, .ref kinds_, .ref predicates_, .ref places_, .ref sizes_, .ref masks_, .ref terms_, .int literals_])), (first_, .inl (k1, nt, .inl o1))] t.heap ∧ va_K (dC, dI) vwCl [(k1, .int)] t ∧ va_D (va_A [(h0, .inr (1, [.int size_, .ref first_, .ref kinds_, .ref predicates_, .ref places_, .ref sizes_, .ref masks_, .ref terms_, .int literals_])), (first_, .inl (k1, nt, .inl ft))] sz) [(h0, .inr (1, [.int o0, .ref first_, .ref kinds_, .ref predicates_, .ref places_, .ref sizes_, .ref masks_, .ref terms_, .int literals_])), (first_, .inl (k1, nt, .inl o1))]) (va_A [(h0, .inr (1, [.int size_, .ref first_, .ref kinds_, .ref predicates_, .ref places_, .ref sizes_, .ref masks_, .ref terms_, .int literals_])), (first_, .inl (k1, nt, .inl ft))] sz)) 0 0 (va_A [(h0, .inr (1, [.int size_, .ref first_, .ref kinds_, .ref predicates_, .ref places_, .ref sizes_, .ref masks_, .ref terms_, .int literals_])), (first_, .inl (k1, nt, .inl ft))] sz) := by
  refine Met.ofW (cc := cd_Cl_close) (maxL := 1) (ret := none) (by decide) rfl ?_
  intro p e s m args below meth c s₁ B hml hv
  obtain ⟨rfl, hsz, hP, hK, hD0⟩ := hv
  have hx := B.exec
  have hb := B.bytes
  have hr := B.returns
  have hT : ∀ w ∈ tblG, w.before _ s = true := fun w h => atoms_spec (ws := (Cond.code my_Cl_close cd_Cl_close 1 none :: tblG)) B.pre w (List.mem_cons_of_mem _ h)
  have hown : s.vm.findClass "StrataBase$Clauses" = some m.cls := findClass_of_methodNamed B.named
  have hlocks := B.notSynchronized
  subst hsz
  have hD := hD0.self (sz := s.heap.size)
  generalize hAe : va_A [(h0, .inr (1, [.int size_, .ref first_, .ref kinds_, .ref predicates_, .ref places_, .ref sizes_, .ref masks_, .ref terms_, .int literals_])), (first_, .inl (k1, nt, .inl ft))] s.heap.size = A at hD ⊢
  have hA : ∀ q : Nat, s.heap.size ≤ q → A q := fun q h => by rw [← hAe]; exact Or.inr h
  have hS : va_S A s.heap s.heap [] := va_S.rf
  have hl := lv_entry ([.ref h0]) (n := 1) (Nat.le_of_ble_eq_true rfl)
  rw [lg_entry_eq]
  generalize (lg_sl ([.ref h0]) ++ List.replicate (1 - (lg_sl ([.ref h0])).length) Slot.unset).toArray = ls at hl ⊢
  have hl : lv_has ls 1 [(0, .ref h0)] := hl
  unfold wp_met_Cl_close at hw
  refine lv_aload_n hx hb dc_Cl_close_0 rfl (lv_at hl 0 rfl) ?_
  refine lv_dup hx hb dc_Cl_close_1 rfl ?_
  refine va_get (D := (dC, dI)) (ci := 1) (v := .int size_) (C := "StrataBase$Clauses") (T := tb_Cl) (N := 9) hx hb hT in_Cl hown hK hP 0 rfl rfl 0 (by decide) (hT _ wd_46) (fun _ h9 => h9) rfl dc_Cl_close_2 ?_
  refine lv_iconst (v := 1) hx hb dc_Cl_close_5 (by decide) ?_
  refine lv_iadd hx hb dc_Cl_close_6 ?_
  refine lv_topi (fun y1 ey1 => ?_)
  have hw := hw y1 ey1
  refine va_put (D := (dC, dI)) (ci := 1) (v := .int y1) (ty := .int) (C := "StrataBase$Clauses") (T := tb_Cl) (N := 9) hx hb hT in_Cl ty_Cl tk_Cl nm_Cl hown hK hP hD hS 0 rfl rfl 0 (by decide) (hT _ wd_46) (fun _ h9 => h9) rfl (by decide +kernel) rfl rfl (Nat.le_of_ble_eq_true rfl) dc_Cl_close_7 (fun H locs hP hD hS => ?_)
  have hP : va_P (dC, dI) vwCl [(h0, .inr (1, [.int y1, .ref first_, .ref kinds_, .ref predicates_, .ref places_, .ref sizes_, .ref masks_, .ref terms_, .int literals_])), (first_, .inl (k1, nt, .inl ft))] H := hP
  have hD : va_D A [(h0, .inr (1, [.int y1, .ref first_, .ref kinds_, .ref predicates_, .ref places_, .ref sizes_, .ref masks_, .ref terms_, .int literals_])), (first_, .inl (k1, nt, .inl ft))] := hD
  refine lv_aload_n hx hb dc_Cl_close_10 rfl (lv_at hl 0 rfl) ?_
  refine va_get (D := (dC, dI)) (ci := 1) (v := .ref first_) (C := "StrataBase$Clauses") (T := tb_Cl) (N := 9) hx hb hT in_Cl hown hK hP 0 rfl rfl 1 (by decide) (hT _ wd_51) (fun _ h9 => h9) rfl dc_Cl_close_11 ?_
  refine lv_aload_n hx hb dc_Cl_close_14 rfl (lv_at hl 0 rfl) ?_
  refine va_get (D := (dC, dI)) (ci := 1) (v := .int y1) (C := "StrataBase$Clauses") (T := tb_Cl) (N := 9) hx hb hT in_Cl hown hK hP 0 rfl rfl 0 (by decide) (hT _ wd_46) (fun _ h9 => h9) rfl dc_Cl_close_15 ?_
  refine lv_aload_n hx hb dc_Cl_close_18 rfl (lv_at hl 0 rfl) ?_
  refine va_get (D := (dC, dI)) (ci := 1) (v := .int literals_) (C := "StrataBase$Clauses") (T := tb_Cl) (N := 9) hx hb hT in_Cl hown hK hP 0 rfl rfl 8 (by decide) (hT _ wd_76) (fun _ h9 => h9) rfl dc_Cl_close_19 ?_
  obtain ⟨hv2, hw⟩ := hw
  refine va_iast hx hb hK hP hD hS 1 0 rfl rfl hv2 dc_Cl_close_22 (fun H locs hP hD hS => ?_)
  have hP : va_P (dC, dI) vwCl [(h0, .inr (1, [.int y1, .ref first_, .ref kinds_, .ref predicates_, .ref places_, .ref sizes_, .ref masks_, .ref terms_, .int literals_])), (first_, .inl (k1, nt, .inl (upd ft y1.toNatClampNeg literals_)))] H := hP
  have hD : va_D A [(h0, .inr (1, [.int y1, .ref first_, .ref kinds_, .ref predicates_, .ref places_, .ref sizes_, .ref masks_, .ref terms_, .int literals_])), (first_, .inl (k1, nt, .inl (upd ft y1.toNatClampNeg literals_)))] := hD
  obtain ⟨g3, eg3⟩ : ∃ z9 : Nat → Int32, z9 = upd ft y1.toNatClampNeg literals_ := ⟨_, rfl⟩
  rw [← eg3] at hP hD
  have hw := hw g3 eg3
  refine W.widen (k := 0) (n := 0) (Nat.le_of_ble_eq_true rfl) (Nat.le_of_ble_eq_true rfl) ?_
  exact W.vret hx hb hr (fun t ht hW => ⟨⟨(y1, g3), rfl, hw, by rw [ht]; exact hP, va_K.moved hW.alike hK, hD⟩, hS.F ht⟩) hS.2.2 dc_Cl_close_23

def wp_met_Cl_open (post : (Int32 × (Nat → Int32) × (Nat → Int32) × (Nat → Int32) × (Nat → Int32) × (Nat → Int32)) → Prop) (n0 : Nat) (n1 : Nat) (n2 : Nat) (n3 : Nat) (n4 : Nat) (x : Int32) (y : Int32) (literals_ : Int32) (f0 : Nat → Int32) (f1 : Nat → Int32) (f2 : Nat → Int32) (f3 : Nat → Int32) (f4 : Nat → Int32) : Prop := vp_in literals_ n0 ∧ (∀ g2 : Nat → Int32, g2 = upd f0 literals_.toNatClampNeg x → (vp_in literals_ n2 ∧ (∀ g4 : Nat → Int32, g4 = upd f2 literals_.toNatClampNeg y → (vp_in literals_ n1 ∧ (∀ g6 : Nat → Int32, g6 = upd f1 literals_.toNatClampNeg ((-1) : Int32) → (vp_in literals_ n3 ∧ (∀ g8 : Nat → Int32, g8 = upd f3 literals_.toNatClampNeg (0 : Int32) → (vp_in literals_ n4 ∧ (∀ g10 : Nat → Int32, g10 = upd f4 literals_.toNatClampNeg (0 : Int32) → (∀ y11 : Int32, y11 = literals_ + (1 : Int32) → (post (y11, g2, g6, g4, g8, g10))))))))))))
set_option maxHeartbeats 4000000 in
set_option maxRecDepth 100000 in
theorem met_Cl_open (l : Launch) (dC : Nat → ClassId) (dI : Nat → Nat → Nat) (n0 : Nat) (n1 : Nat) (n2 : Nat) (n3 : Nat) (n4 : Nat) (h0 : Nat) (first_ : Nat) (kinds_ : Nat) (predicates_ : Nat) (places_ : Nat) (sizes_ : Nat) (masks_ : Nat) (terms_ : Nat) (x : Int32) (y : Int32) (size_ : Int32) (literals_ : Int32) (f0 : Nat → Int32) (f1 : Nat → Int32) (f2 : Nat → Int32) (f3 : Nat → Int32) (f4 : Nat → Int32) (k0 : ClassId) (k1 : ClassId) (k2 : ClassId) (k3 : ClassId) (k4 : ClassId) (sz : Nat) {post : (Int32 × (Nat → Int32) × (Nat → Int32) × (Nat → Int32) × (Nat → Int32) × (Nat → Int32)) → Prop} (hw : wp_met_Cl_open post n0 n1 n2 n3 n4 x y literals_ f0 f1 f2 f3 f4) : Met l my_Cl_open (Cond.code my_Cl_open cd_Cl_open 3 none :: tblG) ({ frames := 0, cells := 0, slots := 0, locals := 0 }) (va_Pc [.ref h0, .int x, .int y] (fun U => U.heap.size = sz ∧ va_P (dC, dI) vwCl [(h0, .inr (1, [.int size_, .ref first_, .ref kinds_, .ref predicates_, .ref places_, .ref sizes_, .ref masks_, .ref terms_, .int literals_])), (kinds_, .inl (k0, n0, .inl f0)), (predicates_, .inl (k1, n1, .inl f1)), (places_, .inl (k2, n2, .inl f2)), (sizes_, .inl (k3, n3, .inl f3)), (masks_, .inl (k4, n4, .inl f4))] U.heap ∧ va_K (dC, dI) vwCl [(k0, .int), (k1, .int), (k2, .int), (k3, .int), (k4, .int)] U ∧ va_D (fun _ => True) [(h0, .inr (1, [.int size_, .ref first_, .ref kinds_, .ref predicates_, .ref places_, .ref sizes_, .ref masks_, .ref terms_, .int literals_])), (kinds_, .inl (k0, n0, .inl f0)), (predicates_, .inl (k1, n1, .inl f1)), (places_, .inl (k2, n2, .inl f2)), (sizes_, .inl (k3, n3, .inl f3)), (masks_, .inl (k4, n4, .inl f4))])) (va_Qv post (fun (u : Int32 × (Nat → Int32) × (Nat → Int32) × (Nat → Int32) × (Nat → Int32) × (Nat → Int32)) (t : State) => match u with | (o0, o1, o2, o3, o4, o5) => va_P (dC, dI) vwCl [(h0, .inr (1, [.int size_, .ref first_, .ref kinds_, .ref predicates_, .ref places_, .ref sizes_, .ref masks_, .ref terms_, .int o0])), (kinds_, .inl (k0, n0, .inl o1)), (predicates_, .inl (k1, n1, .inl o2)), (places_, .inl (k2, n2, .inl o3)), (sizes_, .inl (k3, n3, .inl o4)), (masks_, .inl (k4, n4, .inl o5))] t.heap ∧ va_K (dC, dI) vwCl [(k0, .int), (k1, .int), (k2, .int), (k3, .int), (k4, .int)] t ∧ va_D (va_A [(h0, .inr (1, [.int size_, .ref first_, .ref kinds_, .ref predicates_, .ref places_, .ref sizes_, .ref masks_, .ref terms_, .int literals_])), (kinds_, .inl (k0, n0, .inl f0)), (predicates_, .inl (k1, n1, .inl f1)), (places_, .inl (k2, n2, .inl f2)), (sizes_, .inl (k3, n3, .inl f3)), (masks_, .inl (k4, n4, .inl f4))] sz) [(h0, .inr (1, [.int size_, .ref first_, .ref kinds_, .ref predicates_, .ref places_, .ref sizes_, .ref masks_, .ref terms_, .int o0])), (kinds_, .inl (k0, n0, .inl o1)), (predicates_, .inl (k1, n1, .inl o2)), (places_, .inl (k2, n2, .inl o3)), (sizes_, .inl (k3, n3, .inl o4)), (masks_, .inl (k4, n4, .inl o5))]) (va_A [(h0, .inr (1, [.int size_, .ref first_, .ref kinds_, .ref predicates_, .ref places_, .ref sizes_, .ref masks_, .ref terms_, .int literals_])), (kinds_, .inl (k0, n0, .inl f0)), (predicates_, .inl (k1, n1, .inl f1)), (places_, .inl (k2, n2, .inl f2)), (sizes_, .inl (k3, n3, .inl f3)), (masks_, .inl (k4, n4, .inl f4))] sz)) 0 0 (va_A [(h0, .inr (1, [.int size_, .ref first_, .ref kinds_, .ref predicates_, .ref places_, .ref sizes_, .ref masks_, .ref terms_, .int literals_])), (kinds_, .inl (k0, n0, .inl f0)), (predicates_, .inl (k1, n1, .inl f1)), (places_, .inl (k2, n2, .inl f2)), (sizes_, .inl (k3, n3, .inl f3)), (masks_, .inl (k4, n4, .inl f4))] sz) := by
  refine Met.ofW (cc := cd_Cl_open) (maxL := 3) (ret := none) (by decide) rfl ?_
  intro p e s m args below meth c s₁ B hml hv
  obtain ⟨rfl, hsz, hP, hK, hD0⟩ := hv
  have hx := B.exec
  have hb := B.bytes
  have hr := B.returns
  have hT : ∀ w ∈ tblG, w.before _ s = true := fun w h => atoms_spec (ws := (Cond.code my_Cl_open cd_Cl_open 3 none :: tblG)) B.pre w (List.mem_cons_of_mem _ h)
  have hown : s.vm.findClass "StrataBase$Clauses" = some m.cls := findClass_of_methodNamed B.named
  have hlocks := B.notSynchronized
  subst hsz
  have hD := hD0.self (sz := s.heap.size)
  generalize hAe : va_A [(h0, .inr (1, [.int size_, .ref first_, .ref kinds_, .ref predicates_, .ref places_, .ref sizes_, .ref masks_, .ref terms_, .int literals_])), (kinds_, .inl (k0, n0, .inl f0)), (predicates_, .inl (k1, n1, .inl f1)), (places_, .inl (k2, n2, .inl f2)), (sizes_, .inl (k3, n3, .inl f3)), (masks_, .inl (k4, n4, .inl f4))] s.heap.size = A at hD ⊢
  have hA : ∀ q : Nat, s.heap.size ≤ q → A q := fun q h => by rw [← hAe]; exact Or.inr h
  have hS : va_S A s.heap s.heap [] := va_S.rf
  have hl := lv_entry ([.ref h0, .int x, .int y]) (n := 3) (Nat.le_of_ble_eq_true rfl)
  rw [lg_entry_eq]
  generalize (lg_sl ([.ref h0, .int x, .int y]) ++ List.replicate (3 - (lg_sl ([.ref h0, .int x, .int y])).length) Slot.unset).toArray = ls at hl ⊢
  have hl : lv_has ls 3 [(0, .ref h0), (1, .int x), (2, .int y)] := hl
  unfold wp_met_Cl_open at hw
  refine lv_aload_n hx hb dc_Cl_open_0 rfl (lv_at hl 0 rfl) ?_
  refine va_get (D := (dC, dI)) (ci := 1) (v := .ref kinds_) (C := "StrataBase$Clauses") (T := tb_Cl) (N := 9) hx hb hT in_Cl hown hK hP 0 rfl rfl 2 (by decide) (hT _ wd_54) (fun _ h9 => h9) rfl dc_Cl_open_1 ?_
  refine lv_aload_n hx hb dc_Cl_open_4 rfl (lv_at hl 0 rfl) ?_
  refine va_get (D := (dC, dI)) (ci := 1) (v := .int literals_) (C := "StrataBase$Clauses") (T := tb_Cl) (N := 9) hx hb hT in_Cl hown hK hP 0 rfl rfl 8 (by decide) (hT _ wd_76) (fun _ h9 => h9) rfl dc_Cl_open_5 ?_
  refine lv_iload_n hx hb dc_Cl_open_8 rfl (lv_at hl 1 rfl) ?_
  obtain ⟨hv1, hw⟩ := hw
  refine va_iast hx hb hK hP hD hS 1 0 rfl rfl hv1 dc_Cl_open_9 (fun H locs hP hD hS => ?_)
  have hP : va_P (dC, dI) vwCl [(h0, .inr (1, [.int size_, .ref first_, .ref kinds_, .ref predicates_, .ref places_, .ref sizes_, .ref masks_, .ref terms_, .int literals_])), (kinds_, .inl (k0, n0, .inl (upd f0 literals_.toNatClampNeg x))), (predicates_, .inl (k1, n1, .inl f1)), (places_, .inl (k2, n2, .inl f2)), (sizes_, .inl (k3, n3, .inl f3)), (masks_, .inl (k4, n4, .inl f4))] H := hP
  have hD : va_D A [(h0, .inr (1, [.int size_, .ref first_, .ref kinds_, .ref predicates_, .ref places_, .ref sizes_, .ref masks_, .ref terms_, .int literals_])), (kinds_, .inl (k0, n0, .inl (upd f0 literals_.toNatClampNeg x))), (predicates_, .inl (k1, n1, .inl f1)), (places_, .inl (k2, n2, .inl f2)), (sizes_, .inl (k3, n3, .inl f3)), (masks_, .inl (k4, n4, .inl f4))] := hD
  obtain ⟨g2, eg2⟩ : ∃ z9 : Nat → Int32, z9 = upd f0 literals_.toNatClampNeg x := ⟨_, rfl⟩
  rw [← eg2] at hP hD
  have hw := hw g2 eg2
  refine lv_aload_n hx hb dc_Cl_open_10 rfl (lv_at hl 0 rfl) ?_
  refine va_get (D := (dC, dI)) (ci := 1) (v := .ref places_) (C := "StrataBase$Clauses") (T := tb_Cl) (N := 9) hx hb hT in_Cl hown hK hP 0 rfl rfl 4 (by decide) (hT _ wd_64) (fun _ h9 => h9) rfl dc_Cl_open_11 ?_
  refine lv_aload_n hx hb dc_Cl_open_14 rfl (lv_at hl 0 rfl) ?_
  refine va_get (D := (dC, dI)) (ci := 1) (v := .int literals_) (C := "StrataBase$Clauses") (T := tb_Cl) (N := 9) hx hb hT in_Cl hown hK hP 0 rfl rfl 8 (by decide) (hT _ wd_76) (fun _ h9 => h9) rfl dc_Cl_open_15 ?_
  refine lv_iload_n hx hb dc_Cl_open_18 rfl (lv_at hl 2 rfl) ?_
  obtain ⟨hv3, hw⟩ := hw
  refine va_iast hx hb hK hP hD hS 3 2 rfl rfl hv3 dc_Cl_open_19 (fun H locs hP hD hS => ?_)
  have hP : va_P (dC, dI) vwCl [(h0, .inr (1, [.int size_, .ref first_, .ref kinds_, .ref predicates_, .ref places_, .ref sizes_, .ref masks_, .ref terms_, .int literals_])), (kinds_, .inl (k0, n0, .inl g2)), (predicates_, .inl (k1, n1, .inl f1)), (places_, .inl (k2, n2, .inl (upd f2 literals_.toNatClampNeg y))), (sizes_, .inl (k3, n3, .inl f3)), (masks_, .inl (k4, n4, .inl f4))] H := hP
  have hD : va_D A [(h0, .inr (1, [.int size_, .ref first_, .ref kinds_, .ref predicates_, .ref places_, .ref sizes_, .ref masks_, .ref terms_, .int literals_])), (kinds_, .inl (k0, n0, .inl g2)), (predicates_, .inl (k1, n1, .inl f1)), (places_, .inl (k2, n2, .inl (upd f2 literals_.toNatClampNeg y))), (sizes_, .inl (k3, n3, .inl f3)), (masks_, .inl (k4, n4, .inl f4))] := hD
  obtain ⟨g4, eg4⟩ : ∃ z9 : Nat → Int32, z9 = upd f2 literals_.toNatClampNeg y := ⟨_, rfl⟩
  rw [← eg4] at hP hD
  have hw := hw g4 eg4
  refine lv_aload_n hx hb dc_Cl_open_20 rfl (lv_at hl 0 rfl) ?_
  refine va_get (D := (dC, dI)) (ci := 1) (v := .ref predicates_) (C := "StrataBase$Clauses") (T := tb_Cl) (N := 9) hx hb hT in_Cl hown hK hP 0 rfl rfl 3 (by decide) (hT _ wd_58) (fun _ h9 => h9) rfl dc_Cl_open_21 ?_
  refine lv_aload_n hx hb dc_Cl_open_24 rfl (lv_at hl 0 rfl) ?_
  refine va_get (D := (dC, dI)) (ci := 1) (v := .int literals_) (C := "StrataBase$Clauses") (T := tb_Cl) (N := 9) hx hb hT in_Cl hown hK hP 0 rfl rfl 8 (by decide) (hT _ wd_76) (fun _ h9 => h9) rfl dc_Cl_open_25 ?_
  refine lv_iconst (v := (-1)) hx hb dc_Cl_open_28 (by decide) ?_
  obtain ⟨hv5, hw⟩ := hw
  refine va_iast hx hb hK hP hD hS 2 1 rfl rfl hv5 dc_Cl_open_29 (fun H locs hP hD hS => ?_)
  have hP : va_P (dC, dI) vwCl [(h0, .inr (1, [.int size_, .ref first_, .ref kinds_, .ref predicates_, .ref places_, .ref sizes_, .ref masks_, .ref terms_, .int literals_])), (kinds_, .inl (k0, n0, .inl g2)), (predicates_, .inl (k1, n1, .inl (upd f1 literals_.toNatClampNeg ((-1) : Int32)))), (places_, .inl (k2, n2, .inl g4)), (sizes_, .inl (k3, n3, .inl f3)), (masks_, .inl (k4, n4, .inl f4))] H := hP
  have hD : va_D A [(h0, .inr (1, [.int size_, .ref first_, .ref kinds_, .ref predicates_, .ref places_, .ref sizes_, .ref masks_, .ref terms_, .int literals_])), (kinds_, .inl (k0, n0, .inl g2)), (predicates_, .inl (k1, n1, .inl (upd f1 literals_.toNatClampNeg ((-1) : Int32)))), (places_, .inl (k2, n2, .inl g4)), (sizes_, .inl (k3, n3, .inl f3)), (masks_, .inl (k4, n4, .inl f4))] := hD
  obtain ⟨g6, eg6⟩ : ∃ z9 : Nat → Int32, z9 = upd f1 literals_.toNatClampNeg ((-1) : Int32) := ⟨_, rfl⟩
  rw [← eg6] at hP hD
  have hw := hw g6 eg6
  refine lv_aload_n hx hb dc_Cl_open_30 rfl (lv_at hl 0 rfl) ?_
  refine va_get (D := (dC, dI)) (ci := 1) (v := .ref sizes_) (C := "StrataBase$Clauses") (T := tb_Cl) (N := 9) hx hb hT in_Cl hown hK hP 0 rfl rfl 5 (by decide) (hT _ wd_66) (fun _ h9 => h9) rfl dc_Cl_open_31 ?_
  refine lv_aload_n hx hb dc_Cl_open_34 rfl (lv_at hl 0 rfl) ?_
  refine va_get (D := (dC, dI)) (ci := 1) (v := .int literals_) (C := "StrataBase$Clauses") (T := tb_Cl) (N := 9) hx hb hT in_Cl hown hK hP 0 rfl rfl 8 (by decide) (hT _ wd_76) (fun _ h9 => h9) rfl dc_Cl_open_35 ?_
  refine lv_iconst (v := 0) hx hb dc_Cl_open_38 (by decide) ?_
  obtain ⟨hv7, hw⟩ := hw
  refine va_iast hx hb hK hP hD hS 4 3 rfl rfl hv7 dc_Cl_open_39 (fun H locs hP hD hS => ?_)
  have hP : va_P (dC, dI) vwCl [(h0, .inr (1, [.int size_, .ref first_, .ref kinds_, .ref predicates_, .ref places_, .ref sizes_, .ref masks_, .ref terms_, .int literals_])), (kinds_, .inl (k0, n0, .inl g2)), (predicates_, .inl (k1, n1, .inl g6)), (places_, .inl (k2, n2, .inl g4)), (sizes_, .inl (k3, n3, .inl (upd f3 literals_.toNatClampNeg (0 : Int32)))), (masks_, .inl (k4, n4, .inl f4))] H := hP
  have hD : va_D A [(h0, .inr (1, [.int size_, .ref first_, .ref kinds_, .ref predicates_, .ref places_, .ref sizes_, .ref masks_, .ref terms_, .int literals_])), (kinds_, .inl (k0, n0, .inl g2)), (predicates_, .inl (k1, n1, .inl g6)), (places_, .inl (k2, n2, .inl g4)), (sizes_, .inl (k3, n3, .inl (upd f3 literals_.toNatClampNeg (0 : Int32)))), (masks_, .inl (k4, n4, .inl f4))] := hD
  obtain ⟨g8, eg8⟩ : ∃ z9 : Nat → Int32, z9 = upd f3 literals_.toNatClampNeg (0 : Int32) := ⟨_, rfl⟩
  rw [← eg8] at hP hD
  have hw := hw g8 eg8
  refine lv_aload_n hx hb dc_Cl_open_40 rfl (lv_at hl 0 rfl) ?_
  refine va_get (D := (dC, dI)) (ci := 1) (v := .ref masks_) (C := "StrataBase$Clauses") (T := tb_Cl) (N := 9) hx hb hT in_Cl hown hK hP 0 rfl rfl 6 (by decide) (hT _ wd_71) (fun _ h9 => h9) rfl dc_Cl_open_41 ?_
  refine lv_aload_n hx hb dc_Cl_open_44 rfl (lv_at hl 0 rfl) ?_
  refine va_get (D := (dC, dI)) (ci := 1) (v := .int literals_) (C := "StrataBase$Clauses") (T := tb_Cl) (N := 9) hx hb hT in_Cl hown hK hP 0 rfl rfl 8 (by decide) (hT _ wd_76) (fun _ h9 => h9) rfl dc_Cl_open_45 ?_
  refine lv_iconst (v := 0) hx hb dc_Cl_open_48 (by decide) ?_
  obtain ⟨hv9, hw⟩ := hw
  refine va_iast hx hb hK hP hD hS 5 4 rfl rfl hv9 dc_Cl_open_49 (fun H locs hP hD hS => ?_)
  have hP : va_P (dC, dI) vwCl [(h0, .inr (1, [.int size_, .ref first_, .ref kinds_, .ref predicates_, .ref places_, .ref sizes_, .ref masks_, .ref terms_, .int literals_])), (kinds_, .inl (k0, n0, .inl g2)), (predicates_, .inl (k1, n1, .inl g6)), (places_, .inl (k2, n2, .inl g4)), (sizes_, .inl (k3, n3, .inl g8)), (masks_, .inl (k4, n4, .inl (upd f4 literals_.toNatClampNeg (0 : Int32))))] H := hP
  have hD : va_D A [(h0, .inr (1, [.int size_, .ref first_, .ref kinds_, .ref predicates_, .ref places_, .ref sizes_, .ref masks_, .ref terms_, .int literals_])), (kinds_, .inl (k0, n0, .inl g2)), (predicates_, .inl (k1, n1, .inl g6)), (places_, .inl (k2, n2, .inl g4)), (sizes_, .inl (k3, n3, .inl g8)), (masks_, .inl (k4, n4, .inl (upd f4 literals_.toNatClampNeg (0 : Int32))))] := hD
  obtain ⟨g10, eg10⟩ : ∃ z9 : Nat → Int32, z9 = upd f4 literals_.toNatClampNeg (0 : Int32) := ⟨_, rfl⟩
  rw [← eg10] at hP hD
  have hw := hw g10 eg10
  refine lv_aload_n hx hb dc_Cl_open_50 rfl (lv_at hl 0 rfl) ?_
  refine lv_dup hx hb dc_Cl_open_51 rfl ?_
  refine va_get (D := (dC, dI)) (ci := 1) (v := .int literals_) (C := "StrataBase$Clauses") (T := tb_Cl) (N := 9) hx hb hT in_Cl hown hK hP 0 rfl rfl 8 (by decide) (hT _ wd_76) (fun _ h9 => h9) rfl dc_Cl_open_52 ?_
  refine lv_iconst (v := 1) hx hb dc_Cl_open_55 (by decide) ?_
  refine lv_iadd hx hb dc_Cl_open_56 ?_
  refine lv_topi (fun y11 ey11 => ?_)
  have hw := hw y11 ey11
  refine va_put (D := (dC, dI)) (ci := 1) (v := .int y11) (ty := .int) (C := "StrataBase$Clauses") (T := tb_Cl) (N := 9) hx hb hT in_Cl ty_Cl tk_Cl nm_Cl hown hK hP hD hS 0 rfl rfl 8 (by decide) (hT _ wd_76) (fun _ h9 => h9) rfl (by decide +kernel) rfl rfl (Nat.le_of_ble_eq_true rfl) dc_Cl_open_57 (fun H locs hP hD hS => ?_)
  have hP : va_P (dC, dI) vwCl [(h0, .inr (1, [.int size_, .ref first_, .ref kinds_, .ref predicates_, .ref places_, .ref sizes_, .ref masks_, .ref terms_, .int y11])), (kinds_, .inl (k0, n0, .inl g2)), (predicates_, .inl (k1, n1, .inl g6)), (places_, .inl (k2, n2, .inl g4)), (sizes_, .inl (k3, n3, .inl g8)), (masks_, .inl (k4, n4, .inl g10))] H := hP
  have hD : va_D A [(h0, .inr (1, [.int size_, .ref first_, .ref kinds_, .ref predicates_, .ref places_, .ref sizes_, .ref masks_, .ref terms_, .int y11])), (kinds_, .inl (k0, n0, .inl g2)), (predicates_, .inl (k1, n1, .inl g6)), (places_, .inl (k2, n2, .inl g4)), (sizes_, .inl (k3, n3, .inl g8)), (masks_, .inl (k4, n4, .inl g10))] := hD
  refine W.widen (k := 0) (n := 0) (Nat.le_of_ble_eq_true rfl) (Nat.le_of_ble_eq_true rfl) ?_
  exact W.vret hx hb hr (fun t ht hW => ⟨⟨(y11, g2, g6, g4, g8, g10), rfl, hw, by rw [ht]; exact hP, va_K.moved hW.alike hK, hD⟩, hS.F ht⟩) hS.2.2 dc_Cl_open_60

def lw_met_Ar_fill_5 (post : (Nat → Int32) → Prop) (na : Nat) (x : Int32) : Nat → (Int32 × (Nat → Int32)) → Prop
  | 0, _ => False
  | n1_ + 1, (v2, v3) => (((nI na) ≤ v2 → (post v3)) ∧ (¬ ((nI na) ≤ v2) → (vp_in v2 na ∧ (∀ g5 : Nat → Int32, g5 = upd v3 v2.toNatClampNeg x → (lw_met_Ar_fill_5 post na x n1_ ((v2 + 1), g5))))))
def wp_met_Ar_fill (post : (Nat → Int32) → Prop) (na : Nat) (x : Int32) (fa : Nat → Int32) : Prop := ∃ n9 : Nat, lw_met_Ar_fill_5 post na x n9 ((0 : Int32), fa)
set_option maxHeartbeats 4000000 in
set_option maxRecDepth 100000 in
theorem met_Ar_fill (l : Launch) (dC : Nat → ClassId) (dI : Nat → Nat → Nat) (na : Nat) (h0 : Nat) (x : Int32) (fa : Nat → Int32) (k1 : ClassId) (sz : Nat) {post : (Nat → Int32) → Prop} (hw : wp_met_Ar_fill post na x fa) : Met l my_Ar_fill (Cond.code my_Ar_fill cd_Ar_fill 4 none :: tblG) ({ frames := 0, cells := 0, slots := 0, locals := 0 }) (va_Pc [.ref h0, .int x] (fun U => U.heap.size = sz ∧ va_P (dC, dI) vwCl [(h0, .inl (k1, na, .inl fa))] U.heap ∧ va_K (dC, dI) vwCl [(k1, .int)] U ∧ va_D (fun _ => True) [(h0, .inl (k1, na, .inl fa))])) (va_Qv post (fun (u : (Nat → Int32)) (t : State) => match u with | o0 => va_P (dC, dI) vwCl [(h0, .inl (k1, na, .inl o0))] t.heap ∧ va_K (dC, dI) vwCl [(k1, .int)] t ∧ va_D (va_A [(h0, .inl (k1, na, .inl fa))] sz) [(h0, .inl (k1, na, .inl o0))]) (va_A [(h0, .inl (k1, na, .inl fa))] sz)) 0 0 (va_A [(h0, .inl (k1, na, .inl fa))] sz) := by
  refine Met.ofW (cc := cd_Ar_fill) (maxL := 4) (ret := none) (by decide) rfl ?_
  intro p e s m args below meth c s₁ B hml hv
  obtain ⟨rfl, hsz, hP, hK, hD0⟩ := hv
  have hx := B.exec
  have hb := B.bytes
  have hr := B.returns
  have hT : ∀ w ∈ tblG, w.before _ s = true := fun w h => atoms_spec (ws := (Cond.code my_Ar_fill cd_Ar_fill 4 none :: tblG)) B.pre w (List.mem_cons_of_mem _ h)
  have hown : s.vm.findClass "java/util/Arrays" = some m.cls := findClass_of_methodNamed B.named
  have hlocks := B.notSynchronized
  subst hsz
  have hD := hD0.self (sz := s.heap.size)
  generalize hAe : va_A [(h0, .inl (k1, na, .inl fa))] s.heap.size = A at hD ⊢
  have hA : ∀ q : Nat, s.heap.size ≤ q → A q := fun q h => by rw [← hAe]; exact Or.inr h
  have hS : va_S A s.heap s.heap [] := va_S.rf
  have hl := lv_entry ([.ref h0, .int x]) (n := 4) (Nat.le_of_ble_eq_true rfl)
  rw [lg_entry_eq]
  generalize (lg_sl ([.ref h0, .int x]) ++ List.replicate (4 - (lg_sl ([.ref h0, .int x])).length) Slot.unset).toArray = ls at hl ⊢
  have hl : lv_has ls 4 [(0, .ref h0), (1, .int x)] := hl
  unfold wp_met_Ar_fill at hw
  refine lv_iconst (v := 0) hx hb dc_Ar_fill_0 (by decide) ?_
  refine lv_istore_n (lv' := [(2, .int 0), (0, .ref h0), (1, .int x)]) hx hb dc_Ar_fill_1 rfl hl (by decide) rfl (fun ls hl => ?_)
  refine lv_aload_n hx hb dc_Ar_fill_2 rfl (lv_at hl 1 rfl) ?_
  refine va_alen (v := nI na) hx hb hK hP 0 0 rfl rfl rfl dc_Ar_fill_3 ?_
  refine lv_istore_n (lv' := [(3, .int (nI na)), (2, .int 0), (0, .ref h0), (1, .int x)]) hx hb dc_Ar_fill_4 rfl hl (by decide) rfl (fun ls hl => ?_)
  obtain ⟨n9, hw⟩ := hw
  refine lp_fuel (σ := Int32 × (Nat → Int32)) _ (fun x9 H locs ls => match x9 with | (v2, v3) => va_K (dC, dI) vwCl [(k1, .int)] s ∧ va_P (dC, dI) vwCl [(h0, .inl (k1, na, .inl v3))] H ∧ va_D A [(h0, .inl (k1, na, .inl v3))] ∧ va_S A s.heap H locs ∧ lv_has ls 4 [(3, .int (nI na)), (2, .int v2), (0, .ref h0), (1, .int x)]) (fun x9 h9 => by simp only [lw_met_Ar_fill_5] at h9) ?_ hw ⟨hK.sub [0] rfl, hP.sub [0] rfl, hD.sub [0] (by decide) rfl, hS, lv_sub hl [0, 1, 2, 3] rfl⟩
  intro n1_ x9 hw ih1 H locs ls hI
  obtain ⟨v2, v3⟩ := x9
  obtain ⟨hK, hP, hD, hS, hl⟩ := hI
  unfold lw_met_Ar_fill_5 at hw
  refine lv_iload_n hx hb dc_Ar_fill_5 rfl (lv_at hl 1 rfl) ?_
  refine lv_iload_n hx hb dc_Ar_fill_6 rfl (lv_at hl 0 rfl) ?_
  refine lv_icmp_ge (tgt := 20) hx hb dc_Ar_fill_7 (by decide) (fun h7 => ?_) (fun h7 => ?_)
  · have hw := hw.1 h7
    refine W.widen (k := 0) (n := 0) (Nat.le_of_ble_eq_true rfl) (Nat.le_of_ble_eq_true rfl) ?_
    exact W.vret hx hb hr (fun t ht hW => ⟨⟨v3, rfl, hw, by rw [ht]; exact hP, va_K.moved hW.alike hK, hD⟩, hS.F ht⟩) hS.2.2 dc_Ar_fill_20
  · have hw := hw.2 h7
    refine lv_aload_n hx hb dc_Ar_fill_10 rfl (lv_at hl 2 rfl) ?_
    refine lv_iload_n hx hb dc_Ar_fill_11 rfl (lv_at hl 1 rfl) ?_
    refine lv_iload_n hx hb dc_Ar_fill_12 rfl (lv_at hl 3 rfl) ?_
    obtain ⟨hv4, hw⟩ := hw
    refine va_iast hx hb hK hP hD hS 0 0 rfl rfl hv4 dc_Ar_fill_13 (fun H locs hP hD hS => ?_)
    have hP : va_P (dC, dI) vwCl [(h0, .inl (k1, na, .inl (upd v3 v2.toNatClampNeg x)))] H := hP
    have hD : va_D A [(h0, .inl (k1, na, .inl (upd v3 v2.toNatClampNeg x)))] := hD
    obtain ⟨g5, eg5⟩ : ∃ z9 : Nat → Int32, z9 = upd v3 v2.toNatClampNeg x := ⟨_, rfl⟩
    rw [← eg5] at hP hD
    have hw := hw g5 eg5
    refine lv_iinc (k := 1) (v := v2 + 1) (lv' := [(2, .int (v2 + 1)), (3, .int (nI na)), (0, .ref h0), (1, .int x)]) hx hb dc_Ar_fill_14 hl rfl rfl (by decide) rfl (fun ls hl => ?_)
    refine lv_goto (tgt := 5) hx hb dc_Ar_fill_17 (by decide) ?_
    exact ih1 ((v2 + 1), g5) hw _ _ _ ⟨hK.sub [0] rfl, hP.sub [0] rfl, hD.sub [0] (by decide) rfl, hS, lv_sub hl [1, 0, 2, 3] rfl⟩

def jw_met_Na_compare_71 (post : Int32 → Unit → Prop) (x : Int32) (nl : Nat) (fl : Nat → Int32) (z : Int32) : (Unit) → Prop
  | _ => vp_in x nl ∧ (∀ y18 : Int32, y18 = fl x.toNatClampNeg → (∀ y19 : Int32, y19 = y18 - z → (post y19 ())))
def lw_met_Na_compare_27 (post : Int32 → Unit → Prop) (y3 : Int32) (x : Int32) (ns : Nat) (fs : Nat → Int32) (nt : Nat) (ft : Nat → Int32) (y : Int32) (nb : Nat) (fb : Nat → Int32) (nl : Nat) (fl : Nat → Int32) (z : Int32) : Nat → (Int32) → Prop
  | 0, _ => False
  | n5_ + 1, v6 => ((y3 ≤ v6 → (jw_met_Na_compare_71 post x nl fl z ())) ∧ (¬ (y3 ≤ v6) → (vp_in x ns ∧ (∀ y9 : Int32, y9 = fs x.toNatClampNeg → (∀ y10 : Int32, y10 = y9 + v6 → (vp_in y10 nt ∧ (∀ y12 : Int32, y12 = ft y10.toNatClampNeg → (∀ y13 : Int32, y13 = y + v6 → (vp_in y13 nb ∧ (∀ y15 : Int32, y15 = fb y13.toNatClampNeg → (∀ y16 : Int32, y16 = y12 - y15 → (((y16 = 0 → (lw_met_Na_compare_27 post y3 x ns fs nt ft y nb fb nl fl z n5_ (v6 + 1))) ∧ (¬ (y16 = 0) → (post y16 ())))))))))))))))
def wp_met_Na_compare (post : Int32 → Unit → Prop) (ns : Nat) (nl : Nat) (nt : Nat) (nb : Nat) (x : Int32) (y : Int32) (z : Int32) (fs : Nat → Int32) (fl : Nat → Int32) (ft : Nat → Int32) (fb : Nat → Int32) : Prop := vp_in x nl ∧ (∀ y2 : Int32, y2 = fl x.toNatClampNeg → ((((z ≤ y2 → (True)) ∧ (¬ (z ≤ y2) → (vp_in x nl ∧ (True))))) ∧ (∀ y3 : Int32, y3 = (if z ≤ y2 then z else (fl x.toNatClampNeg)) → (∃ n9 : Nat, lw_met_Na_compare_27 post y3 x ns fs nt ft y nb fb nl fl z n9 (0 : Int32)))))
set_option maxHeartbeats 4000000 in
set_option maxRecDepth 100000 in
theorem met_Na_compare (l : Launch) (dC : Nat → ClassId) (dI : Nat → Nat → Nat) (ns : Nat) (nl : Nat) (nt : Nat) (nb : Nat) (h0 : Nat) (starts_ : Nat) (lengths_ : Nat) (text_ : Nat) (src : Nat) (x : Int32) (y : Int32) (z : Int32) (size_ : Int32) (used_ : Int32) (fs : Nat → Int32) (fl : Nat → Int32) (ft : Nat → Int32) (fb : Nat → Int32) (ks : ClassId) (kl : ClassId) (kt : ClassId) (kb : ClassId) (sz : Nat) {post : Int32 → Unit → Prop} (hw : wp_met_Na_compare post ns nl nt nb x y z fs fl ft fb) : Met l my_Na_compare (Cond.code my_Na_compare cd_Na_compare 8 (some (.int)) :: tblG) ({ frames := 0, cells := 0, slots := 0, locals := 0 }) (va_Pc [.ref h0, .int x, .ref src, .int y, .int z] (fun U => U.heap.size = sz ∧ va_P (dC, dI) vwCl [(h0, .inr (6, [.int size_, .ref starts_, .ref lengths_, .ref text_, .int used_])), (starts_, .inl (ks, ns, .inl fs)), (lengths_, .inl (kl, nl, .inl fl)), (text_, .inl (kt, nt, .inl ft)), (src, .inl (kb, nb, .inl fb))] U.heap ∧ va_K (dC, dI) vwCl [(ks, .int), (kl, .int), (kt, .byte), (kb, .byte)] U ∧ va_D (fun _ => True) [(h0, .inr (6, [.int size_, .ref starts_, .ref lengths_, .ref text_, .int used_])), (starts_, .inl (ks, ns, .inl fs)), (lengths_, .inl (kl, nl, .inl fl)), (text_, .inl (kt, nt, .inl ft)), (src, .inl (kb, nb, .inl fb))])) (va_Qi post (fun (u : Unit) (t : State) => va_P (dC, dI) vwCl [(h0, .inr (6, [.int size_, .ref starts_, .ref lengths_, .ref text_, .int used_])), (starts_, .inl (ks, ns, .inl fs)), (lengths_, .inl (kl, nl, .inl fl)), (text_, .inl (kt, nt, .inl ft)), (src, .inl (kb, nb, .inl fb))] t.heap ∧ va_K (dC, dI) vwCl [(ks, .int), (kl, .int), (kt, .byte), (kb, .byte)] t ∧ va_D (va_A [(h0, .inr (6, [.int size_, .ref starts_, .ref lengths_, .ref text_, .int used_])), (starts_, .inl (ks, ns, .inl fs)), (lengths_, .inl (kl, nl, .inl fl)), (text_, .inl (kt, nt, .inl ft)), (src, .inl (kb, nb, .inl fb))] sz) [(h0, .inr (6, [.int size_, .ref starts_, .ref lengths_, .ref text_, .int used_])), (starts_, .inl (ks, ns, .inl fs)), (lengths_, .inl (kl, nl, .inl fl)), (text_, .inl (kt, nt, .inl ft)), (src, .inl (kb, nb, .inl fb))]) (va_A [(h0, .inr (6, [.int size_, .ref starts_, .ref lengths_, .ref text_, .int used_])), (starts_, .inl (ks, ns, .inl fs)), (lengths_, .inl (kl, nl, .inl fl)), (text_, .inl (kt, nt, .inl ft)), (src, .inl (kb, nb, .inl fb))] sz)) 0 0 (va_A [(h0, .inr (6, [.int size_, .ref starts_, .ref lengths_, .ref text_, .int used_])), (starts_, .inl (ks, ns, .inl fs)), (lengths_, .inl (kl, nl, .inl fl)), (text_, .inl (kt, nt, .inl ft)), (src, .inl (kb, nb, .inl fb))] sz) := by
  refine Met.ofW (cc := cd_Na_compare) (maxL := 8) (ret := (some (.int))) (by decide) rfl ?_
  intro p e s m args below meth c s₁ B hml hv
  obtain ⟨rfl, hsz, hP, hK, hD0⟩ := hv
  have hx := B.exec
  have hb := B.bytes
  have hr := B.returns
  have hT : ∀ w ∈ tblG, w.before _ s = true := fun w h => atoms_spec (ws := (Cond.code my_Na_compare cd_Na_compare 8 (some (.int)) :: tblG)) B.pre w (List.mem_cons_of_mem _ h)
  have hown : s.vm.findClass "StrataBase$Names" = some m.cls := findClass_of_methodNamed B.named
  have hlocks := B.notSynchronized
  subst hsz
  have hD := hD0.self (sz := s.heap.size)
  generalize hAe : va_A [(h0, .inr (6, [.int size_, .ref starts_, .ref lengths_, .ref text_, .int used_])), (starts_, .inl (ks, ns, .inl fs)), (lengths_, .inl (kl, nl, .inl fl)), (text_, .inl (kt, nt, .inl ft)), (src, .inl (kb, nb, .inl fb))] s.heap.size = A at hD ⊢
  have hA : ∀ q : Nat, s.heap.size ≤ q → A q := fun q h => by rw [← hAe]; exact Or.inr h
  have hS : va_S A s.heap s.heap [] := va_S.rf
  have hl := lv_entry ([.ref h0, .int x, .ref src, .int y, .int z]) (n := 8) (Nat.le_of_ble_eq_true rfl)
  rw [lg_entry_eq]
  generalize (lg_sl ([.ref h0, .int x, .ref src, .int y, .int z]) ++ List.replicate (8 - (lg_sl ([.ref h0, .int x, .ref src, .int y, .int z])).length) Slot.unset).toArray = ls at hl ⊢
  have hl : lv_has ls 8 [(0, .ref h0), (1, .int x), (2, .ref src), (3, .int y), (4, .int z)] := hl
  unfold wp_met_Na_compare at hw
  refine lv_aload_n hx hb dc_Na_compare_0 rfl (lv_at hl 0 rfl) ?_
  refine va_get (D := (dC, dI)) (ci := 6) (v := .ref lengths_) (C := "StrataBase$Names") (T := tb_Na) (N := 5) hx hb hT in_Na hown hK hP 0 rfl rfl 2 (by decide) (hT _ wd_110) (fun _ h9 => h9) rfl dc_Na_compare_1 ?_
  refine lv_iload_n hx hb dc_Na_compare_4 rfl (lv_at hl 1 rfl) ?_
  obtain ⟨hv1, hw⟩ := hw
  refine va_iald hx hb hK hP 2 1 rfl rfl hv1 dc_Na_compare_5 ?_
  refine lv_topi (fun y2 ey2 => ?_)
  have hw := hw y2 ey2
  refine lv_iload hx hb dc_Na_compare_6 (lv_at hl 4 rfl) ?_
  obtain ⟨hob, hw⟩ := hw
  refine jn_top (pc2 := 22) (rest := []) (fun y3 => y3 = (if z ≤ y2 then z else (fl x.toNatClampNeg))) (fun y3 ey3 => ?_) (fun k9 => ?_)
  rotate_left
  · refine lv_icmp_ge (tgt := 20) hx hb dc_Na_compare_8 (by decide) (fun h8 => ?_) (fun h8 => ?_)
    · have hob := hob.1 h8
      refine lv_iload hx hb dc_Na_compare_20 (lv_at hl 4 rfl) ?_
      exact k9 z (by rw [if_pos h8])
    · have hob := hob.2 h8
      refine lv_aload_n hx hb dc_Na_compare_11 rfl (lv_at hl 0 rfl) ?_
      refine va_get (D := (dC, dI)) (ci := 6) (v := .ref lengths_) (C := "StrataBase$Names") (T := tb_Na) (N := 5) hx hb hT in_Na hown hK hP 0 rfl rfl 2 (by decide) (hT _ wd_110) (fun _ h9 => h9) rfl dc_Na_compare_12 ?_
      refine lv_iload_n hx hb dc_Na_compare_15 rfl (lv_at hl 1 rfl) ?_
      obtain ⟨hv4, hob⟩ := hob
      refine va_iald hx hb hK hP 2 1 rfl rfl hv4 dc_Na_compare_16 ?_
      refine lv_goto (tgt := 22) hx hb dc_Na_compare_17 (by decide) ?_
      exact k9 (fl x.toNatClampNeg) (by rw [if_neg h8])
  have hw := hw y3 ey3
  refine lv_istore (lv' := [(5, .int y3), (0, .ref h0), (1, .int x), (2, .ref src), (3, .int y), (4, .int z)]) hx hb dc_Na_compare_22 hl (by decide) rfl (fun ls hl => ?_)
  refine lv_iconst (v := 0) hx hb dc_Na_compare_24 (by decide) ?_
  refine lv_istore (lv' := [(6, .int 0), (5, .int y3), (0, .ref h0), (1, .int x), (2, .ref src), (3, .int y), (4, .int z)]) hx hb dc_Na_compare_25 hl (by decide) rfl (fun ls hl => ?_)
  obtain ⟨n9, hw⟩ := hw
  refine lp_fuel (σ := Int32) _ (fun x9 H locs ls => match x9 with | v6 => va_K (dC, dI) vwCl [(ks, .int), (kl, .int), (kt, .byte), (kb, .byte)] s ∧ va_P (dC, dI) vwCl [(h0, .inr (6, [.int size_, .ref starts_, .ref lengths_, .ref text_, .int used_])), (starts_, .inl (ks, ns, .inl fs)), (lengths_, .inl (kl, nl, .inl fl)), (text_, .inl (kt, nt, .inl ft)), (src, .inl (kb, nb, .inl fb))] H ∧ va_D A [(h0, .inr (6, [.int size_, .ref starts_, .ref lengths_, .ref text_, .int used_])), (starts_, .inl (ks, ns, .inl fs)), (lengths_, .inl (kl, nl, .inl fl)), (text_, .inl (kt, nt, .inl ft)), (src, .inl (kb, nb, .inl fb))] ∧ va_S A s.heap H locs ∧ lv_has ls 8 [(6, .int v6), (5, .int y3), (0, .ref h0), (1, .int x), (2, .ref src), (3, .int y), (4, .int z)]) (fun x9 h9 => by simp only [lw_met_Na_compare_27] at h9) ?_ hw ⟨hK.sub [0, 1, 2, 3] rfl, hP.sub [0, 1, 2, 3, 4] rfl, hD.sub [0, 1, 2, 3, 4] (by decide) rfl, hS, lv_sub hl [0, 1, 2, 3, 4, 5, 6] rfl⟩
  intro n5_ x9 hw ih5 H locs ls hI
  obtain ⟨v6, rfl⟩ : ∃ z9, z9 = x9 := ⟨_, rfl⟩
  obtain ⟨hK, hP, hD, hS, hl⟩ := hI
  unfold lw_met_Na_compare_27 at hw
  refine lv_iload hx hb dc_Na_compare_27 (lv_at hl 0 rfl) ?_
  refine lv_iload hx hb dc_Na_compare_29 (lv_at hl 1 rfl) ?_
  refine jn_st (σ := Unit) (pc2 := 71) (fun x9 => jw_met_Na_compare_71 post x nl fl z x9) (fun _ => []) (fun _ H locs ls => va_K (dC, dI) vwCl [(ks, .int), (kl, .int), (kt, .byte), (kb, .byte)] s ∧ va_P (dC, dI) vwCl [(h0, .inr (6, [.int size_, .ref starts_, .ref lengths_, .ref text_, .int used_])), (starts_, .inl (ks, ns, .inl fs)), (lengths_, .inl (kl, nl, .inl fl)), (text_, .inl (kt, nt, .inl ft)), (src, .inl (kb, nb, .inl fb))] H ∧ va_D A [(h0, .inr (6, [.int size_, .ref starts_, .ref lengths_, .ref text_, .int used_])), (starts_, .inl (ks, ns, .inl fs)), (lengths_, .inl (kl, nl, .inl fl)), (text_, .inl (kt, nt, .inl ft)), (src, .inl (kb, nb, .inl fb))] ∧ va_S A s.heap H locs ∧ lv_has ls 8 [(0, .ref h0), (1, .int x), (4, .int z)]) ?_ (fun k7 => ?_)
  rotate_left
  · refine lv_icmp_ge (tgt := 71) hx hb dc_Na_compare_31 (by decide) (fun h31 => ?_) (fun h31 => ?_)
    · have hw := hw.1 h31
      exact k7 () hw _ _ _ ⟨hK.sub [0, 1, 2, 3] rfl, hP.sub [0, 1, 2, 3, 4] rfl, hD.sub [0, 1, 2, 3, 4] (by decide) rfl, hS, lv_sub hl [2, 3, 6] rfl⟩
    · have hw := hw.2 h31
      refine lv_aload_n hx hb dc_Na_compare_34 rfl (lv_at hl 2 rfl) ?_
      refine va_get (D := (dC, dI)) (ci := 6) (v := .ref text_) (C := "StrataBase$Names") (T := tb_Na) (N := 5) hx hb hT in_Na hown hK hP 0 rfl rfl 3 (by decide) (hT _ wd_111) (fun _ h9 => h9) rfl dc_Na_compare_35 ?_
      refine lv_aload_n hx hb dc_Na_compare_38 rfl (lv_at hl 2 rfl) ?_
      refine va_get (D := (dC, dI)) (ci := 6) (v := .ref starts_) (C := "StrataBase$Names") (T := tb_Na) (N := 5) hx hb hT in_Na hown hK hP 0 rfl rfl 1 (by decide) (hT _ wd_109) (fun _ h9 => h9) rfl dc_Na_compare_39 ?_
      refine lv_iload_n hx hb dc_Na_compare_42 rfl (lv_at hl 3 rfl) ?_
      obtain ⟨hv8, hw⟩ := hw
      refine va_iald hx hb hK hP 1 0 rfl rfl hv8 dc_Na_compare_43 ?_
      refine lv_topi (fun y9 ey9 => ?_)
      have hw := hw y9 ey9
      refine lv_iload hx hb dc_Na_compare_44 (lv_at hl 0 rfl) ?_
      refine lv_iadd hx hb dc_Na_compare_46 ?_
      refine lv_topi (fun y10 ey10 => ?_)
      have hw := hw y10 ey10
      obtain ⟨hv11, hw⟩ := hw
      refine va_bald hx hb hK hP 3 2 rfl rfl hv11 dc_Na_compare_47 ?_
      refine lv_topi (fun y12 ey12 => ?_)
      have hw := hw y12 ey12
      refine lv_aload_n hx hb dc_Na_compare_48 rfl (lv_at hl 4 rfl) ?_
      refine lv_iload_n hx hb dc_Na_compare_49 rfl (lv_at hl 5 rfl) ?_
      refine lv_iload hx hb dc_Na_compare_50 (lv_at hl 0 rfl) ?_
      refine lv_iadd hx hb dc_Na_compare_52 ?_
      refine lv_topi (fun y13 ey13 => ?_)
      have hw := hw y13 ey13
      obtain ⟨hv14, hw⟩ := hw
      refine va_bald hx hb hK hP 4 3 rfl rfl hv14 dc_Na_compare_53 ?_
      refine lv_topi (fun y15 ey15 => ?_)
      have hw := hw y15 ey15
      refine lv_isub hx hb dc_Na_compare_54 ?_
      refine lv_topi (fun y16 ey16 => ?_)
      have hw := hw y16 ey16
      refine lv_istore (lv' := [(7, .int y16), (6, .int v6), (5, .int y3), (0, .ref h0), (1, .int x), (2, .ref src), (3, .int y), (4, .int z)]) hx hb dc_Na_compare_55 hl (by decide) rfl (fun ls hl => ?_)
      refine lv_iload hx hb dc_Na_compare_57 (lv_at hl 0 rfl) ?_
      refine lv_if_eq (tgt := 65) hx hb dc_Na_compare_59 (by decide) (fun h59 => ?_) (fun h59 => ?_)
      · have hw := hw.1 h59
        refine lv_iinc (k := 1) (v := v6 + 1) (lv' := [(6, .int (v6 + 1)), (7, .int y16), (5, .int y3), (0, .ref h0), (1, .int x), (2, .ref src), (3, .int y), (4, .int z)]) hx hb dc_Na_compare_65 hl rfl rfl (by decide) rfl (fun ls hl => ?_)
        refine lv_goto (tgt := 27) hx hb dc_Na_compare_68 (by decide) ?_
        exact ih5 (v6 + 1) hw _ _ _ ⟨hK.sub [0, 1, 2, 3] rfl, hP.sub [0, 1, 2, 3, 4] rfl, hD.sub [0, 1, 2, 3, 4] (by decide) rfl, hS, lv_sub hl [0, 2, 3, 4, 5, 6, 7] rfl⟩
      · have hw := hw.2 h59
        refine lv_iload hx hb dc_Na_compare_62 (lv_at hl 0 rfl) ?_
        refine W.widen (k := 0) (n := 0) (Nat.le_of_ble_eq_true rfl) (Nat.le_of_ble_eq_true rfl) ?_
        exact W.iret (v := y16) hx hb hr (fun t ht hW => ⟨⟨y16, (), rfl, hw, by rw [ht]; exact hP, va_K.moved hW.alike hK, hD⟩, hS.F ht⟩) hS.2.2 dc_Na_compare_64
  intro x9 hw H locs ls hI
  obtain ⟨hK, hP, hD, hS, hl⟩ := hI
  unfold jw_met_Na_compare_71 at hw
  refine W.eq (g2 := F0 m 71 ls []) rfl ?_
  refine lv_aload_n hx hb dc_Na_compare_71 rfl (lv_at hl 0 rfl) ?_
  refine va_get (D := (dC, dI)) (ci := 6) (v := .ref lengths_) (C := "StrataBase$Names") (T := tb_Na) (N := 5) hx hb hT in_Na hown hK hP 0 rfl rfl 2 (by decide) (hT _ wd_110) (fun _ h9 => h9) rfl dc_Na_compare_72 ?_
  refine lv_iload_n hx hb dc_Na_compare_75 rfl (lv_at hl 1 rfl) ?_
  obtain ⟨hv17, hw⟩ := hw
  refine va_iald hx hb hK hP 2 1 rfl rfl hv17 dc_Na_compare_76 ?_
  refine lv_topi (fun y18 ey18 => ?_)
  have hw := hw y18 ey18
  refine lv_iload hx hb dc_Na_compare_77 (lv_at hl 2 rfl) ?_
  refine lv_isub hx hb dc_Na_compare_79 ?_
  refine lv_topi (fun y19 ey19 => ?_)
  have hw := hw y19 ey19
  refine W.widen (k := 0) (n := 0) (Nat.le_of_ble_eq_true rfl) (Nat.le_of_ble_eq_true rfl) ?_
  exact W.iret (v := y19) hx hb hr (fun t ht hW => ⟨⟨y19, (), rfl, hw, by rw [ht]; exact hP, va_K.moved hW.alike hK, hD⟩, hS.F ht⟩) hS.2.2 dc_Na_compare_80

def lw_met_Na_find_3 (post : Int32 → Unit → Prop) (size_ : Int32) (nl : Nat) (fl : Nat → Int32) (z : Int32) (ns : Nat) (nt : Nat) (nb : Nat) (y : Int32) (fs : Nat → Int32) (ft : Nat → Int32) (fb : Nat → Int32) : Nat → (Int32) → Prop
  | 0, _ => False
  | n1_ + 1, v2 => ((size_ ≤ v2 → (post ((-1) : Int32) ())) ∧ (¬ (size_ ≤ v2) → (vp_in v2 nl ∧ (∀ y4 : Int32, y4 = fl v2.toNatClampNeg → (((y4 = z → (wp_met_Na_compare (fun (r5 : Int32) (_ : Unit) => (((r5 = 0 → (post v2 ())) ∧ (¬ (r5 = 0) → (lw_met_Na_find_3 post size_ nl fl z ns nt nb y fs ft fb n1_ (v2 + 1)))))) ns nl nt nb v2 y z fs fl ft fb)) ∧ (¬ (y4 = z) → (lw_met_Na_find_3 post size_ nl fl z ns nt nb y fs ft fb n1_ (v2 + 1)))))))))
def wp_met_Na_find (post : Int32 → Unit → Prop) (ns : Nat) (nl : Nat) (nt : Nat) (nb : Nat) (y : Int32) (z : Int32) (size_ : Int32) (fs : Nat → Int32) (fl : Nat → Int32) (ft : Nat → Int32) (fb : Nat → Int32) : Prop := ∃ n9 : Nat, lw_met_Na_find_3 post size_ nl fl z ns nt nb y fs ft fb n9 (0 : Int32)
set_option maxHeartbeats 4000000 in
set_option maxRecDepth 100000 in
theorem met_Na_find (l : Launch) (dC : Nat → ClassId) (dI : Nat → Nat → Nat) (ns : Nat) (nl : Nat) (nt : Nat) (nb : Nat) (h0 : Nat) (starts_ : Nat) (lengths_ : Nat) (text_ : Nat) (src : Nat) (y : Int32) (z : Int32) (size_ : Int32) (used_ : Int32) (fs : Nat → Int32) (fl : Nat → Int32) (ft : Nat → Int32) (fb : Nat → Int32) (ks : ClassId) (kl : ClassId) (kt : ClassId) (kb : ClassId) (sz : Nat) {post : Int32 → Unit → Prop} (hw : wp_met_Na_find post ns nl nt nb y z size_ fs fl ft fb) : Met l my_Na_find (Cond.code my_Na_find cd_Na_find 5 (some (.int)) :: tblG) ({ frames := 1, cells := 0, slots := 0, locals := 27 }) (va_Pc [.ref h0, .ref src, .int y, .int z] (fun U => U.heap.size = sz ∧ va_P (dC, dI) vwCl [(h0, .inr (6, [.int size_, .ref starts_, .ref lengths_, .ref text_, .int used_])), (starts_, .inl (ks, ns, .inl fs)), (lengths_, .inl (kl, nl, .inl fl)), (text_, .inl (kt, nt, .inl ft)), (src, .inl (kb, nb, .inl fb))] U.heap ∧ va_K (dC, dI) vwCl [(ks, .int), (kl, .int), (kt, .byte), (kb, .byte)] U ∧ va_D (fun _ => True) [(h0, .inr (6, [.int size_, .ref starts_, .ref lengths_, .ref text_, .int used_])), (starts_, .inl (ks, ns, .inl fs)), (lengths_, .inl (kl, nl, .inl fl)), (text_, .inl (kt, nt, .inl ft)), (src, .inl (kb, nb, .inl fb))])) (va_Qi post (fun (u : Unit) (t : State) => va_P (dC, dI) vwCl [(h0, .inr (6, [.int size_, .ref starts_, .ref lengths_, .ref text_, .int used_])), (starts_, .inl (ks, ns, .inl fs)), (lengths_, .inl (kl, nl, .inl fl)), (text_, .inl (kt, nt, .inl ft)), (src, .inl (kb, nb, .inl fb))] t.heap ∧ va_K (dC, dI) vwCl [(ks, .int), (kl, .int), (kt, .byte), (kb, .byte)] t ∧ va_D (va_A [(h0, .inr (6, [.int size_, .ref starts_, .ref lengths_, .ref text_, .int used_])), (starts_, .inl (ks, ns, .inl fs)), (lengths_, .inl (kl, nl, .inl fl)), (text_, .inl (kt, nt, .inl ft)), (src, .inl (kb, nb, .inl fb))] sz) [(h0, .inr (6, [.int size_, .ref starts_, .ref lengths_, .ref text_, .int used_])), (starts_, .inl (ks, ns, .inl fs)), (lengths_, .inl (kl, nl, .inl fl)), (text_, .inl (kt, nt, .inl ft)), (src, .inl (kb, nb, .inl fb))]) (va_A [(h0, .inr (6, [.int size_, .ref starts_, .ref lengths_, .ref text_, .int used_])), (starts_, .inl (ks, ns, .inl fs)), (lengths_, .inl (kl, nl, .inl fl)), (text_, .inl (kt, nt, .inl ft)), (src, .inl (kb, nb, .inl fb))] sz)) 0 0 (va_A [(h0, .inr (6, [.int size_, .ref starts_, .ref lengths_, .ref text_, .int used_])), (starts_, .inl (ks, ns, .inl fs)), (lengths_, .inl (kl, nl, .inl fl)), (text_, .inl (kt, nt, .inl ft)), (src, .inl (kb, nb, .inl fb))] sz) := by
  refine Met.ofW (cc := cd_Na_find) (maxL := 5) (ret := (some (.int))) (by decide) rfl ?_
  intro p e s m args below meth c s₁ B hml hv
  obtain ⟨rfl, hsz, hP, hK, hD0⟩ := hv
  have hx := B.exec
  have hb := B.bytes
  have hr := B.returns
  have hT : ∀ w ∈ tblG, w.before _ s = true := fun w h => atoms_spec (ws := (Cond.code my_Na_find cd_Na_find 5 (some (.int)) :: tblG)) B.pre w (List.mem_cons_of_mem _ h)
  have hown : s.vm.findClass "StrataBase$Names" = some m.cls := findClass_of_methodNamed B.named
  have hlocks := B.notSynchronized
  subst hsz
  have hD := hD0.self (sz := s.heap.size)
  generalize hAe : va_A [(h0, .inr (6, [.int size_, .ref starts_, .ref lengths_, .ref text_, .int used_])), (starts_, .inl (ks, ns, .inl fs)), (lengths_, .inl (kl, nl, .inl fl)), (text_, .inl (kt, nt, .inl ft)), (src, .inl (kb, nb, .inl fb))] s.heap.size = A at hD ⊢
  have hA : ∀ q : Nat, s.heap.size ≤ q → A q := fun q h => by rw [← hAe]; exact Or.inr h
  have hS : va_S A s.heap s.heap [] := va_S.rf
  have hl := lv_entry ([.ref h0, .ref src, .int y, .int z]) (n := 5) (Nat.le_of_ble_eq_true rfl)
  rw [lg_entry_eq]
  generalize (lg_sl ([.ref h0, .ref src, .int y, .int z]) ++ List.replicate (5 - (lg_sl ([.ref h0, .ref src, .int y, .int z])).length) Slot.unset).toArray = ls at hl ⊢
  have hl : lv_has ls 5 [(0, .ref h0), (1, .ref src), (2, .int y), (3, .int z)] := hl
  unfold wp_met_Na_find at hw
  refine lv_iconst (v := 0) hx hb dc_Na_find_0 (by decide) ?_
  refine lv_istore (lv' := [(4, .int 0), (0, .ref h0), (1, .ref src), (2, .int y), (3, .int z)]) hx hb dc_Na_find_1 hl (by decide) rfl (fun ls hl => ?_)
  obtain ⟨n9, hw⟩ := hw
  refine lp_fuel (σ := Int32) _ (fun x9 H locs ls => match x9 with | v2 => va_K (dC, dI) vwCl [(ks, .int), (kl, .int), (kt, .byte), (kb, .byte)] s ∧ va_P (dC, dI) vwCl [(h0, .inr (6, [.int size_, .ref starts_, .ref lengths_, .ref text_, .int used_])), (starts_, .inl (ks, ns, .inl fs)), (lengths_, .inl (kl, nl, .inl fl)), (text_, .inl (kt, nt, .inl ft)), (src, .inl (kb, nb, .inl fb))] H ∧ va_D A [(h0, .inr (6, [.int size_, .ref starts_, .ref lengths_, .ref text_, .int used_])), (starts_, .inl (ks, ns, .inl fs)), (lengths_, .inl (kl, nl, .inl fl)), (text_, .inl (kt, nt, .inl ft)), (src, .inl (kb, nb, .inl fb))] ∧ va_S A s.heap H locs ∧ lv_has ls 5 [(4, .int v2), (0, .ref h0), (1, .ref src), (2, .int y), (3, .int z)]) (fun x9 h9 => by simp only [lw_met_Na_find_3] at h9) ?_ hw ⟨hK.sub [0, 1, 2, 3] rfl, hP.sub [0, 1, 2, 3, 4] rfl, hD.sub [0, 1, 2, 3, 4] (by decide) rfl, hS, lv_sub hl [0, 1, 2, 3, 4] rfl⟩
  intro n1_ x9 hw ih1 H locs ls hI
  obtain ⟨v2, rfl⟩ : ∃ z9, z9 = x9 := ⟨_, rfl⟩
  obtain ⟨hK, hP, hD, hS, hl⟩ := hI
  unfold lw_met_Na_find_3 at hw
  refine lv_iload hx hb dc_Na_find_3 (lv_at hl 0 rfl) ?_
  refine lv_aload_n hx hb dc_Na_find_5 rfl (lv_at hl 1 rfl) ?_
  refine va_get (D := (dC, dI)) (ci := 6) (v := .int size_) (C := "StrataBase$Names") (T := tb_Na) (N := 5) hx hb hT in_Na hown hK hP 0 rfl rfl 0 (by decide) (hT _ wd_104) (fun _ h9 => h9) rfl dc_Na_find_6 ?_
  refine lv_icmp_ge (tgt := 44) hx hb dc_Na_find_9 (by decide) (fun h9 => ?_) (fun h9 => ?_)
  · have hw := hw.1 h9
    refine lv_iconst (v := (-1)) hx hb dc_Na_find_44 (by decide) ?_
    refine W.widen (k := 0) (n := 0) (Nat.le_of_ble_eq_true rfl) (Nat.le_of_ble_eq_true rfl) ?_
    exact W.iret (v := (-1)) hx hb hr (fun t ht hW => ⟨⟨(-1), (), rfl, hw, by rw [ht]; exact hP, va_K.moved hW.alike hK, hD⟩, hS.F ht⟩) hS.2.2 dc_Na_find_45
  · have hw := hw.2 h9
    refine lv_aload_n hx hb dc_Na_find_12 rfl (lv_at hl 1 rfl) ?_
    refine va_get (D := (dC, dI)) (ci := 6) (v := .ref lengths_) (C := "StrataBase$Names") (T := tb_Na) (N := 5) hx hb hT in_Na hown hK hP 0 rfl rfl 2 (by decide) (hT _ wd_110) (fun _ h9 => h9) rfl dc_Na_find_13 ?_
    refine lv_iload hx hb dc_Na_find_16 (lv_at hl 0 rfl) ?_
    obtain ⟨hv3, hw⟩ := hw
    refine va_iald hx hb hK hP 2 1 rfl rfl hv3 dc_Na_find_18 ?_
    refine lv_topi (fun y4 ey4 => ?_)
    have hw := hw y4 ey4
    refine lv_iload_n hx hb dc_Na_find_19 rfl (lv_at hl 4 rfl) ?_
    refine lv_icmp_ne (tgt := 38) hx hb dc_Na_find_20 (by decide) (fun h20 => ?_) (fun h20 => ?_)
    · have hw := hw.2 h20
      refine lv_iinc (k := 0) (v := v2 + 1) (lv' := [(4, .int (v2 + 1)), (0, .ref h0), (1, .ref src), (2, .int y), (3, .int z)]) hx hb dc_Na_find_38 hl rfl rfl (by decide) rfl (fun ls hl => ?_)
      refine lv_goto (tgt := 3) hx hb dc_Na_find_41 (by decide) ?_
      exact ih1 (v2 + 1) hw _ _ _ ⟨hK.sub [0, 1, 2, 3] rfl, hP.sub [0, 1, 2, 3, 4] rfl, hD.sub [0, 1, 2, 3, 4] (by decide) rfl, hS, lv_sub hl [0, 1, 2, 3, 4] rfl⟩
    · have hw := hw.1 h20
      refine lv_aload_n hx hb dc_Na_find_23 rfl (lv_at hl 1 rfl) ?_
      refine lv_iload hx hb dc_Na_find_24 (lv_at hl 0 rfl) ?_
      refine lv_aload_n hx hb dc_Na_find_26 rfl (lv_at hl 2 rfl) ?_
      refine lv_iload_n hx hb dc_Na_find_27 rfl (lv_at hl 3 rfl) ?_
      refine lv_iload_n hx hb dc_Na_find_28 rfl (lv_at hl 4 rfl) ?_
      have hPc := hP.sub (ws' := [(h0, .inr (6, [.int size_, .ref starts_, .ref lengths_, .ref text_, .int used_])), (starts_, .inl (ks, ns, .inl fs)), (lengths_, .inl (kl, nl, .inl fl)), (text_, .inl (kt, nt, .inl ft)), (src, .inl (kb, nb, .inl fb))]) [0, 1, 2, 3, 4] rfl
      have hDc := hD.sub (ws' := [(h0, .inr (6, [.int size_, .ref starts_, .ref lengths_, .ref text_, .int used_])), (starts_, .inl (ks, ns, .inl fs)), (lengths_, .inl (kl, nl, .inl fl)), (text_, .inl (kt, nt, .inl ft)), (src, .inl (kb, nb, .inl fb))]) [0, 1, 2, 3, 4] (by decide) rfl
      have hKc := hK.sub (tys' := [(ks, .int), (kl, .int), (kt, .byte), (kb, .byte)]) [0, 1, 2, 3] rfl
      have hFc := va_free (wc := [(h0, .inr (6, [.int size_, .ref starts_, .ref lengths_, .ref text_, .int used_])), (starts_, .inl (ks, ns, .inl fs)), (lengths_, .inl (kl, nl, .inl fl)), (text_, .inl (kt, nt, .inl ft)), (src, .inl (kb, nb, .inl fb))]) hD hS hA [0, 1, 2, 3, 4] rfl
      refine va_calli (va_runV (As := [.int v2, .ref src, .int y, .int z]) (rest := []) ⟨hx, hb, hml, hown, hT⟩ (met_Na_compare l dC dI ns nl nt nb h0 starts_ lengths_ text_ src v2 y z size_ used_ fs fl ft fb ks kl kt kb H.size hw) (cwV 4 hT (gd_V wd_740 wd_681 wd_682 wd_4 wd_683) rfl rfl rfl (by decide +kernel) ⟨Nat.le_of_ble_eq_true rfl, Nat.le_of_ble_eq_true rfl⟩) ⟨fun a U g mk q => by obtain ⟨q0, q1, qP, qK, qD⟩ := q; exact ⟨q0, q1, qP, va_K.moved (u := U) (U := U.calling g mk a) (Vm.Alike.refl U.vm) qK, qD⟩, va_recv hK hP (q0 := 0) (ci := 6) rfl rfl, fun U hU hW => ⟨rfl, by rw [hU], by rw [hU]; exact hPc, va_K.moved hW.alike hKc, hDc.weaken (fun _ _ _ _ => trivial)⟩⟩ rfl rfl hl.1 rfl (lv_room (Nat.le_of_ble_eq_true rfl)) dc_Na_find_29 ⟨(Nat.le_of_ble_eq_true rfl), (Nat.le_of_ble_eq_true rfl)⟩) hS (fun q _ h => hFc q h) hFc (fun r5 _ t H1 locs ht hvm hw hB hz1 hk1 hS => ?_)
      obtain ⟨hP1, hK1, hD1⟩ := hB
      rw [ht] at hP1
      have hK1 := va_K.moved hvm.symm hK1
      obtain ⟨hP, hD⟩ := va_join (wr := []) (w1 := [(h0, .inr (6, [.int size_, .ref starts_, .ref lengths_, .ref text_, .int used_])), (starts_, .inl (ks, ns, .inl fs)), (lengths_, .inl (kl, nl, .inl fl)), (text_, .inl (kt, nt, .inl ft)), (src, .inl (kb, nb, .inl fb))]) hP hD [0, 1, 2, 3, 4] [] rfl rfl (by decide) (by decide) hk1 hFc hP1 hD1
      have hK := (hK.sub (tys' := []) [] rfl).app hK1
      generalize H1 = H at hP hS ⊢
      have hP : va_P (dC, dI) vwCl [(h0, .inr (6, [.int size_, .ref starts_, .ref lengths_, .ref text_, .int used_])), (starts_, .inl (ks, ns, .inl fs)), (lengths_, .inl (kl, nl, .inl fl)), (text_, .inl (kt, nt, .inl ft)), (src, .inl (kb, nb, .inl fb))] H := hP
      have hD : va_D A [(h0, .inr (6, [.int size_, .ref starts_, .ref lengths_, .ref text_, .int used_])), (starts_, .inl (ks, ns, .inl fs)), (lengths_, .inl (kl, nl, .inl fl)), (text_, .inl (kt, nt, .inl ft)), (src, .inl (kb, nb, .inl fb))] := hD
      have hK : va_K (dC, dI) vwCl [(ks, .int), (kl, .int), (kt, .byte), (kb, .byte)] s := hK
      refine lv_if_ne (tgt := 38) hx hb dc_Na_find_32 (by decide) (fun h32 => ?_) (fun h32 => ?_)
      · have hw := hw.2 h32
        refine lv_iinc (k := 0) (v := v2 + 1) (lv' := [(4, .int (v2 + 1)), (0, .ref h0), (1, .ref src), (2, .int y), (3, .int z)]) hx hb dc_Na_find_38 hl rfl rfl (by decide) rfl (fun ls hl => ?_)
        refine lv_goto (tgt := 3) hx hb dc_Na_find_41 (by decide) ?_
        exact ih1 (v2 + 1) hw _ _ _ ⟨hK.sub [0, 1, 2, 3] rfl, hP.sub [0, 1, 2, 3, 4] rfl, hD.sub [0, 1, 2, 3, 4] (by decide) rfl, hS, lv_sub hl [0, 1, 2, 3, 4] rfl⟩
      · have hw := hw.1 h32
        refine lv_iload hx hb dc_Na_find_35 (lv_at hl 0 rfl) ?_
        refine W.widen (k := 0) (n := 0) (Nat.le_of_ble_eq_true rfl) (Nat.le_of_ble_eq_true rfl) ?_
        exact W.iret (v := v2) hx hb hr (fun t ht hW => ⟨⟨v2, (), rfl, hw, by rw [ht]; exact hP, va_K.moved hW.alike hK, hD⟩, hS.F ht⟩) hS.2.2 dc_Na_find_37
