theorem dc_Ro_open_0 : decode cd_Ro_open 0 = .ok (.aload_n 0, 1) := by decide +kernel
theorem dc_Ro_open_1 : decode cd_Ro_open 1 = .ok (.iconst 0, 1) := by decide +kernel
theorem dc_Ro_open_2 : decode cd_Ro_open 2 = .ok (.putfield 22, 3) := by decide +kernel
theorem dc_Ro_open_5 : decode cd_Ro_open 5 = .ok (.aload_n 0, 1) := by decide +kernel
theorem dc_Ro_open_6 : decode cd_Ro_open 6 = .ok (.iconst 0, 1) := by decide +kernel
theorem dc_Ro_open_7 : decode cd_Ro_open 7 = .ok (.putfield 26, 3) := by decide +kernel
theorem dc_Ro_open_10 : decode cd_Ro_open 10 = .ok (.aload_n 0, 1) := by decide +kernel
theorem dc_Ro_open_11 : decode cd_Ro_open 11 = .ok (.iconst 0, 1) := by decide +kernel
theorem dc_Ro_open_12 : decode cd_Ro_open 12 = .ok (.putfield 29, 3) := by decide +kernel
theorem dc_Ro_open_15 : decode cd_Ro_open 15 = .ok (.iconst 0, 1) := by decide +kernel
theorem dc_Ro_open_16 : decode cd_Ro_open 16 = .ok (.istore_n 3, 1) := by decide +kernel
theorem dc_Ro_open_17 : decode cd_Ro_open 17 = .ok (.iload_n 3, 1) := by decide +kernel
theorem dc_Ro_open_18 : decode cd_Ro_open 18 = .ok (.iload_n 1, 1) := by decide +kernel
theorem dc_Ro_open_19 : decode cd_Ro_open 19 = .ok (.if_icmp .ge 37, 3) := by decide +kernel
theorem dc_Ro_open_22 : decode cd_Ro_open 22 = .ok (.iload_n 2, 1) := by decide +kernel
theorem dc_Ro_open_23 : decode cd_Ro_open 23 = .ok (.iload_n 3, 1) := by decide +kernel
theorem dc_Ro_open_24 : decode cd_Ro_open 24 = .ok (.ishr, 1) := by decide +kernel
theorem dc_Ro_open_25 : decode cd_Ro_open 25 = .ok (.iconst 1, 1) := by decide +kernel
theorem dc_Ro_open_26 : decode cd_Ro_open 26 = .ok (.iand, 1) := by decide +kernel
theorem dc_Ro_open_27 : decode cd_Ro_open 27 = .ok (.ifCond .ne 23, 3) := by decide +kernel
theorem dc_Ro_open_30 : decode cd_Ro_open 30 = .ok (.aload_n 0, 1) := by decide +kernel
theorem dc_Ro_open_31 : decode cd_Ro_open 31 = .ok (.getfield 18, 3) := by decide +kernel
theorem dc_Ro_open_34 : decode cd_Ro_open 34 = .ok (.aload_n 0, 1) := by decide +kernel
theorem dc_Ro_open_35 : decode cd_Ro_open 35 = .ok (.getfield 26, 3) := by decide +kernel
theorem dc_Ro_open_38 : decode cd_Ro_open 38 = .ok (.iload_n 3, 1) := by decide +kernel
theorem dc_Ro_open_39 : decode cd_Ro_open 39 = .ok (.iastore, 1) := by decide +kernel
theorem dc_Ro_open_40 : decode cd_Ro_open 40 = .ok (.aload_n 0, 1) := by decide +kernel
theorem dc_Ro_open_41 : decode cd_Ro_open 41 = .ok (.dup, 1) := by decide +kernel
theorem dc_Ro_open_42 : decode cd_Ro_open 42 = .ok (.getfield 26, 3) := by decide +kernel
theorem dc_Ro_open_45 : decode cd_Ro_open 45 = .ok (.iconst 1, 1) := by decide +kernel
theorem dc_Ro_open_46 : decode cd_Ro_open 46 = .ok (.iadd, 1) := by decide +kernel
theorem dc_Ro_open_47 : decode cd_Ro_open 47 = .ok (.putfield 26, 3) := by decide +kernel
theorem dc_Ro_open_50 : decode cd_Ro_open 50 = .ok (.iinc 3 1, 3) := by decide +kernel
theorem dc_Ro_open_53 : decode cd_Ro_open 53 = .ok (.goto (-36), 3) := by decide +kernel
theorem dc_Ro_open_56 : decode cd_Ro_open 56 = .ok (.return_, 1) := by decide +kernel
theorem dc_Ro_keyOf_0 : decode cd_Ro_keyOf 0 = .ok (.lconst 0, 1) := by decide +kernel
theorem dc_Ro_keyOf_1 : decode cd_Ro_keyOf 1 = .ok (.lstore_n 3, 1) := by decide +kernel
theorem dc_Ro_keyOf_2 : decode cd_Ro_keyOf 2 = .ok (.iload_n 2, 1) := by decide +kernel
theorem dc_Ro_keyOf_3 : decode cd_Ro_keyOf 3 = .ok (.istore 5, 2) := by decide +kernel
theorem dc_Ro_keyOf_5 : decode cd_Ro_keyOf 5 = .ok (.iload 5, 2) := by decide +kernel
theorem dc_Ro_keyOf_7 : decode cd_Ro_keyOf 7 = .ok (.aload_n 0, 1) := by decide +kernel
theorem dc_Ro_keyOf_8 : decode cd_Ro_keyOf 8 = .ok (.getfield 26, 3) := by decide +kernel
theorem dc_Ro_keyOf_11 : decode cd_Ro_keyOf 11 = .ok (.if_icmp .ge 42, 3) := by decide +kernel
theorem dc_Ro_keyOf_14 : decode cd_Ro_keyOf 14 = .ok (.iload 5, 2) := by decide +kernel
theorem dc_Ro_keyOf_16 : decode cd_Ro_keyOf 16 = .ok (.iload_n 2, 1) := by decide +kernel
theorem dc_Ro_keyOf_17 : decode cd_Ro_keyOf 17 = .ok (.bipush 6, 2) := by decide +kernel
theorem dc_Ro_keyOf_19 : decode cd_Ro_keyOf 19 = .ok (.iadd, 1) := by decide +kernel
theorem dc_Ro_keyOf_20 : decode cd_Ro_keyOf 20 = .ok (.if_icmp .ge 33, 3) := by decide +kernel
theorem dc_Ro_keyOf_23 : decode cd_Ro_keyOf 23 = .ok (.lload_n 3, 1) := by decide +kernel
theorem dc_Ro_keyOf_24 : decode cd_Ro_keyOf 24 = .ok (.aload_n 1, 1) := by decide +kernel
theorem dc_Ro_keyOf_25 : decode cd_Ro_keyOf 25 = .ok (.aload_n 0, 1) := by decide +kernel
theorem dc_Ro_keyOf_26 : decode cd_Ro_keyOf 26 = .ok (.getfield 18, 3) := by decide +kernel
theorem dc_Ro_keyOf_29 : decode cd_Ro_keyOf 29 = .ok (.iload 5, 2) := by decide +kernel
theorem dc_Ro_keyOf_31 : decode cd_Ro_keyOf 31 = .ok (.iaload, 1) := by decide +kernel
theorem dc_Ro_keyOf_32 : decode cd_Ro_keyOf 32 = .ok (.iaload, 1) := by decide +kernel
theorem dc_Ro_keyOf_33 : decode cd_Ro_keyOf 33 = .ok (.i2l, 1) := by decide +kernel
theorem dc_Ro_keyOf_34 : decode cd_Ro_keyOf 34 = .ok (.bipush 50, 2) := by decide +kernel
theorem dc_Ro_keyOf_36 : decode cd_Ro_keyOf 36 = .ok (.bipush 10, 2) := by decide +kernel
theorem dc_Ro_keyOf_38 : decode cd_Ro_keyOf 38 = .ok (.iload 5, 2) := by decide +kernel
theorem dc_Ro_keyOf_40 : decode cd_Ro_keyOf 40 = .ok (.iload_n 2, 1) := by decide +kernel
theorem dc_Ro_keyOf_41 : decode cd_Ro_keyOf 41 = .ok (.isub, 1) := by decide +kernel
theorem dc_Ro_keyOf_42 : decode cd_Ro_keyOf 42 = .ok (.imul, 1) := by decide +kernel
theorem dc_Ro_keyOf_43 : decode cd_Ro_keyOf 43 = .ok (.isub, 1) := by decide +kernel
theorem dc_Ro_keyOf_44 : decode cd_Ro_keyOf 44 = .ok (.lshl, 1) := by decide +kernel
theorem dc_Ro_keyOf_45 : decode cd_Ro_keyOf 45 = .ok (.lor, 1) := by decide +kernel
theorem dc_Ro_keyOf_46 : decode cd_Ro_keyOf 46 = .ok (.lstore_n 3, 1) := by decide +kernel
theorem dc_Ro_keyOf_47 : decode cd_Ro_keyOf 47 = .ok (.iinc 5 1, 3) := by decide +kernel
theorem dc_Ro_keyOf_50 : decode cd_Ro_keyOf 50 = .ok (.goto (-45), 3) := by decide +kernel
theorem dc_Ro_keyOf_53 : decode cd_Ro_keyOf 53 = .ok (.lload_n 3, 1) := by decide +kernel
theorem dc_Ro_keyOf_54 : decode cd_Ro_keyOf 54 = .ok (.lreturn, 1) := by decide +kernel
theorem dc_Ro_add_0 : decode cd_Ro_add 0 = .ok (.aload_n 0, 1) := by decide +kernel
theorem dc_Ro_add_1 : decode cd_Ro_add 1 = .ok (.getfield 22, 3) := by decide +kernel
theorem dc_Ro_add_4 : decode cd_Ro_add 4 = .ok (.sipush 5000, 3) := by decide +kernel
theorem dc_Ro_add_7 : decode cd_Ro_add 7 = .ok (.if_icmp .ne 9, 3) := by decide +kernel
theorem dc_Ro_add_10 : decode cd_Ro_add 10 = .ok (.aload_n 0, 1) := by decide +kernel
theorem dc_Ro_add_11 : decode cd_Ro_add 11 = .ok (.iconst 1, 1) := by decide +kernel
theorem dc_Ro_add_12 : decode cd_Ro_add 12 = .ok (.putfield 29, 3) := by decide +kernel
theorem dc_Ro_add_15 : decode cd_Ro_add 15 = .ok (.return_, 1) := by decide +kernel
theorem dc_Ro_add_16 : decode cd_Ro_add 16 = .ok (.aload_n 0, 1) := by decide +kernel
theorem dc_Ro_add_17 : decode cd_Ro_add 17 = .ok (.getfield 9, 3) := by decide +kernel
theorem dc_Ro_add_20 : decode cd_Ro_add 20 = .ok (.aload_n 0, 1) := by decide +kernel
theorem dc_Ro_add_21 : decode cd_Ro_add 21 = .ok (.getfield 22, 3) := by decide +kernel
theorem dc_Ro_add_24 : decode cd_Ro_add 24 = .ok (.aload_n 0, 1) := by decide +kernel
theorem dc_Ro_add_25 : decode cd_Ro_add 25 = .ok (.aload_n 1, 1) := by decide +kernel
theorem dc_Ro_add_26 : decode cd_Ro_add 26 = .ok (.iconst 0, 1) := by decide +kernel
theorem dc_Ro_add_27 : decode cd_Ro_add 27 = .ok (.invokevirtual 39, 3) := by decide +kernel
theorem dc_Ro_add_30 : decode cd_Ro_add 30 = .ok (.lastore, 1) := by decide +kernel
theorem dc_Ro_add_31 : decode cd_Ro_add 31 = .ok (.aload_n 0, 1) := by decide +kernel
theorem dc_Ro_add_32 : decode cd_Ro_add 32 = .ok (.getfield 13, 3) := by decide +kernel
theorem dc_Ro_add_35 : decode cd_Ro_add 35 = .ok (.aload_n 0, 1) := by decide +kernel
theorem dc_Ro_add_36 : decode cd_Ro_add 36 = .ok (.getfield 22, 3) := by decide +kernel
theorem dc_Ro_add_39 : decode cd_Ro_add 39 = .ok (.aload_n 0, 1) := by decide +kernel
theorem dc_Ro_add_40 : decode cd_Ro_add 40 = .ok (.aload_n 1, 1) := by decide +kernel
theorem dc_Ro_add_41 : decode cd_Ro_add 41 = .ok (.bipush 6, 2) := by decide +kernel
theorem dc_Ro_add_43 : decode cd_Ro_add 43 = .ok (.invokevirtual 39, 3) := by decide +kernel
theorem dc_Ro_add_46 : decode cd_Ro_add 46 = .ok (.lastore, 1) := by decide +kernel
theorem dc_Ro_add_47 : decode cd_Ro_add 47 = .ok (.aload_n 0, 1) := by decide +kernel
theorem dc_Ro_add_48 : decode cd_Ro_add 48 = .ok (.dup, 1) := by decide +kernel
theorem dc_Ro_add_49 : decode cd_Ro_add 49 = .ok (.getfield 22, 3) := by decide +kernel
theorem dc_Ro_add_52 : decode cd_Ro_add 52 = .ok (.iconst 1, 1) := by decide +kernel
theorem dc_Ro_add_53 : decode cd_Ro_add 53 = .ok (.iadd, 1) := by decide +kernel
theorem dc_Ro_add_54 : decode cd_Ro_add 54 = .ok (.putfield 22, 3) := by decide +kernel
theorem dc_Ro_add_57 : decode cd_Ro_add 57 = .ok (.return_, 1) := by decide +kernel
theorem dc_Ro_usedVariables_0 : decode cd_Ro_usedVariables 0 = .ok (.iconst 0, 1) := by decide +kernel
theorem dc_Ro_usedVariables_1 : decode cd_Ro_usedVariables 1 = .ok (.istore_n 1, 1) := by decide +kernel
theorem dc_Ro_usedVariables_2 : decode cd_Ro_usedVariables 2 = .ok (.iconst 0, 1) := by decide +kernel
theorem dc_Ro_usedVariables_3 : decode cd_Ro_usedVariables 3 = .ok (.istore_n 2, 1) := by decide +kernel
theorem dc_Ro_usedVariables_4 : decode cd_Ro_usedVariables 4 = .ok (.iload_n 2, 1) := by decide +kernel
theorem dc_Ro_usedVariables_5 : decode cd_Ro_usedVariables 5 = .ok (.aload_n 0, 1) := by decide +kernel
theorem dc_Ro_usedVariables_6 : decode cd_Ro_usedVariables 6 = .ok (.getfield 26, 3) := by decide +kernel
theorem dc_Ro_usedVariables_9 : decode cd_Ro_usedVariables 9 = .ok (.if_icmp .ge 20, 3) := by decide +kernel
theorem dc_Ro_usedVariables_12 : decode cd_Ro_usedVariables 12 = .ok (.iload_n 1, 1) := by decide +kernel
theorem dc_Ro_usedVariables_13 : decode cd_Ro_usedVariables 13 = .ok (.iconst 1, 1) := by decide +kernel
theorem dc_Ro_usedVariables_14 : decode cd_Ro_usedVariables 14 = .ok (.aload_n 0, 1) := by decide +kernel
theorem dc_Ro_usedVariables_15 : decode cd_Ro_usedVariables 15 = .ok (.getfield 18, 3) := by decide +kernel
theorem dc_Ro_usedVariables_18 : decode cd_Ro_usedVariables 18 = .ok (.iload_n 2, 1) := by decide +kernel
theorem dc_Ro_usedVariables_19 : decode cd_Ro_usedVariables 19 = .ok (.iaload, 1) := by decide +kernel
theorem dc_Ro_usedVariables_20 : decode cd_Ro_usedVariables 20 = .ok (.ishl, 1) := by decide +kernel
theorem dc_Ro_usedVariables_21 : decode cd_Ro_usedVariables 21 = .ok (.ior, 1) := by decide +kernel
theorem dc_Ro_usedVariables_22 : decode cd_Ro_usedVariables 22 = .ok (.istore_n 1, 1) := by decide +kernel
theorem dc_Ro_usedVariables_23 : decode cd_Ro_usedVariables 23 = .ok (.iinc 2 1, 3) := by decide +kernel
theorem dc_Ro_usedVariables_26 : decode cd_Ro_usedVariables 26 = .ok (.goto (-22), 3) := by decide +kernel
theorem dc_Ro_usedVariables_29 : decode cd_Ro_usedVariables 29 = .ok (.iload_n 1, 1) := by decide +kernel
theorem dc_Ro_usedVariables_30 : decode cd_Ro_usedVariables 30 = .ok (.ireturn, 1) := by decide +kernel
theorem dc_Ro_isAbove_0 : decode cd_Ro_isAbove 0 = .ok (.aload_n 0, 1) := by decide +kernel
theorem dc_Ro_isAbove_1 : decode cd_Ro_isAbove 1 = .ok (.getfield 9, 3) := by decide +kernel
theorem dc_Ro_isAbove_4 : decode cd_Ro_isAbove 4 = .ok (.iload_n 1, 1) := by decide +kernel
theorem dc_Ro_isAbove_5 : decode cd_Ro_isAbove 5 = .ok (.laload, 1) := by decide +kernel
theorem dc_Ro_isAbove_6 : decode cd_Ro_isAbove 6 = .ok (.lload_n 2, 1) := by decide +kernel
theorem dc_Ro_isAbove_7 : decode cd_Ro_isAbove 7 = .ok (.lcmp, 1) := by decide +kernel
theorem dc_Ro_isAbove_8 : decode cd_Ro_isAbove 8 = .ok (.ifCond .gt 26, 3) := by decide +kernel
theorem dc_Ro_isAbove_11 : decode cd_Ro_isAbove 11 = .ok (.aload_n 0, 1) := by decide +kernel
theorem dc_Ro_isAbove_12 : decode cd_Ro_isAbove 12 = .ok (.getfield 9, 3) := by decide +kernel
theorem dc_Ro_isAbove_15 : decode cd_Ro_isAbove 15 = .ok (.iload_n 1, 1) := by decide +kernel
theorem dc_Ro_isAbove_16 : decode cd_Ro_isAbove 16 = .ok (.laload, 1) := by decide +kernel
theorem dc_Ro_isAbove_17 : decode cd_Ro_isAbove 17 = .ok (.lload_n 2, 1) := by decide +kernel
theorem dc_Ro_isAbove_18 : decode cd_Ro_isAbove 18 = .ok (.lcmp, 1) := by decide +kernel
theorem dc_Ro_isAbove_19 : decode cd_Ro_isAbove 19 = .ok (.ifCond .ne 19, 3) := by decide +kernel
theorem dc_Ro_isAbove_22 : decode cd_Ro_isAbove 22 = .ok (.aload_n 0, 1) := by decide +kernel
theorem dc_Ro_isAbove_23 : decode cd_Ro_isAbove 23 = .ok (.getfield 13, 3) := by decide +kernel
theorem dc_Ro_isAbove_26 : decode cd_Ro_isAbove 26 = .ok (.iload_n 1, 1) := by decide +kernel
theorem dc_Ro_isAbove_27 : decode cd_Ro_isAbove 27 = .ok (.laload, 1) := by decide +kernel
theorem dc_Ro_isAbove_28 : decode cd_Ro_isAbove 28 = .ok (.lload 4, 2) := by decide +kernel
theorem dc_Ro_isAbove_30 : decode cd_Ro_isAbove 30 = .ok (.lcmp, 1) := by decide +kernel
theorem dc_Ro_isAbove_31 : decode cd_Ro_isAbove 31 = .ok (.ifCond .le 7, 3) := by decide +kernel
theorem dc_Ro_isAbove_34 : decode cd_Ro_isAbove 34 = .ok (.iconst 1, 1) := by decide +kernel
theorem dc_Ro_isAbove_35 : decode cd_Ro_isAbove 35 = .ok (.goto 4, 3) := by decide +kernel
theorem dc_Ro_isAbove_38 : decode cd_Ro_isAbove 38 = .ok (.iconst 0, 1) := by decide +kernel
theorem dc_Ro_isAbove_39 : decode cd_Ro_isAbove 39 = .ok (.ireturn, 1) := by decide +kernel
theorem dc_Ro_sink_0 : decode cd_Ro_sink 0 = .ok (.aload_n 0, 1) := by decide +kernel
theorem dc_Ro_sink_1 : decode cd_Ro_sink 1 = .ok (.getfield 9, 3) := by decide +kernel
theorem dc_Ro_sink_4 : decode cd_Ro_sink 4 = .ok (.iload_n 1, 1) := by decide +kernel
theorem dc_Ro_sink_5 : decode cd_Ro_sink 5 = .ok (.laload, 1) := by decide +kernel
theorem dc_Ro_sink_6 : decode cd_Ro_sink 6 = .ok (.lstore_n 3, 1) := by decide +kernel
theorem dc_Ro_sink_7 : decode cd_Ro_sink 7 = .ok (.aload_n 0, 1) := by decide +kernel
theorem dc_Ro_sink_8 : decode cd_Ro_sink 8 = .ok (.getfield 13, 3) := by decide +kernel
theorem dc_Ro_sink_11 : decode cd_Ro_sink 11 = .ok (.iload_n 1, 1) := by decide +kernel
theorem dc_Ro_sink_12 : decode cd_Ro_sink 12 = .ok (.laload, 1) := by decide +kernel
theorem dc_Ro_sink_13 : decode cd_Ro_sink 13 = .ok (.lstore 5, 2) := by decide +kernel
theorem dc_Ro_sink_15 : decode cd_Ro_sink 15 = .ok (.iload_n 1, 1) := by decide +kernel
theorem dc_Ro_sink_16 : decode cd_Ro_sink 16 = .ok (.istore 7, 2) := by decide +kernel
theorem dc_Ro_sink_18 : decode cd_Ro_sink 18 = .ok (.iload 7, 2) := by decide +kernel
theorem dc_Ro_sink_20 : decode cd_Ro_sink 20 = .ok (.iload_n 2, 1) := by decide +kernel
theorem dc_Ro_sink_21 : decode cd_Ro_sink 21 = .ok (.if_icmp .lt 58, 3) := by decide +kernel
theorem dc_Ro_sink_24 : decode cd_Ro_sink 24 = .ok (.aload_n 0, 1) := by decide +kernel
theorem dc_Ro_sink_25 : decode cd_Ro_sink 25 = .ok (.iload 7, 2) := by decide +kernel
theorem dc_Ro_sink_27 : decode cd_Ro_sink 27 = .ok (.iload_n 2, 1) := by decide +kernel
theorem dc_Ro_sink_28 : decode cd_Ro_sink 28 = .ok (.isub, 1) := by decide +kernel
theorem dc_Ro_sink_29 : decode cd_Ro_sink 29 = .ok (.lload_n 3, 1) := by decide +kernel
theorem dc_Ro_sink_30 : decode cd_Ro_sink 30 = .ok (.lload 5, 2) := by decide +kernel
theorem dc_Ro_sink_32 : decode cd_Ro_sink 32 = .ok (.invokevirtual 50, 3) := by decide +kernel
theorem dc_Ro_sink_35 : decode cd_Ro_sink 35 = .ok (.ifCond .eq 44, 3) := by decide +kernel
theorem dc_Ro_sink_38 : decode cd_Ro_sink 38 = .ok (.aload_n 0, 1) := by decide +kernel
theorem dc_Ro_sink_39 : decode cd_Ro_sink 39 = .ok (.getfield 9, 3) := by decide +kernel
theorem dc_Ro_sink_42 : decode cd_Ro_sink 42 = .ok (.iload 7, 2) := by decide +kernel
theorem dc_Ro_sink_44 : decode cd_Ro_sink 44 = .ok (.aload_n 0, 1) := by decide +kernel
theorem dc_Ro_sink_45 : decode cd_Ro_sink 45 = .ok (.getfield 9, 3) := by decide +kernel
theorem dc_Ro_sink_48 : decode cd_Ro_sink 48 = .ok (.iload 7, 2) := by decide +kernel
theorem dc_Ro_sink_50 : decode cd_Ro_sink 50 = .ok (.iload_n 2, 1) := by decide +kernel
theorem dc_Ro_sink_51 : decode cd_Ro_sink 51 = .ok (.isub, 1) := by decide +kernel
theorem dc_Ro_sink_52 : decode cd_Ro_sink 52 = .ok (.laload, 1) := by decide +kernel
theorem dc_Ro_sink_53 : decode cd_Ro_sink 53 = .ok (.lastore, 1) := by decide +kernel
theorem dc_Ro_sink_54 : decode cd_Ro_sink 54 = .ok (.aload_n 0, 1) := by decide +kernel
theorem dc_Ro_sink_55 : decode cd_Ro_sink 55 = .ok (.getfield 13, 3) := by decide +kernel
theorem dc_Ro_sink_58 : decode cd_Ro_sink 58 = .ok (.iload 7, 2) := by decide +kernel
theorem dc_Ro_sink_60 : decode cd_Ro_sink 60 = .ok (.aload_n 0, 1) := by decide +kernel
theorem dc_Ro_sink_61 : decode cd_Ro_sink 61 = .ok (.getfield 13, 3) := by decide +kernel
theorem dc_Ro_sink_64 : decode cd_Ro_sink 64 = .ok (.iload 7, 2) := by decide +kernel
theorem dc_Ro_sink_66 : decode cd_Ro_sink 66 = .ok (.iload_n 2, 1) := by decide +kernel
theorem dc_Ro_sink_67 : decode cd_Ro_sink 67 = .ok (.isub, 1) := by decide +kernel
theorem dc_Ro_sink_68 : decode cd_Ro_sink 68 = .ok (.laload, 1) := by decide +kernel
theorem dc_Ro_sink_69 : decode cd_Ro_sink 69 = .ok (.lastore, 1) := by decide +kernel
theorem dc_Ro_sink_70 : decode cd_Ro_sink 70 = .ok (.iload 7, 2) := by decide +kernel
theorem dc_Ro_sink_72 : decode cd_Ro_sink 72 = .ok (.iload_n 2, 1) := by decide +kernel
theorem dc_Ro_sink_73 : decode cd_Ro_sink 73 = .ok (.isub, 1) := by decide +kernel
theorem dc_Ro_sink_74 : decode cd_Ro_sink 74 = .ok (.istore 7, 2) := by decide +kernel
theorem dc_Ro_sink_76 : decode cd_Ro_sink 76 = .ok (.goto (-58), 3) := by decide +kernel
theorem dc_Ro_sink_79 : decode cd_Ro_sink 79 = .ok (.aload_n 0, 1) := by decide +kernel
theorem dc_Ro_sink_80 : decode cd_Ro_sink 80 = .ok (.getfield 9, 3) := by decide +kernel
theorem dc_Ro_sink_83 : decode cd_Ro_sink 83 = .ok (.iload 7, 2) := by decide +kernel
theorem dc_Ro_sink_85 : decode cd_Ro_sink 85 = .ok (.lload_n 3, 1) := by decide +kernel
theorem dc_Ro_sink_86 : decode cd_Ro_sink 86 = .ok (.lastore, 1) := by decide +kernel
theorem dc_Ro_sink_87 : decode cd_Ro_sink 87 = .ok (.aload_n 0, 1) := by decide +kernel
theorem dc_Ro_sink_88 : decode cd_Ro_sink 88 = .ok (.getfield 13, 3) := by decide +kernel
theorem dc_Ro_sink_91 : decode cd_Ro_sink 91 = .ok (.iload 7, 2) := by decide +kernel
theorem dc_Ro_sink_93 : decode cd_Ro_sink 93 = .ok (.lload 5, 2) := by decide +kernel
theorem dc_Ro_sink_95 : decode cd_Ro_sink 95 = .ok (.lastore, 1) := by decide +kernel
theorem dc_Ro_sink_96 : decode cd_Ro_sink 96 = .ok (.return_, 1) := by decide +kernel
theorem dc_Ro_sort_0 : decode cd_Ro_sort 0 = .ok (.getstatic 43, 3) := by decide +kernel
theorem dc_Ro_sort_3 : decode cd_Ro_sort 3 = .ok (.astore_n 1, 1) := by decide +kernel
theorem dc_Ro_sort_4 : decode cd_Ro_sort 4 = .ok (.aload_n 1, 1) := by decide +kernel
theorem dc_Ro_sort_5 : decode cd_Ro_sort 5 = .ok (.arraylength, 1) := by decide +kernel
theorem dc_Ro_sort_6 : decode cd_Ro_sort 6 = .ok (.istore_n 2, 1) := by decide +kernel
theorem dc_Ro_sort_7 : decode cd_Ro_sort 7 = .ok (.iconst 0, 1) := by decide +kernel
theorem dc_Ro_sort_8 : decode cd_Ro_sort 8 = .ok (.istore_n 3, 1) := by decide +kernel
theorem dc_Ro_sort_9 : decode cd_Ro_sort 9 = .ok (.iload_n 3, 1) := by decide +kernel
theorem dc_Ro_sort_10 : decode cd_Ro_sort 10 = .ok (.iload_n 2, 1) := by decide +kernel
theorem dc_Ro_sort_11 : decode cd_Ro_sort 11 = .ok (.if_icmp .ge 41, 3) := by decide +kernel
theorem dc_Ro_sort_14 : decode cd_Ro_sort 14 = .ok (.aload_n 1, 1) := by decide +kernel
theorem dc_Ro_sort_15 : decode cd_Ro_sort 15 = .ok (.iload_n 3, 1) := by decide +kernel
theorem dc_Ro_sort_16 : decode cd_Ro_sort 16 = .ok (.iaload, 1) := by decide +kernel
theorem dc_Ro_sort_17 : decode cd_Ro_sort 17 = .ok (.istore 4, 2) := by decide +kernel
theorem dc_Ro_sort_19 : decode cd_Ro_sort 19 = .ok (.iload 4, 2) := by decide +kernel
theorem dc_Ro_sort_21 : decode cd_Ro_sort 21 = .ok (.istore 5, 2) := by decide +kernel
theorem dc_Ro_sort_23 : decode cd_Ro_sort 23 = .ok (.iload 5, 2) := by decide +kernel
theorem dc_Ro_sort_25 : decode cd_Ro_sort 25 = .ok (.aload_n 0, 1) := by decide +kernel
theorem dc_Ro_sort_26 : decode cd_Ro_sort 26 = .ok (.getfield 22, 3) := by decide +kernel
theorem dc_Ro_sort_29 : decode cd_Ro_sort 29 = .ok (.if_icmp .ge 17, 3) := by decide +kernel
theorem dc_Ro_sort_32 : decode cd_Ro_sort 32 = .ok (.aload_n 0, 1) := by decide +kernel
theorem dc_Ro_sort_33 : decode cd_Ro_sort 33 = .ok (.iload 5, 2) := by decide +kernel
theorem dc_Ro_sort_35 : decode cd_Ro_sort 35 = .ok (.iload 4, 2) := by decide +kernel
theorem dc_Ro_sort_37 : decode cd_Ro_sort 37 = .ok (.invokevirtual 46, 3) := by decide +kernel
theorem dc_Ro_sort_40 : decode cd_Ro_sort 40 = .ok (.iinc 5 1, 3) := by decide +kernel
theorem dc_Ro_sort_43 : decode cd_Ro_sort 43 = .ok (.goto (-20), 3) := by decide +kernel
theorem dc_Ro_sort_46 : decode cd_Ro_sort 46 = .ok (.iinc 3 1, 3) := by decide +kernel
theorem dc_Ro_sort_49 : decode cd_Ro_sort 49 = .ok (.goto (-40), 3) := by decide +kernel
theorem dc_Ro_sort_52 : decode cd_Ro_sort 52 = .ok (.return_, 1) := by decide +kernel
theorem dc_Ro_has_0 : decode cd_Ro_has 0 = .ok (.iload_n 1, 1) := by decide +kernel
theorem dc_Ro_has_1 : decode cd_Ro_has 1 = .ok (.ifCond .lt 27, 3) := by decide +kernel
theorem dc_Ro_has_4 : decode cd_Ro_has 4 = .ok (.iload_n 1, 1) := by decide +kernel
theorem dc_Ro_has_5 : decode cd_Ro_has 5 = .ok (.aload_n 0, 1) := by decide +kernel
theorem dc_Ro_has_6 : decode cd_Ro_has 6 = .ok (.getfield 22, 3) := by decide +kernel
theorem dc_Ro_has_9 : decode cd_Ro_has 9 = .ok (.if_icmp .ge 19, 3) := by decide +kernel
theorem dc_Ro_has_12 : decode cd_Ro_has 12 = .ok (.iload_n 2, 1) := by decide +kernel
theorem dc_Ro_has_13 : decode cd_Ro_has 13 = .ok (.ifCond .lt 15, 3) := by decide +kernel
theorem dc_Ro_has_16 : decode cd_Ro_has 16 = .ok (.iload_n 2, 1) := by decide +kernel
theorem dc_Ro_has_17 : decode cd_Ro_has 17 = .ok (.aload_n 0, 1) := by decide +kernel
theorem dc_Ro_has_18 : decode cd_Ro_has 18 = .ok (.getfield 26, 3) := by decide +kernel
theorem dc_Ro_has_21 : decode cd_Ro_has 21 = .ok (.if_icmp .ge 7, 3) := by decide +kernel
theorem dc_Ro_has_24 : decode cd_Ro_has 24 = .ok (.iconst 1, 1) := by decide +kernel
theorem dc_Ro_has_25 : decode cd_Ro_has 25 = .ok (.goto 4, 3) := by decide +kernel
theorem dc_Ro_has_28 : decode cd_Ro_has 28 = .ok (.iconst 0, 1) := by decide +kernel
theorem dc_Ro_has_29 : decode cd_Ro_has 29 = .ok (.ireturn, 1) := by decide +kernel
theorem dc_Ro_rankAt_0 : decode cd_Ro_rankAt 0 = .ok (.iload_n 2, 1) := by decide +kernel
theorem dc_Ro_rankAt_1 : decode cd_Ro_rankAt 1 = .ok (.bipush 6, 2) := by decide +kernel
theorem dc_Ro_rankAt_3 : decode cd_Ro_rankAt 3 = .ok (.if_icmp .ge 16, 3) := by decide +kernel
theorem dc_Ro_rankAt_6 : decode cd_Ro_rankAt 6 = .ok (.aload_n 0, 1) := by decide +kernel
theorem dc_Ro_rankAt_7 : decode cd_Ro_rankAt 7 = .ok (.getfield 9, 3) := by decide +kernel
theorem dc_Ro_rankAt_10 : decode cd_Ro_rankAt 10 = .ok (.iload_n 1, 1) := by decide +kernel
theorem dc_Ro_rankAt_11 : decode cd_Ro_rankAt 11 = .ok (.laload, 1) := by decide +kernel
theorem dc_Ro_rankAt_12 : decode cd_Ro_rankAt 12 = .ok (.iload_n 2, 1) := by decide +kernel
theorem dc_Ro_rankAt_13 : decode cd_Ro_rankAt 13 = .ok (.invokestatic 33, 3) := by decide +kernel
theorem dc_Ro_rankAt_16 : decode cd_Ro_rankAt 16 = .ok (.goto 16, 3) := by decide +kernel
theorem dc_Ro_rankAt_19 : decode cd_Ro_rankAt 19 = .ok (.aload_n 0, 1) := by decide +kernel
theorem dc_Ro_rankAt_20 : decode cd_Ro_rankAt 20 = .ok (.getfield 13, 3) := by decide +kernel
theorem dc_Ro_rankAt_23 : decode cd_Ro_rankAt 23 = .ok (.iload_n 1, 1) := by decide +kernel
theorem dc_Ro_rankAt_24 : decode cd_Ro_rankAt 24 = .ok (.laload, 1) := by decide +kernel
theorem dc_Ro_rankAt_25 : decode cd_Ro_rankAt 25 = .ok (.iload_n 2, 1) := by decide +kernel
theorem dc_Ro_rankAt_26 : decode cd_Ro_rankAt 26 = .ok (.bipush 6, 2) := by decide +kernel
theorem dc_Ro_rankAt_28 : decode cd_Ro_rankAt 28 = .ok (.isub, 1) := by decide +kernel
theorem dc_Ro_rankAt_29 : decode cd_Ro_rankAt 29 = .ok (.invokestatic 33, 3) := by decide +kernel
theorem dc_Ro_rankAt_32 : decode cd_Ro_rankAt 32 = .ok (.ireturn, 1) := by decide +kernel
theorem dc_Ix_clear_0 : decode cd_Ix_clear 0 = .ok (.aload_n 0, 1) := by decide +kernel
theorem dc_Ix_clear_1 : decode cd_Ix_clear 1 = .ok (.iconst 0, 1) := by decide +kernel
theorem dc_Ix_clear_2 : decode cd_Ix_clear 2 = .ok (.putfield 34, 3) := by decide +kernel
theorem dc_Ix_clear_5 : decode cd_Ix_clear 5 = .ok (.aload_n 0, 1) := by decide +kernel
theorem dc_Ix_clear_6 : decode cd_Ix_clear 6 = .ok (.iconst 0, 1) := by decide +kernel
theorem dc_Ix_clear_7 : decode cd_Ix_clear 7 = .ok (.putfield 38, 3) := by decide +kernel
theorem dc_Ix_clear_10 : decode cd_Ix_clear 10 = .ok (.return_, 1) := by decide +kernel
theorem dc_Ix_makeRoom_0 : decode cd_Ix_makeRoom 0 = .ok (.aload_n 0, 1) := by decide +kernel
theorem dc_Ix_makeRoom_1 : decode cd_Ix_makeRoom 1 = .ok (.getfield 38, 3) := by decide +kernel
theorem dc_Ix_makeRoom_4 : decode cd_Ix_makeRoom 4 = .ok (.iload_n 1, 1) := by decide +kernel
theorem dc_Ix_makeRoom_5 : decode cd_Ix_makeRoom 5 = .ok (.iadd, 1) := by decide +kernel
theorem dc_Ix_makeRoom_6 : decode cd_Ix_makeRoom 6 = .ok (.aload_n 0, 1) := by decide +kernel
theorem dc_Ix_makeRoom_7 : decode cd_Ix_makeRoom 7 = .ok (.getfield 31, 3) := by decide +kernel
theorem dc_Ix_makeRoom_10 : decode cd_Ix_makeRoom 10 = .ok (.arraylength, 1) := by decide +kernel
theorem dc_Ix_makeRoom_11 : decode cd_Ix_makeRoom 11 = .ok (.if_icmp .gt 15, 3) := by decide +kernel
theorem dc_Ix_makeRoom_14 : decode cd_Ix_makeRoom 14 = .ok (.aload_n 0, 1) := by decide +kernel
theorem dc_Ix_makeRoom_15 : decode cd_Ix_makeRoom 15 = .ok (.getfield 34, 3) := by decide +kernel
theorem dc_Ix_makeRoom_18 : decode cd_Ix_makeRoom 18 = .ok (.bipush 12, 2) := by decide +kernel
theorem dc_Ix_makeRoom_20 : decode cd_Ix_makeRoom 20 = .ok (.iadd, 1) := by decide +kernel
theorem dc_Ix_makeRoom_21 : decode cd_Ix_makeRoom 21 = .ok (.bipush 64, 2) := by decide +kernel
theorem dc_Ix_makeRoom_23 : decode cd_Ix_makeRoom 23 = .ok (.if_icmp .le 37, 3) := by decide +kernel
theorem dc_Ix_makeRoom_26 : decode cd_Ix_makeRoom 26 = .ok (.aload_n 0, 1) := by decide +kernel
theorem dc_Ix_makeRoom_27 : decode cd_Ix_makeRoom 27 = .ok (.invokevirtual 43, 3) := by decide +kernel
theorem dc_Ix_makeRoom_30 : decode cd_Ix_makeRoom 30 = .ok (.iconst 2, 1) := by decide +kernel
theorem dc_Ix_makeRoom_31 : decode cd_Ix_makeRoom 31 = .ok (.iload_n 1, 1) := by decide +kernel
theorem dc_Ix_makeRoom_32 : decode cd_Ix_makeRoom 32 = .ok (.imul, 1) := by decide +kernel
theorem dc_Ix_makeRoom_33 : decode cd_Ix_makeRoom 33 = .ok (.aload_n 0, 1) := by decide +kernel
theorem dc_Ix_makeRoom_34 : decode cd_Ix_makeRoom 34 = .ok (.getfield 31, 3) := by decide +kernel
theorem dc_Ix_makeRoom_37 : decode cd_Ix_makeRoom 37 = .ok (.arraylength, 1) := by decide +kernel
theorem dc_Ix_makeRoom_38 : decode cd_Ix_makeRoom 38 = .ok (.if_icmp .le 22, 3) := by decide +kernel
theorem dc_Ix_makeRoom_41 : decode cd_Ix_makeRoom 41 = .ok (.aload_n 0, 1) := by decide +kernel
theorem dc_Ix_makeRoom_42 : decode cd_Ix_makeRoom 42 = .ok (.iconst 2, 1) := by decide +kernel
theorem dc_Ix_makeRoom_43 : decode cd_Ix_makeRoom 43 = .ok (.iload_n 1, 1) := by decide +kernel
theorem dc_Ix_makeRoom_44 : decode cd_Ix_makeRoom 44 = .ok (.imul, 1) := by decide +kernel
theorem dc_Ix_makeRoom_45 : decode cd_Ix_makeRoom 45 = .ok (.iconst 2, 1) := by decide +kernel
theorem dc_Ix_makeRoom_46 : decode cd_Ix_makeRoom 46 = .ok (.aload_n 0, 1) := by decide +kernel
theorem dc_Ix_makeRoom_47 : decode cd_Ix_makeRoom 47 = .ok (.getfield 31, 3) := by decide +kernel
theorem dc_Ix_makeRoom_50 : decode cd_Ix_makeRoom 50 = .ok (.arraylength, 1) := by decide +kernel
theorem dc_Ix_makeRoom_51 : decode cd_Ix_makeRoom 51 = .ok (.imul, 1) := by decide +kernel
theorem dc_Ix_makeRoom_52 : decode cd_Ix_makeRoom 52 = .ok (.invokestatic 46, 3) := by decide +kernel
theorem dc_Ix_makeRoom_55 : decode cd_Ix_makeRoom 55 = .ok (.newarray .long, 2) := by decide +kernel
theorem dc_Ix_makeRoom_57 : decode cd_Ix_makeRoom 57 = .ok (.putfield 31, 3) := by decide +kernel
theorem dc_Ix_makeRoom_60 : decode cd_Ix_makeRoom 60 = .ok (.return_, 1) := by decide +kernel
theorem dc_Ix_sort_0 : decode cd_Ix_sort 0 = .ok (.getstatic 109, 3) := by decide +kernel
theorem dc_Ix_sort_3 : decode cd_Ix_sort 3 = .ok (.astore_n 2, 1) := by decide +kernel
theorem dc_Ix_sort_4 : decode cd_Ix_sort 4 = .ok (.aload_n 2, 1) := by decide +kernel
theorem dc_Ix_sort_5 : decode cd_Ix_sort 5 = .ok (.arraylength, 1) := by decide +kernel
theorem dc_Ix_sort_6 : decode cd_Ix_sort 6 = .ok (.istore_n 3, 1) := by decide +kernel
theorem dc_Ix_sort_7 : decode cd_Ix_sort 7 = .ok (.iconst 0, 1) := by decide +kernel
theorem dc_Ix_sort_8 : decode cd_Ix_sort 8 = .ok (.istore 4, 2) := by decide +kernel
theorem dc_Ix_sort_10 : decode cd_Ix_sort 10 = .ok (.iload 4, 2) := by decide +kernel
theorem dc_Ix_sort_12 : decode cd_Ix_sort 12 = .ok (.iload_n 3, 1) := by decide +kernel
theorem dc_Ix_sort_13 : decode cd_Ix_sort 13 = .ok (.if_icmp .ge 110, 3) := by decide +kernel
theorem dc_Ix_sort_16 : decode cd_Ix_sort 16 = .ok (.aload_n 2, 1) := by decide +kernel
theorem dc_Ix_sort_17 : decode cd_Ix_sort 17 = .ok (.iload 4, 2) := by decide +kernel
theorem dc_Ix_sort_19 : decode cd_Ix_sort 19 = .ok (.iaload, 1) := by decide +kernel
theorem dc_Ix_sort_20 : decode cd_Ix_sort 20 = .ok (.istore 5, 2) := by decide +kernel
theorem dc_Ix_sort_22 : decode cd_Ix_sort 22 = .ok (.iload_n 1, 1) := by decide +kernel
theorem dc_Ix_sort_23 : decode cd_Ix_sort 23 = .ok (.iload 5, 2) := by decide +kernel
theorem dc_Ix_sort_25 : decode cd_Ix_sort 25 = .ok (.iadd, 1) := by decide +kernel
theorem dc_Ix_sort_26 : decode cd_Ix_sort 26 = .ok (.istore 6, 2) := by decide +kernel
theorem dc_Ix_sort_28 : decode cd_Ix_sort 28 = .ok (.iload 6, 2) := by decide +kernel
theorem dc_Ix_sort_30 : decode cd_Ix_sort 30 = .ok (.aload_n 0, 1) := by decide +kernel
theorem dc_Ix_sort_31 : decode cd_Ix_sort 31 = .ok (.getfield 38, 3) := by decide +kernel
theorem dc_Ix_sort_34 : decode cd_Ix_sort 34 = .ok (.if_icmp .ge 83, 3) := by decide +kernel
theorem dc_Ix_sort_37 : decode cd_Ix_sort 37 = .ok (.aload_n 0, 1) := by decide +kernel
theorem dc_Ix_sort_38 : decode cd_Ix_sort 38 = .ok (.getfield 31, 3) := by decide +kernel
theorem dc_Ix_sort_41 : decode cd_Ix_sort 41 = .ok (.iload 6, 2) := by decide +kernel
theorem dc_Ix_sort_43 : decode cd_Ix_sort 43 = .ok (.laload, 1) := by decide +kernel
theorem dc_Ix_sort_44 : decode cd_Ix_sort 44 = .ok (.lstore 7, 2) := by decide +kernel
theorem dc_Ix_sort_46 : decode cd_Ix_sort 46 = .ok (.iload 6, 2) := by decide +kernel
theorem dc_Ix_sort_48 : decode cd_Ix_sort 48 = .ok (.istore 9, 2) := by decide +kernel
theorem dc_Ix_sort_50 : decode cd_Ix_sort 50 = .ok (.iload 9, 2) := by decide +kernel
theorem dc_Ix_sort_52 : decode cd_Ix_sort 52 = .ok (.iload_n 1, 1) := by decide +kernel
theorem dc_Ix_sort_53 : decode cd_Ix_sort 53 = .ok (.iload 5, 2) := by decide +kernel
theorem dc_Ix_sort_55 : decode cd_Ix_sort 55 = .ok (.iadd, 1) := by decide +kernel
theorem dc_Ix_sort_56 : decode cd_Ix_sort 56 = .ok (.if_icmp .lt 46, 3) := by decide +kernel
theorem dc_Ix_sort_59 : decode cd_Ix_sort 59 = .ok (.aload_n 0, 1) := by decide +kernel
theorem dc_Ix_sort_60 : decode cd_Ix_sort 60 = .ok (.getfield 31, 3) := by decide +kernel
theorem dc_Ix_sort_63 : decode cd_Ix_sort 63 = .ok (.iload 9, 2) := by decide +kernel
theorem dc_Ix_sort_65 : decode cd_Ix_sort 65 = .ok (.iload 5, 2) := by decide +kernel
theorem dc_Ix_sort_67 : decode cd_Ix_sort 67 = .ok (.isub, 1) := by decide +kernel
theorem dc_Ix_sort_68 : decode cd_Ix_sort 68 = .ok (.laload, 1) := by decide +kernel
theorem dc_Ix_sort_69 : decode cd_Ix_sort 69 = .ok (.lload 7, 2) := by decide +kernel
theorem dc_Ix_sort_71 : decode cd_Ix_sort 71 = .ok (.lcmp, 1) := by decide +kernel
theorem dc_Ix_sort_72 : decode cd_Ix_sort 72 = .ok (.ifCond .le 30, 3) := by decide +kernel
theorem dc_Ix_sort_75 : decode cd_Ix_sort 75 = .ok (.aload_n 0, 1) := by decide +kernel
theorem dc_Ix_sort_76 : decode cd_Ix_sort 76 = .ok (.getfield 31, 3) := by decide +kernel
theorem dc_Ix_sort_79 : decode cd_Ix_sort 79 = .ok (.iload 9, 2) := by decide +kernel
theorem dc_Ix_sort_81 : decode cd_Ix_sort 81 = .ok (.aload_n 0, 1) := by decide +kernel
theorem dc_Ix_sort_82 : decode cd_Ix_sort 82 = .ok (.getfield 31, 3) := by decide +kernel
theorem dc_Ix_sort_85 : decode cd_Ix_sort 85 = .ok (.iload 9, 2) := by decide +kernel
theorem dc_Ix_sort_87 : decode cd_Ix_sort 87 = .ok (.iload 5, 2) := by decide +kernel
theorem dc_Ix_sort_89 : decode cd_Ix_sort 89 = .ok (.isub, 1) := by decide +kernel
theorem dc_Ix_sort_90 : decode cd_Ix_sort 90 = .ok (.laload, 1) := by decide +kernel
theorem dc_Ix_sort_91 : decode cd_Ix_sort 91 = .ok (.lastore, 1) := by decide +kernel
theorem dc_Ix_sort_92 : decode cd_Ix_sort 92 = .ok (.iload 9, 2) := by decide +kernel
theorem dc_Ix_sort_94 : decode cd_Ix_sort 94 = .ok (.iload 5, 2) := by decide +kernel
theorem dc_Ix_sort_96 : decode cd_Ix_sort 96 = .ok (.isub, 1) := by decide +kernel
theorem dc_Ix_sort_97 : decode cd_Ix_sort 97 = .ok (.istore 9, 2) := by decide +kernel
theorem dc_Ix_sort_99 : decode cd_Ix_sort 99 = .ok (.goto (-49), 3) := by decide +kernel
theorem dc_Ix_sort_102 : decode cd_Ix_sort 102 = .ok (.aload_n 0, 1) := by decide +kernel
theorem dc_Ix_sort_103 : decode cd_Ix_sort 103 = .ok (.getfield 31, 3) := by decide +kernel
theorem dc_Ix_sort_106 : decode cd_Ix_sort 106 = .ok (.iload 9, 2) := by decide +kernel
theorem dc_Ix_sort_108 : decode cd_Ix_sort 108 = .ok (.lload 7, 2) := by decide +kernel
theorem dc_Ix_sort_110 : decode cd_Ix_sort 110 = .ok (.lastore, 1) := by decide +kernel
theorem dc_Ix_sort_111 : decode cd_Ix_sort 111 = .ok (.iinc 6 1, 3) := by decide +kernel
theorem dc_Ix_sort_114 : decode cd_Ix_sort 114 = .ok (.goto (-86), 3) := by decide +kernel
theorem dc_Ix_sort_117 : decode cd_Ix_sort 117 = .ok (.iinc 4 1, 3) := by decide +kernel
theorem dc_Ix_sort_120 : decode cd_Ix_sort 120 = .ok (.goto (-110), 3) := by decide +kernel
theorem dc_Ix_sort_123 : decode cd_Ix_sort 123 = .ok (.return_, 1) := by decide +kernel
theorem dc_Ix_dropEquals_0 : decode cd_Ix_dropEquals 0 = .ok (.iload_n 1, 1) := by decide +kernel
theorem dc_Ix_dropEquals_1 : decode cd_Ix_dropEquals 1 = .ok (.istore_n 2, 1) := by decide +kernel
theorem dc_Ix_dropEquals_2 : decode cd_Ix_dropEquals 2 = .ok (.iload_n 1, 1) := by decide +kernel
theorem dc_Ix_dropEquals_3 : decode cd_Ix_dropEquals 3 = .ok (.istore_n 3, 1) := by decide +kernel
theorem dc_Ix_dropEquals_4 : decode cd_Ix_dropEquals 4 = .ok (.iload_n 3, 1) := by decide +kernel
theorem dc_Ix_dropEquals_5 : decode cd_Ix_dropEquals 5 = .ok (.aload_n 0, 1) := by decide +kernel
theorem dc_Ix_dropEquals_6 : decode cd_Ix_dropEquals 6 = .ok (.getfield 38, 3) := by decide +kernel
theorem dc_Ix_dropEquals_9 : decode cd_Ix_dropEquals 9 = .ok (.if_icmp .ge 47, 3) := by decide +kernel
theorem dc_Ix_dropEquals_12 : decode cd_Ix_dropEquals 12 = .ok (.iload_n 2, 1) := by decide +kernel
theorem dc_Ix_dropEquals_13 : decode cd_Ix_dropEquals 13 = .ok (.iload_n 1, 1) := by decide +kernel
theorem dc_Ix_dropEquals_14 : decode cd_Ix_dropEquals 14 = .ok (.if_icmp .eq 21, 3) := by decide +kernel
theorem dc_Ix_dropEquals_17 : decode cd_Ix_dropEquals 17 = .ok (.aload_n 0, 1) := by decide +kernel
theorem dc_Ix_dropEquals_18 : decode cd_Ix_dropEquals 18 = .ok (.getfield 31, 3) := by decide +kernel
theorem dc_Ix_dropEquals_21 : decode cd_Ix_dropEquals 21 = .ok (.iload_n 2, 1) := by decide +kernel
theorem dc_Ix_dropEquals_22 : decode cd_Ix_dropEquals 22 = .ok (.iconst 1, 1) := by decide +kernel
theorem dc_Ix_dropEquals_23 : decode cd_Ix_dropEquals 23 = .ok (.isub, 1) := by decide +kernel
theorem dc_Ix_dropEquals_24 : decode cd_Ix_dropEquals 24 = .ok (.laload, 1) := by decide +kernel
theorem dc_Ix_dropEquals_25 : decode cd_Ix_dropEquals 25 = .ok (.aload_n 0, 1) := by decide +kernel
theorem dc_Ix_dropEquals_26 : decode cd_Ix_dropEquals 26 = .ok (.getfield 31, 3) := by decide +kernel
theorem dc_Ix_dropEquals_29 : decode cd_Ix_dropEquals 29 = .ok (.iload_n 3, 1) := by decide +kernel
theorem dc_Ix_dropEquals_30 : decode cd_Ix_dropEquals 30 = .ok (.laload, 1) := by decide +kernel
theorem dc_Ix_dropEquals_31 : decode cd_Ix_dropEquals 31 = .ok (.lcmp, 1) := by decide +kernel
theorem dc_Ix_dropEquals_32 : decode cd_Ix_dropEquals 32 = .ok (.ifCond .eq 18, 3) := by decide +kernel
theorem dc_Ix_dropEquals_35 : decode cd_Ix_dropEquals 35 = .ok (.aload_n 0, 1) := by decide +kernel
theorem dc_Ix_dropEquals_36 : decode cd_Ix_dropEquals 36 = .ok (.getfield 31, 3) := by decide +kernel
theorem dc_Ix_dropEquals_39 : decode cd_Ix_dropEquals 39 = .ok (.iload_n 2, 1) := by decide +kernel
theorem dc_Ix_dropEquals_40 : decode cd_Ix_dropEquals 40 = .ok (.aload_n 0, 1) := by decide +kernel
theorem dc_Ix_dropEquals_41 : decode cd_Ix_dropEquals 41 = .ok (.getfield 31, 3) := by decide +kernel
theorem dc_Ix_dropEquals_44 : decode cd_Ix_dropEquals 44 = .ok (.iload_n 3, 1) := by decide +kernel
theorem dc_Ix_dropEquals_45 : decode cd_Ix_dropEquals 45 = .ok (.laload, 1) := by decide +kernel
theorem dc_Ix_dropEquals_46 : decode cd_Ix_dropEquals 46 = .ok (.lastore, 1) := by decide +kernel
theorem dc_Ix_dropEquals_47 : decode cd_Ix_dropEquals 47 = .ok (.iinc 2 1, 3) := by decide +kernel
theorem dc_Ix_dropEquals_50 : decode cd_Ix_dropEquals 50 = .ok (.iinc 3 1, 3) := by decide +kernel
theorem dc_Ix_dropEquals_53 : decode cd_Ix_dropEquals 53 = .ok (.goto (-49), 3) := by decide +kernel
theorem dc_Ix_dropEquals_56 : decode cd_Ix_dropEquals 56 = .ok (.aload_n 0, 1) := by decide +kernel
theorem dc_Ix_dropEquals_57 : decode cd_Ix_dropEquals 57 = .ok (.iload_n 2, 1) := by decide +kernel
theorem dc_Ix_dropEquals_58 : decode cd_Ix_dropEquals 58 = .ok (.putfield 38, 3) := by decide +kernel
theorem dc_Ix_dropEquals_61 : decode cd_Ix_dropEquals 61 = .ok (.return_, 1) := by decide +kernel
theorem dc_Ix_collect_0 : decode cd_Ix_collect 0 = .ok (.aload_n 0, 1) := by decide +kernel
theorem dc_Ix_collect_1 : decode cd_Ix_collect 1 = .ok (.getfield 38, 3) := by decide +kernel
theorem dc_Ix_collect_4 : decode cd_Ix_collect 4 = .ok (.istore 5, 2) := by decide +kernel
theorem dc_Ix_collect_6 : decode cd_Ix_collect 6 = .ok (.iconst 1, 1) := by decide +kernel
theorem dc_Ix_collect_7 : decode cd_Ix_collect 7 = .ok (.istore 6, 2) := by decide +kernel
theorem dc_Ix_collect_9 : decode cd_Ix_collect 9 = .ok (.iload_n 3, 1) := by decide +kernel
theorem dc_Ix_collect_10 : decode cd_Ix_collect 10 = .ok (.istore 7, 2) := by decide +kernel
theorem dc_Ix_collect_12 : decode cd_Ix_collect 12 = .ok (.iconst 0, 1) := by decide +kernel
theorem dc_Ix_collect_13 : decode cd_Ix_collect 13 = .ok (.istore 8, 2) := by decide +kernel
theorem dc_Ix_collect_15 : decode cd_Ix_collect 15 = .ok (.iload 8, 2) := by decide +kernel
theorem dc_Ix_collect_17 : decode cd_Ix_collect 17 = .ok (.sipush 20000, 3) := by decide +kernel
theorem dc_Ix_collect_20 : decode cd_Ix_collect 20 = .ok (.if_icmp .ge 127, 3) := by decide +kernel
theorem dc_Ix_collect_23 : decode cd_Ix_collect 23 = .ok (.iload 7, 2) := by decide +kernel
theorem dc_Ix_collect_25 : decode cd_Ix_collect 25 = .ok (.iconst (-1), 1) := by decide +kernel
theorem dc_Ix_collect_26 : decode cd_Ix_collect 26 = .ok (.if_icmp .eq 121, 3) := by decide +kernel
theorem dc_Ix_collect_29 : decode cd_Ix_collect 29 = .ok (.aload_n 1, 1) := by decide +kernel
theorem dc_Ix_collect_30 : decode cd_Ix_collect 30 = .ok (.aload_n 2, 1) := by decide +kernel
theorem dc_Ix_collect_31 : decode cd_Ix_collect 31 = .ok (.getfield 87, 3) := by decide +kernel
theorem dc_Ix_collect_34 : decode cd_Ix_collect 34 = .ok (.iload 7, 2) := by decide +kernel
theorem dc_Ix_collect_36 : decode cd_Ix_collect 36 = .ok (.laload, 1) := by decide +kernel
theorem dc_Ix_collect_37 : decode cd_Ix_collect 37 = .ok (.invokevirtual 90, 3) := by decide +kernel
theorem dc_Ix_collect_40 : decode cd_Ix_collect 40 = .ok (.lstore 9, 2) := by decide +kernel
theorem dc_Ix_collect_42 : decode cd_Ix_collect 42 = .ok (.lload 9, 2) := by decide +kernel
theorem dc_Ix_collect_44 : decode cd_Ix_collect 44 = .ok (.ldc2_w 94, 3) := by decide +kernel
theorem dc_Ix_collect_47 : decode cd_Ix_collect 47 = .ok (.lcmp, 1) := by decide +kernel
theorem dc_Ix_collect_48 : decode cd_Ix_collect 48 = .ok (.ifCond .eq 74, 3) := by decide +kernel
theorem dc_Ix_collect_51 : decode cd_Ix_collect 51 = .ok (.aload_n 0, 1) := by decide +kernel
theorem dc_Ix_collect_52 : decode cd_Ix_collect 52 = .ok (.getfield 38, 3) := by decide +kernel
theorem dc_Ix_collect_55 : decode cd_Ix_collect 55 = .ok (.aload_n 0, 1) := by decide +kernel
theorem dc_Ix_collect_56 : decode cd_Ix_collect 56 = .ok (.getfield 31, 3) := by decide +kernel
theorem dc_Ix_collect_59 : decode cd_Ix_collect 59 = .ok (.arraylength, 1) := by decide +kernel
theorem dc_Ix_collect_60 : decode cd_Ix_collect 60 = .ok (.if_icmp .ge 62, 3) := by decide +kernel
theorem dc_Ix_collect_63 : decode cd_Ix_collect 63 = .ok (.iload 6, 2) := by decide +kernel
theorem dc_Ix_collect_65 : decode cd_Ix_collect 65 = .ok (.ifCond .eq 33, 3) := by decide +kernel
theorem dc_Ix_collect_68 : decode cd_Ix_collect 68 = .ok (.aload_n 0, 1) := by decide +kernel
theorem dc_Ix_collect_69 : decode cd_Ix_collect 69 = .ok (.getfield 38, 3) := by decide +kernel
theorem dc_Ix_collect_72 : decode cd_Ix_collect 72 = .ok (.iload 5, 2) := by decide +kernel
theorem dc_Ix_collect_74 : decode cd_Ix_collect 74 = .ok (.if_icmp .eq 20, 3) := by decide +kernel
theorem dc_Ix_collect_77 : decode cd_Ix_collect 77 = .ok (.aload_n 0, 1) := by decide +kernel
theorem dc_Ix_collect_78 : decode cd_Ix_collect 78 = .ok (.getfield 31, 3) := by decide +kernel
theorem dc_Ix_collect_81 : decode cd_Ix_collect 81 = .ok (.aload_n 0, 1) := by decide +kernel
theorem dc_Ix_collect_82 : decode cd_Ix_collect 82 = .ok (.getfield 38, 3) := by decide +kernel
theorem dc_Ix_collect_85 : decode cd_Ix_collect 85 = .ok (.iconst 1, 1) := by decide +kernel
theorem dc_Ix_collect_86 : decode cd_Ix_collect 86 = .ok (.isub, 1) := by decide +kernel
theorem dc_Ix_collect_87 : decode cd_Ix_collect 87 = .ok (.laload, 1) := by decide +kernel
theorem dc_Ix_collect_88 : decode cd_Ix_collect 88 = .ok (.lload 9, 2) := by decide +kernel
theorem dc_Ix_collect_90 : decode cd_Ix_collect 90 = .ok (.lcmp, 1) := by decide +kernel
theorem dc_Ix_collect_91 : decode cd_Ix_collect 91 = .ok (.ifCond .ge 7, 3) := by decide +kernel
theorem dc_Ix_collect_94 : decode cd_Ix_collect 94 = .ok (.iconst 1, 1) := by decide +kernel
theorem dc_Ix_collect_95 : decode cd_Ix_collect 95 = .ok (.goto 4, 3) := by decide +kernel
theorem dc_Ix_collect_98 : decode cd_Ix_collect 98 = .ok (.iconst 0, 1) := by decide +kernel
theorem dc_Ix_collect_99 : decode cd_Ix_collect 99 = .ok (.istore 6, 2) := by decide +kernel
theorem dc_Ix_collect_101 : decode cd_Ix_collect 101 = .ok (.aload_n 0, 1) := by decide +kernel
theorem dc_Ix_collect_102 : decode cd_Ix_collect 102 = .ok (.getfield 31, 3) := by decide +kernel
theorem dc_Ix_collect_105 : decode cd_Ix_collect 105 = .ok (.aload_n 0, 1) := by decide +kernel
theorem dc_Ix_collect_106 : decode cd_Ix_collect 106 = .ok (.getfield 38, 3) := by decide +kernel
theorem dc_Ix_collect_109 : decode cd_Ix_collect 109 = .ok (.lload 9, 2) := by decide +kernel
theorem dc_Ix_collect_111 : decode cd_Ix_collect 111 = .ok (.lastore, 1) := by decide +kernel
theorem dc_Ix_collect_112 : decode cd_Ix_collect 112 = .ok (.aload_n 0, 1) := by decide +kernel
theorem dc_Ix_collect_113 : decode cd_Ix_collect 113 = .ok (.dup, 1) := by decide +kernel
theorem dc_Ix_collect_114 : decode cd_Ix_collect 114 = .ok (.getfield 38, 3) := by decide +kernel
theorem dc_Ix_collect_117 : decode cd_Ix_collect 117 = .ok (.iconst 1, 1) := by decide +kernel
theorem dc_Ix_collect_118 : decode cd_Ix_collect 118 = .ok (.iadd, 1) := by decide +kernel
theorem dc_Ix_collect_119 : decode cd_Ix_collect 119 = .ok (.putfield 38, 3) := by decide +kernel
theorem dc_Ix_collect_122 : decode cd_Ix_collect 122 = .ok (.iload 7, 2) := by decide +kernel
theorem dc_Ix_collect_124 : decode cd_Ix_collect 124 = .ok (.iload 4, 2) := by decide +kernel
theorem dc_Ix_collect_126 : decode cd_Ix_collect 126 = .ok (.if_icmp .ne 7, 3) := by decide +kernel
theorem dc_Ix_collect_129 : decode cd_Ix_collect 129 = .ok (.iconst (-1), 1) := by decide +kernel
theorem dc_Ix_collect_130 : decode cd_Ix_collect 130 = .ok (.goto 9, 3) := by decide +kernel
theorem dc_Ix_collect_133 : decode cd_Ix_collect 133 = .ok (.aload_n 2, 1) := by decide +kernel
theorem dc_Ix_collect_134 : decode cd_Ix_collect 134 = .ok (.iload 7, 2) := by decide +kernel
theorem dc_Ix_collect_136 : decode cd_Ix_collect 136 = .ok (.invokevirtual 96, 3) := by decide +kernel
theorem dc_Ix_collect_139 : decode cd_Ix_collect 139 = .ok (.istore 7, 2) := by decide +kernel
theorem dc_Ix_collect_141 : decode cd_Ix_collect 141 = .ok (.iinc 8 1, 3) := by decide +kernel
theorem dc_Ix_collect_144 : decode cd_Ix_collect 144 = .ok (.goto (-129), 3) := by decide +kernel
theorem dc_Ix_collect_147 : decode cd_Ix_collect 147 = .ok (.aload_n 1, 1) := by decide +kernel
theorem dc_Ix_collect_148 : decode cd_Ix_collect 148 = .ok (.getfield 99, 3) := by decide +kernel
theorem dc_Ix_collect_151 : decode cd_Ix_collect 151 = .ok (.ifCond .eq 20, 3) := by decide +kernel
theorem dc_Ix_collect_154 : decode cd_Ix_collect 154 = .ok (.iload 6, 2) := by decide +kernel
theorem dc_Ix_collect_156 : decode cd_Ix_collect 156 = .ok (.ifCond .ne 15, 3) := by decide +kernel
theorem dc_Ix_collect_159 : decode cd_Ix_collect 159 = .ok (.aload_n 0, 1) := by decide +kernel
theorem dc_Ix_collect_160 : decode cd_Ix_collect 160 = .ok (.iload 5, 2) := by decide +kernel
theorem dc_Ix_collect_162 : decode cd_Ix_collect 162 = .ok (.invokevirtual 102, 3) := by decide +kernel
theorem dc_Ix_collect_165 : decode cd_Ix_collect 165 = .ok (.aload_n 0, 1) := by decide +kernel
theorem dc_Ix_collect_166 : decode cd_Ix_collect 166 = .ok (.iload 5, 2) := by decide +kernel
theorem dc_Ix_collect_168 : decode cd_Ix_collect 168 = .ok (.invokevirtual 106, 3) := by decide +kernel
theorem dc_Ix_collect_171 : decode cd_Ix_collect 171 = .ok (.return_, 1) := by decide +kernel
theorem dc_Ix_provide_0 : decode cd_Ix_provide 0 = .ok (.aload_n 2, 1) := by decide +kernel
theorem dc_Ix_provide_1 : decode cd_Ix_provide 1 = .ok (.aload_n 1, 1) := by decide +kernel
theorem dc_Ix_provide_2 : decode cd_Ix_provide 2 = .ok (.getfield 52, 3) := by decide +kernel
theorem dc_Ix_provide_5 : decode cd_Ix_provide 5 = .ok (.aload_n 1, 1) := by decide +kernel
theorem dc_Ix_provide_6 : decode cd_Ix_provide 6 = .ok (.getfield 57, 3) := by decide +kernel
theorem dc_Ix_provide_9 : decode cd_Ix_provide 9 = .ok (.invokevirtual 61, 3) := by decide +kernel
theorem dc_Ix_provide_12 : decode cd_Ix_provide 12 = .ok (.istore_n 3, 1) := by decide +kernel
theorem dc_Ix_provide_13 : decode cd_Ix_provide 13 = .ok (.aload_n 2, 1) := by decide +kernel
theorem dc_Ix_provide_14 : decode cd_Ix_provide 14 = .ok (.aload_n 1, 1) := by decide +kernel
theorem dc_Ix_provide_15 : decode cd_Ix_provide 15 = .ok (.getfield 52, 3) := by decide +kernel
theorem dc_Ix_provide_18 : decode cd_Ix_provide 18 = .ok (.invokevirtual 67, 3) := by decide +kernel
theorem dc_Ix_provide_21 : decode cd_Ix_provide 21 = .ok (.istore 4, 2) := by decide +kernel
theorem dc_Ix_provide_23 : decode cd_Ix_provide 23 = .ok (.iconst 0, 1) := by decide +kernel
theorem dc_Ix_provide_24 : decode cd_Ix_provide 24 = .ok (.istore 5, 2) := by decide +kernel
theorem dc_Ix_provide_26 : decode cd_Ix_provide 26 = .ok (.iload 5, 2) := by decide +kernel
theorem dc_Ix_provide_28 : decode cd_Ix_provide 28 = .ok (.aload_n 0, 1) := by decide +kernel
theorem dc_Ix_provide_29 : decode cd_Ix_provide 29 = .ok (.getfield 34, 3) := by decide +kernel
theorem dc_Ix_provide_32 : decode cd_Ix_provide 32 = .ok (.if_icmp .ge 61, 3) := by decide +kernel
theorem dc_Ix_provide_35 : decode cd_Ix_provide 35 = .ok (.aload_n 0, 1) := by decide +kernel
theorem dc_Ix_provide_36 : decode cd_Ix_provide 36 = .ok (.getfield 11, 3) := by decide +kernel
theorem dc_Ix_provide_39 : decode cd_Ix_provide 39 = .ok (.iload 5, 2) := by decide +kernel
theorem dc_Ix_provide_41 : decode cd_Ix_provide 41 = .ok (.iaload, 1) := by decide +kernel
theorem dc_Ix_provide_42 : decode cd_Ix_provide 42 = .ok (.aload_n 1, 1) := by decide +kernel
theorem dc_Ix_provide_43 : decode cd_Ix_provide 43 = .ok (.getfield 71, 3) := by decide +kernel
theorem dc_Ix_provide_46 : decode cd_Ix_provide 46 = .ok (.if_icmp .ne 41, 3) := by decide +kernel
theorem dc_Ix_provide_49 : decode cd_Ix_provide 49 = .ok (.aload_n 0, 1) := by decide +kernel
theorem dc_Ix_provide_50 : decode cd_Ix_provide 50 = .ok (.getfield 15, 3) := by decide +kernel
theorem dc_Ix_provide_53 : decode cd_Ix_provide 53 = .ok (.iload 5, 2) := by decide +kernel
theorem dc_Ix_provide_55 : decode cd_Ix_provide 55 = .ok (.laload, 1) := by decide +kernel
theorem dc_Ix_provide_56 : decode cd_Ix_provide 56 = .ok (.aload_n 1, 1) := by decide +kernel
theorem dc_Ix_provide_57 : decode cd_Ix_provide 57 = .ok (.getfield 74, 3) := by decide +kernel
theorem dc_Ix_provide_60 : decode cd_Ix_provide 60 = .ok (.lcmp, 1) := by decide +kernel
theorem dc_Ix_provide_61 : decode cd_Ix_provide 61 = .ok (.ifCond .ne 26, 3) := by decide +kernel
theorem dc_Ix_provide_64 : decode cd_Ix_provide 64 = .ok (.aload_n 0, 1) := by decide +kernel
theorem dc_Ix_provide_65 : decode cd_Ix_provide 65 = .ok (.getfield 19, 3) := by decide +kernel
theorem dc_Ix_provide_68 : decode cd_Ix_provide 68 = .ok (.iload 5, 2) := by decide +kernel
theorem dc_Ix_provide_70 : decode cd_Ix_provide 70 = .ok (.iaload, 1) := by decide +kernel
theorem dc_Ix_provide_71 : decode cd_Ix_provide 71 = .ok (.iload_n 3, 1) := by decide +kernel
theorem dc_Ix_provide_72 : decode cd_Ix_provide 72 = .ok (.if_icmp .ne 15, 3) := by decide +kernel
theorem dc_Ix_provide_75 : decode cd_Ix_provide 75 = .ok (.aload_n 0, 1) := by decide +kernel
theorem dc_Ix_provide_76 : decode cd_Ix_provide 76 = .ok (.getfield 22, 3) := by decide +kernel
theorem dc_Ix_provide_79 : decode cd_Ix_provide 79 = .ok (.iload 5, 2) := by decide +kernel
theorem dc_Ix_provide_81 : decode cd_Ix_provide 81 = .ok (.iaload, 1) := by decide +kernel
theorem dc_Ix_provide_82 : decode cd_Ix_provide 82 = .ok (.iload 4, 2) := by decide +kernel
theorem dc_Ix_provide_84 : decode cd_Ix_provide 84 = .ok (.if_icmp .eq 9, 3) := by decide +kernel
theorem dc_Ix_provide_87 : decode cd_Ix_provide 87 = .ok (.iinc 5 1, 3) := by decide +kernel
theorem dc_Ix_provide_90 : decode cd_Ix_provide 90 = .ok (.goto (-64), 3) := by decide +kernel
theorem dc_Ix_provide_93 : decode cd_Ix_provide 93 = .ok (.iload 5, 2) := by decide +kernel
theorem dc_Ix_provide_95 : decode cd_Ix_provide 95 = .ok (.aload_n 0, 1) := by decide +kernel
theorem dc_Ix_provide_96 : decode cd_Ix_provide 96 = .ok (.getfield 34, 3) := by decide +kernel
theorem dc_Ix_provide_99 : decode cd_Ix_provide 99 = .ok (.if_icmp .ne 95, 3) := by decide +kernel
theorem dc_Ix_provide_102 : decode cd_Ix_provide 102 = .ok (.aload_n 0, 1) := by decide +kernel
theorem dc_Ix_provide_103 : decode cd_Ix_provide 103 = .ok (.getfield 11, 3) := by decide +kernel
theorem dc_Ix_provide_106 : decode cd_Ix_provide 106 = .ok (.aload_n 0, 1) := by decide +kernel
theorem dc_Ix_provide_107 : decode cd_Ix_provide 107 = .ok (.getfield 34, 3) := by decide +kernel
theorem dc_Ix_provide_110 : decode cd_Ix_provide 110 = .ok (.aload_n 1, 1) := by decide +kernel
theorem dc_Ix_provide_111 : decode cd_Ix_provide 111 = .ok (.getfield 71, 3) := by decide +kernel
theorem dc_Ix_provide_114 : decode cd_Ix_provide 114 = .ok (.iastore, 1) := by decide +kernel
theorem dc_Ix_provide_115 : decode cd_Ix_provide 115 = .ok (.aload_n 0, 1) := by decide +kernel
theorem dc_Ix_provide_116 : decode cd_Ix_provide 116 = .ok (.getfield 15, 3) := by decide +kernel
theorem dc_Ix_provide_119 : decode cd_Ix_provide 119 = .ok (.aload_n 0, 1) := by decide +kernel
theorem dc_Ix_provide_120 : decode cd_Ix_provide 120 = .ok (.getfield 34, 3) := by decide +kernel
theorem dc_Ix_provide_123 : decode cd_Ix_provide 123 = .ok (.aload_n 1, 1) := by decide +kernel
theorem dc_Ix_provide_124 : decode cd_Ix_provide 124 = .ok (.getfield 74, 3) := by decide +kernel
theorem dc_Ix_provide_127 : decode cd_Ix_provide 127 = .ok (.lastore, 1) := by decide +kernel
theorem dc_Ix_provide_128 : decode cd_Ix_provide 128 = .ok (.aload_n 0, 1) := by decide +kernel
theorem dc_Ix_provide_129 : decode cd_Ix_provide 129 = .ok (.getfield 19, 3) := by decide +kernel
theorem dc_Ix_provide_132 : decode cd_Ix_provide 132 = .ok (.aload_n 0, 1) := by decide +kernel
theorem dc_Ix_provide_133 : decode cd_Ix_provide 133 = .ok (.getfield 34, 3) := by decide +kernel
theorem dc_Ix_provide_136 : decode cd_Ix_provide 136 = .ok (.iload_n 3, 1) := by decide +kernel
theorem dc_Ix_provide_137 : decode cd_Ix_provide 137 = .ok (.iastore, 1) := by decide +kernel
theorem dc_Ix_provide_138 : decode cd_Ix_provide 138 = .ok (.aload_n 0, 1) := by decide +kernel
theorem dc_Ix_provide_139 : decode cd_Ix_provide 139 = .ok (.getfield 22, 3) := by decide +kernel
theorem dc_Ix_provide_142 : decode cd_Ix_provide 142 = .ok (.aload_n 0, 1) := by decide +kernel
theorem dc_Ix_provide_143 : decode cd_Ix_provide 143 = .ok (.getfield 34, 3) := by decide +kernel
theorem dc_Ix_provide_146 : decode cd_Ix_provide 146 = .ok (.iload 4, 2) := by decide +kernel
theorem dc_Ix_provide_148 : decode cd_Ix_provide 148 = .ok (.iastore, 1) := by decide +kernel
theorem dc_Ix_provide_149 : decode cd_Ix_provide 149 = .ok (.aload_n 0, 1) := by decide +kernel
theorem dc_Ix_provide_150 : decode cd_Ix_provide 150 = .ok (.getfield 25, 3) := by decide +kernel
theorem dc_Ix_provide_153 : decode cd_Ix_provide 153 = .ok (.aload_n 0, 1) := by decide +kernel
theorem dc_Ix_provide_154 : decode cd_Ix_provide 154 = .ok (.getfield 34, 3) := by decide +kernel
theorem dc_Ix_provide_157 : decode cd_Ix_provide 157 = .ok (.aload_n 0, 1) := by decide +kernel
theorem dc_Ix_provide_158 : decode cd_Ix_provide 158 = .ok (.getfield 38, 3) := by decide +kernel
theorem dc_Ix_provide_161 : decode cd_Ix_provide 161 = .ok (.iastore, 1) := by decide +kernel
theorem dc_Ix_provide_162 : decode cd_Ix_provide 162 = .ok (.aload_n 0, 1) := by decide +kernel
theorem dc_Ix_provide_163 : decode cd_Ix_provide 163 = .ok (.aload_n 1, 1) := by decide +kernel
theorem dc_Ix_provide_164 : decode cd_Ix_provide 164 = .ok (.aload_n 2, 1) := by decide +kernel
theorem dc_Ix_provide_165 : decode cd_Ix_provide 165 = .ok (.iload_n 3, 1) := by decide +kernel
theorem dc_Ix_provide_166 : decode cd_Ix_provide 166 = .ok (.iload 4, 2) := by decide +kernel
theorem dc_Ix_provide_168 : decode cd_Ix_provide 168 = .ok (.invokevirtual 77, 3) := by decide +kernel
theorem dc_Ix_provide_171 : decode cd_Ix_provide 171 = .ok (.aload_n 0, 1) := by decide +kernel
theorem dc_Ix_provide_172 : decode cd_Ix_provide 172 = .ok (.getfield 28, 3) := by decide +kernel
theorem dc_Ix_provide_175 : decode cd_Ix_provide 175 = .ok (.aload_n 0, 1) := by decide +kernel
theorem dc_Ix_provide_176 : decode cd_Ix_provide 176 = .ok (.getfield 34, 3) := by decide +kernel
theorem dc_Ix_provide_179 : decode cd_Ix_provide 179 = .ok (.aload_n 0, 1) := by decide +kernel
theorem dc_Ix_provide_180 : decode cd_Ix_provide 180 = .ok (.getfield 38, 3) := by decide +kernel
theorem dc_Ix_provide_183 : decode cd_Ix_provide 183 = .ok (.iastore, 1) := by decide +kernel
theorem dc_Ix_provide_184 : decode cd_Ix_provide 184 = .ok (.aload_n 0, 1) := by decide +kernel
theorem dc_Ix_provide_185 : decode cd_Ix_provide 185 = .ok (.dup, 1) := by decide +kernel
theorem dc_Ix_provide_186 : decode cd_Ix_provide 186 = .ok (.getfield 34, 3) := by decide +kernel
theorem dc_Ix_provide_189 : decode cd_Ix_provide 189 = .ok (.iconst 1, 1) := by decide +kernel
theorem dc_Ix_provide_190 : decode cd_Ix_provide 190 = .ok (.iadd, 1) := by decide +kernel
theorem dc_Ix_provide_191 : decode cd_Ix_provide 191 = .ok (.putfield 34, 3) := by decide +kernel
theorem dc_Ix_provide_194 : decode cd_Ix_provide 194 = .ok (.aload_n 1, 1) := by decide +kernel
theorem dc_Ix_provide_195 : decode cd_Ix_provide 195 = .ok (.aload_n 0, 1) := by decide +kernel
theorem dc_Ix_provide_196 : decode cd_Ix_provide 196 = .ok (.getfield 25, 3) := by decide +kernel
theorem dc_Ix_provide_199 : decode cd_Ix_provide 199 = .ok (.iload 5, 2) := by decide +kernel
theorem dc_Ix_provide_201 : decode cd_Ix_provide 201 = .ok (.iaload, 1) := by decide +kernel
theorem dc_Ix_provide_202 : decode cd_Ix_provide 202 = .ok (.putfield 81, 3) := by decide +kernel
theorem dc_Ix_provide_205 : decode cd_Ix_provide 205 = .ok (.aload_n 1, 1) := by decide +kernel
theorem dc_Ix_provide_206 : decode cd_Ix_provide 206 = .ok (.aload_n 0, 1) := by decide +kernel
theorem dc_Ix_provide_207 : decode cd_Ix_provide 207 = .ok (.getfield 28, 3) := by decide +kernel
theorem dc_Ix_provide_210 : decode cd_Ix_provide 210 = .ok (.iload 5, 2) := by decide +kernel
theorem dc_Ix_provide_212 : decode cd_Ix_provide 212 = .ok (.iaload, 1) := by decide +kernel
theorem dc_Ix_provide_213 : decode cd_Ix_provide 213 = .ok (.putfield 84, 3) := by decide +kernel
theorem dc_Ix_provide_216 : decode cd_Ix_provide 216 = .ok (.return_, 1) := by decide +kernel
theorem dc_Ix_seek_0 : decode cd_Ix_seek 0 = .ok (.iload_n 1, 1) := by decide +kernel
theorem dc_Ix_seek_1 : decode cd_Ix_seek 1 = .ok (.istore 5, 2) := by decide +kernel
theorem dc_Ix_seek_3 : decode cd_Ix_seek 3 = .ok (.iload_n 2, 1) := by decide +kernel
theorem dc_Ix_seek_4 : decode cd_Ix_seek 4 = .ok (.istore 6, 2) := by decide +kernel
theorem dc_Ix_seek_6 : decode cd_Ix_seek 6 = .ok (.iload 5, 2) := by decide +kernel
theorem dc_Ix_seek_8 : decode cd_Ix_seek 8 = .ok (.iload 6, 2) := by decide +kernel
theorem dc_Ix_seek_10 : decode cd_Ix_seek 10 = .ok (.if_icmp .ge 40, 3) := by decide +kernel
theorem dc_Ix_seek_13 : decode cd_Ix_seek 13 = .ok (.iload 5, 2) := by decide +kernel
theorem dc_Ix_seek_15 : decode cd_Ix_seek 15 = .ok (.iload 6, 2) := by decide +kernel
theorem dc_Ix_seek_17 : decode cd_Ix_seek 17 = .ok (.iadd, 1) := by decide +kernel
theorem dc_Ix_seek_18 : decode cd_Ix_seek 18 = .ok (.iconst 1, 1) := by decide +kernel
theorem dc_Ix_seek_19 : decode cd_Ix_seek 19 = .ok (.iushr, 1) := by decide +kernel
theorem dc_Ix_seek_20 : decode cd_Ix_seek 20 = .ok (.istore 7, 2) := by decide +kernel
theorem dc_Ix_seek_22 : decode cd_Ix_seek 22 = .ok (.aload_n 0, 1) := by decide +kernel
theorem dc_Ix_seek_23 : decode cd_Ix_seek 23 = .ok (.getfield 31, 3) := by decide +kernel
theorem dc_Ix_seek_26 : decode cd_Ix_seek 26 = .ok (.iload 7, 2) := by decide +kernel
theorem dc_Ix_seek_28 : decode cd_Ix_seek 28 = .ok (.laload, 1) := by decide +kernel
theorem dc_Ix_seek_29 : decode cd_Ix_seek 29 = .ok (.lload_n 3, 1) := by decide +kernel
theorem dc_Ix_seek_30 : decode cd_Ix_seek 30 = .ok (.lcmp, 1) := by decide +kernel
theorem dc_Ix_seek_31 : decode cd_Ix_seek 31 = .ok (.ifCond .ge 12, 3) := by decide +kernel
theorem dc_Ix_seek_34 : decode cd_Ix_seek 34 = .ok (.iload 7, 2) := by decide +kernel
theorem dc_Ix_seek_36 : decode cd_Ix_seek 36 = .ok (.iconst 1, 1) := by decide +kernel
theorem dc_Ix_seek_37 : decode cd_Ix_seek 37 = .ok (.iadd, 1) := by decide +kernel
theorem dc_Ix_seek_38 : decode cd_Ix_seek 38 = .ok (.istore 5, 2) := by decide +kernel
theorem dc_Ix_seek_40 : decode cd_Ix_seek 40 = .ok (.goto 7, 3) := by decide +kernel
theorem dc_Ix_seek_43 : decode cd_Ix_seek 43 = .ok (.iload 7, 2) := by decide +kernel
theorem dc_Ix_seek_45 : decode cd_Ix_seek 45 = .ok (.istore 6, 2) := by decide +kernel
theorem dc_Ix_seek_47 : decode cd_Ix_seek 47 = .ok (.goto (-41), 3) := by decide +kernel
theorem dc_Ix_seek_50 : decode cd_Ix_seek 50 = .ok (.iload 5, 2) := by decide +kernel
theorem dc_Ix_seek_52 : decode cd_Ix_seek 52 = .ok (.ireturn, 1) := by decide +kernel
theorem dc_Ix_at_0 : decode cd_Ix_at 0 = .ok (.aload_n 0, 1) := by decide +kernel
theorem dc_Ix_at_1 : decode cd_Ix_at 1 = .ok (.getfield 31, 3) := by decide +kernel
theorem dc_Ix_at_4 : decode cd_Ix_at 4 = .ok (.iload_n 1, 1) := by decide +kernel
theorem dc_Ix_at_5 : decode cd_Ix_at 5 = .ok (.laload, 1) := by decide +kernel
theorem dc_Ix_at_6 : decode cd_Ix_at 6 = .ok (.lreturn, 1) := by decide +kernel
def lw_met_Ro_open_17 (post : (Int32 × Int32 × Int32 × (Nat → Int32)) → Prop) (a0 : Int32) (a1 : Int32) : Nat → (Int32 × Int32 × (Nat → Int32)) → Prop
  | 0, _ => False
  | n1_ + 1, (v2, v3, v4) => ((a0 ≤ v2 → (post ((0 : Int32), v3, (0 : Int32), v4))) ∧ (¬ (a0 ≤ v2) → (∀ y5 : Int32, y5 = a1 >>> (v2 &&& 31) → (∀ y6 : Int32, y6 = y5 &&& (1 : Int32) → (((y6 = 0 → (vp_in v3 12 ∧ (∀ g8 : Nat → Int32, g8 = upd v4 v3.toNatClampNeg v2 → (∀ y9 : Int32, y9 = v3 + (1 : Int32) → (lw_met_Ro_open_17 post a0 a1 n1_ ((v2 + 1), y9, g8)))))) ∧ (¬ (y6 = 0) → (lw_met_Ro_open_17 post a0 a1 n1_ ((v2 + 1), v3, v4)))))))))
def wp_met_Ro_open (post : (Int32 × Int32 × Int32 × (Nat → Int32)) → Prop) (a0 : Int32) (a1 : Int32) (F_variables : Nat → Int32) : Prop := ∃ n9 : Nat, lw_met_Ro_open_17 post a0 a1 n9 ((0 : Int32), (0 : Int32), F_variables)
set_option maxHeartbeats 4000000 in
set_option maxRecDepth 100000 in
theorem met_Ro_open (l : Launch) (dC : Nat → ClassId) (dI : Nat → Nat → Nat) (h0 : Nat) (left_ : Nat) (right_ : Nat) (variables_ : Nat) (a0 : Int32) (a1 : Int32) (size_ : Int32) (width_ : Int32) (full_ : Int32) (F_variables : Nat → Int32) (k_variables : ClassId) (sz : Nat) {post : (Int32 × Int32 × Int32 × (Nat → Int32)) → Prop} (hw : wp_met_Ro_open post a0 a1 F_variables) : Met l my_Ro_open (Cond.code my_Ro_open cd_Ro_open 4 none :: tblG) ({ frames := 0, cells := 0, slots := 0, locals := 0 }) (va_Pc [.ref h0, .int a0, .int a1] (fun U => U.heap.size = sz ∧ va_P (dC, dI) vwCl [(h0, .inr (9, [.int size_, .int width_, .int full_, .ref left_, .ref right_, .ref variables_])), (variables_, .inl (k_variables, 12, .inl F_variables))] U.heap ∧ va_K (dC, dI) vwCl [(k_variables, .int)] U ∧ va_D (fun _ => True) [(h0, .inr (9, [.int size_, .int width_, .int full_, .ref left_, .ref right_, .ref variables_])), (variables_, .inl (k_variables, 12, .inl F_variables))])) (va_Qv post (fun (u : Int32 × Int32 × Int32 × (Nat → Int32)) (t : State) => match u with | (o0, o1, o2, o3) => va_P (dC, dI) vwCl [(h0, .inr (9, [.int o0, .int o1, .int o2, .ref left_, .ref right_, .ref variables_])), (variables_, .inl (k_variables, 12, .inl o3))] t.heap ∧ va_K (dC, dI) vwCl [(k_variables, .int)] t ∧ va_D (va_A [(h0, .inr (9, [.int size_, .int width_, .int full_, .ref left_, .ref right_, .ref variables_])), (variables_, .inl (k_variables, 12, .inl F_variables))] sz) [(h0, .inr (9, [.int o0, .int o1, .int o2, .ref left_, .ref right_, .ref variables_])), (variables_, .inl (k_variables, 12, .inl o3))]) (va_A [(h0, .inr (9, [.int size_, .int width_, .int full_, .ref left_, .ref right_, .ref variables_])), (variables_, .inl (k_variables, 12, .inl F_variables))] sz)) 0 0 (va_A [(h0, .inr (9, [.int size_, .int width_, .int full_, .ref left_, .ref right_, .ref variables_])), (variables_, .inl (k_variables, 12, .inl F_variables))] sz) := by
  refine Met.ofW (cc := cd_Ro_open) (maxL := 4) (ret := none) (by decide) rfl ?_
  intro p e s m args below meth c s₁ B hml hv
  obtain ⟨rfl, hsz, hP, hK, hD0⟩ := hv
  have hx := B.exec
  have hb := B.bytes
  have hr := B.returns
  have hT : ∀ w ∈ tblG, w.before _ s = true := fun w h => atoms_spec (ws := (Cond.code my_Ro_open cd_Ro_open 4 none :: tblG)) B.pre w (List.mem_cons_of_mem _ h)
  have hown : s.vm.findClass "StrataBase$Rows" = some m.cls := findClass_of_methodNamed B.named
  have hlocks := B.notSynchronized
  subst hsz
  have hD := hD0.self (sz := s.heap.size)
  generalize hAe : va_A [(h0, .inr (9, [.int size_, .int width_, .int full_, .ref left_, .ref right_, .ref variables_])), (variables_, .inl (k_variables, 12, .inl F_variables))] s.heap.size = A at hD ⊢
  have hA : ∀ q : Nat, s.heap.size ≤ q → A q := fun q h => by rw [← hAe]; exact Or.inr h
  have hS : va_S A s.heap s.heap [] := va_S.rf
  have hl := lv_entry ([.ref h0, .int a0, .int a1]) (n := 4) (Nat.le_of_ble_eq_true rfl)
  rw [lg_entry_eq]
  generalize (lg_sl ([.ref h0, .int a0, .int a1]) ++ List.replicate (4 - (lg_sl ([.ref h0, .int a0, .int a1])).length) Slot.unset).toArray = ls at hl ⊢
  have hl : lv_has ls 4 [(0, .ref h0), (1, .int a0), (2, .int a1)] := hl
  unfold wp_met_Ro_open at hw
  refine lv_aload_n hx hb dc_Ro_open_0 rfl (lv_at hl 0 rfl) ?_
  refine lv_iconst (v := 0) hx hb dc_Ro_open_1 (by decide) ?_
  refine va_put (D := (dC, dI)) (ci := 9) (v := .int 0) (ty := .int) (C := "StrataBase$Rows") (T := tb_Ro) (N := 6) hx hb hT in_Ro ty_Ro tk_Ro nm_Ro hown hK hP hD hS 0 rfl rfl 0 (by decide) (hT _ wd_494) (fun _ h9 => h9) rfl (by decide +kernel) rfl rfl (Nat.le_of_ble_eq_true rfl) dc_Ro_open_2 (fun H locs hP hD hS => ?_)
  have hP : va_P (dC, dI) vwCl [(h0, .inr (9, [.int 0, .int width_, .int full_, .ref left_, .ref right_, .ref variables_])), (variables_, .inl (k_variables, 12, .inl F_variables))] H := hP
  have hD : va_D A [(h0, .inr (9, [.int 0, .int width_, .int full_, .ref left_, .ref right_, .ref variables_])), (variables_, .inl (k_variables, 12, .inl F_variables))] := hD
  refine lv_aload_n hx hb dc_Ro_open_5 rfl (lv_at hl 0 rfl) ?_
  refine lv_iconst (v := 0) hx hb dc_Ro_open_6 (by decide) ?_
  refine va_put (D := (dC, dI)) (ci := 9) (v := .int 0) (ty := .int) (C := "StrataBase$Rows") (T := tb_Ro) (N := 6) hx hb hT in_Ro ty_Ro tk_Ro nm_Ro hown hK hP hD hS 0 rfl rfl 1 (by decide) (hT _ wd_496) (fun _ h9 => h9) rfl (by decide +kernel) rfl rfl (Nat.le_of_ble_eq_true rfl) dc_Ro_open_7 (fun H locs hP hD hS => ?_)
  have hP : va_P (dC, dI) vwCl [(h0, .inr (9, [.int 0, .int 0, .int full_, .ref left_, .ref right_, .ref variables_])), (variables_, .inl (k_variables, 12, .inl F_variables))] H := hP
  have hD : va_D A [(h0, .inr (9, [.int 0, .int 0, .int full_, .ref left_, .ref right_, .ref variables_])), (variables_, .inl (k_variables, 12, .inl F_variables))] := hD
  refine lv_aload_n hx hb dc_Ro_open_10 rfl (lv_at hl 0 rfl) ?_
  refine lv_iconst (v := 0) hx hb dc_Ro_open_11 (by decide) ?_
  refine va_put (D := (dC, dI)) (ci := 9) (v := .int 0) (ty := .boolean) (C := "StrataBase$Rows") (T := tb_Ro) (N := 6) hx hb hT in_Ro ty_Ro tk_Ro nm_Ro hown hK hP hD hS 0 rfl rfl 2 (by decide) (hT _ wd_498) (fun _ h9 => h9) rfl (by decide +kernel) (by decide) (by decide) (Nat.le_of_ble_eq_true rfl) dc_Ro_open_12 (fun H locs hP hD hS => ?_)
  have hP : va_P (dC, dI) vwCl [(h0, .inr (9, [.int 0, .int 0, .int 0, .ref left_, .ref right_, .ref variables_])), (variables_, .inl (k_variables, 12, .inl F_variables))] H := hP
  have hD : va_D A [(h0, .inr (9, [.int 0, .int 0, .int 0, .ref left_, .ref right_, .ref variables_])), (variables_, .inl (k_variables, 12, .inl F_variables))] := hD
  refine lv_iconst (v := 0) hx hb dc_Ro_open_15 (by decide) ?_
  refine lv_istore_n (lv' := [(3, .int 0), (0, .ref h0), (1, .int a0), (2, .int a1)]) hx hb dc_Ro_open_16 rfl hl (by decide) rfl (fun ls hl => ?_)
  obtain ⟨n9, hw⟩ := hw
  refine lp_fuel (σ := Int32 × Int32 × (Nat → Int32)) _ (fun x9 H locs ls => match x9 with | (v2, v3, v4) => va_K (dC, dI) vwCl [(k_variables, .int)] s ∧ va_P (dC, dI) vwCl [(h0, .inr (9, [.int 0, .int v3, .int 0, .ref left_, .ref right_, .ref variables_])), (variables_, .inl (k_variables, 12, .inl v4))] H ∧ va_D A [(h0, .inr (9, [.int 0, .int v3, .int 0, .ref left_, .ref right_, .ref variables_])), (variables_, .inl (k_variables, 12, .inl v4))] ∧ va_S A s.heap H locs ∧ lv_has ls 4 [(3, .int v2), (0, .ref h0), (1, .int a0), (2, .int a1)]) (fun x9 h9 => by simp only [lw_met_Ro_open_17] at h9) ?_ hw ⟨hK.sub [0] rfl, hP.sub [0, 1] rfl, hD.sub [0, 1] (by decide) rfl, hS, lv_sub hl [0, 1, 2, 3] rfl⟩
  intro n1_ x9 hw ih1 H locs ls hI
  obtain ⟨v2, v3, v4⟩ := x9
  obtain ⟨hK, hP, hD, hS, hl⟩ := hI
  unfold lw_met_Ro_open_17 at hw
  refine lv_iload_n hx hb dc_Ro_open_17 rfl (lv_at hl 0 rfl) ?_
  refine lv_iload_n hx hb dc_Ro_open_18 rfl (lv_at hl 2 rfl) ?_
  refine lv_icmp_ge (tgt := 56) hx hb dc_Ro_open_19 (by decide) (fun h19 => ?_) (fun h19 => ?_)
  · have hw := hw.1 h19
    refine W.widen (k := 0) (n := 0) (Nat.le_of_ble_eq_true rfl) (Nat.le_of_ble_eq_true rfl) ?_
    exact W.vret hx hb hr (fun t ht hW => ⟨⟨((0 : Int32), v3, (0 : Int32), v4), rfl, hw, by rw [ht]; exact hP, va_K.moved hW.alike hK, hD⟩, hS.F ht⟩) hS.2.2 dc_Ro_open_56
  · have hw := hw.2 h19
    refine lv_iload_n hx hb dc_Ro_open_22 rfl (lv_at hl 3 rfl) ?_
    refine lv_iload_n hx hb dc_Ro_open_23 rfl (lv_at hl 0 rfl) ?_
    refine lv_ishr hx hb dc_Ro_open_24 ?_
    refine lv_topi (fun y5 ey5 => ?_)
    have hw := hw y5 ey5
    refine lv_iconst (v := 1) hx hb dc_Ro_open_25 (by decide) ?_
    refine lv_iand hx hb dc_Ro_open_26 ?_
    refine lv_topi (fun y6 ey6 => ?_)
    have hw := hw y6 ey6
    refine lv_if_ne (tgt := 50) hx hb dc_Ro_open_27 (by decide) (fun h27 => ?_) (fun h27 => ?_)
    · have hw := hw.2 h27
      refine lv_iinc (k := 0) (v := v2 + 1) (lv' := [(3, .int (v2 + 1)), (0, .ref h0), (1, .int a0), (2, .int a1)]) hx hb dc_Ro_open_50 hl rfl rfl (by decide) rfl (fun ls hl => ?_)
      refine lv_goto (tgt := 17) hx hb dc_Ro_open_53 (by decide) ?_
      exact ih1 ((v2 + 1), v3, v4) hw _ _ _ ⟨hK.sub [0] rfl, hP.sub [0, 1] rfl, hD.sub [0, 1] (by decide) rfl, hS, lv_sub hl [0, 1, 2, 3] rfl⟩
    · have hw := hw.1 h27
      refine lv_aload_n hx hb dc_Ro_open_30 rfl (lv_at hl 1 rfl) ?_
      refine va_get (D := (dC, dI)) (ci := 9) (v := .ref variables_) (C := "StrataBase$Rows") (T := tb_Ro) (N := 6) hx hb hT in_Ro hown hK hP 0 rfl rfl 5 (by decide) (hT _ wd_503) (fun _ h9 => h9) rfl dc_Ro_open_31 ?_
      refine lv_aload_n hx hb dc_Ro_open_34 rfl (lv_at hl 1 rfl) ?_
      refine va_get (D := (dC, dI)) (ci := 9) (v := .int v3) (C := "StrataBase$Rows") (T := tb_Ro) (N := 6) hx hb hT in_Ro hown hK hP 0 rfl rfl 1 (by decide) (hT _ wd_496) (fun _ h9 => h9) rfl dc_Ro_open_35 ?_
      refine lv_iload_n hx hb dc_Ro_open_38 rfl (lv_at hl 0 rfl) ?_
      obtain ⟨hv7, hw⟩ := hw
      refine va_iast hx hb hK hP hD hS 1 0 rfl rfl hv7 dc_Ro_open_39 (fun H locs hP hD hS => ?_)
      have hP : va_P (dC, dI) vwCl [(h0, .inr (9, [.int 0, .int v3, .int 0, .ref left_, .ref right_, .ref variables_])), (variables_, .inl (k_variables, 12, .inl (upd v4 v3.toNatClampNeg v2)))] H := hP
      have hD : va_D A [(h0, .inr (9, [.int 0, .int v3, .int 0, .ref left_, .ref right_, .ref variables_])), (variables_, .inl (k_variables, 12, .inl (upd v4 v3.toNatClampNeg v2)))] := hD
      obtain ⟨g8, eg8⟩ : ∃ z9 : Nat → Int32, z9 = upd v4 v3.toNatClampNeg v2 := ⟨_, rfl⟩
      rw [← eg8] at hP hD
      have hw := hw g8 eg8
      refine lv_aload_n hx hb dc_Ro_open_40 rfl (lv_at hl 1 rfl) ?_
      refine lv_dup hx hb dc_Ro_open_41 rfl ?_
      refine va_get (D := (dC, dI)) (ci := 9) (v := .int v3) (C := "StrataBase$Rows") (T := tb_Ro) (N := 6) hx hb hT in_Ro hown hK hP 0 rfl rfl 1 (by decide) (hT _ wd_496) (fun _ h9 => h9) rfl dc_Ro_open_42 ?_
      refine lv_iconst (v := 1) hx hb dc_Ro_open_45 (by decide) ?_
      refine lv_iadd hx hb dc_Ro_open_46 ?_
      refine lv_topi (fun y9 ey9 => ?_)
      have hw := hw y9 ey9
      refine va_put (D := (dC, dI)) (ci := 9) (v := .int y9) (ty := .int) (C := "StrataBase$Rows") (T := tb_Ro) (N := 6) hx hb hT in_Ro ty_Ro tk_Ro nm_Ro hown hK hP hD hS 0 rfl rfl 1 (by decide) (hT _ wd_496) (fun _ h9 => h9) rfl (by decide +kernel) rfl rfl (Nat.le_of_ble_eq_true rfl) dc_Ro_open_47 (fun H locs hP hD hS => ?_)
      have hP : va_P (dC, dI) vwCl [(h0, .inr (9, [.int 0, .int y9, .int 0, .ref left_, .ref right_, .ref variables_])), (variables_, .inl (k_variables, 12, .inl g8))] H := hP
      have hD : va_D A [(h0, .inr (9, [.int 0, .int y9, .int 0, .ref left_, .ref right_, .ref variables_])), (variables_, .inl (k_variables, 12, .inl g8))] := hD
      refine lv_iinc (k := 0) (v := v2 + 1) (lv' := [(3, .int (v2 + 1)), (0, .ref h0), (1, .int a0), (2, .int a1)]) hx hb dc_Ro_open_50 hl rfl rfl (by decide) rfl (fun ls hl => ?_)
      refine lv_goto (tgt := 17) hx hb dc_Ro_open_53 (by decide) ?_
      exact ih1 ((v2 + 1), y9, g8) hw _ _ _ ⟨hK.sub [0] rfl, hP.sub [0, 1] rfl, hD.sub [0, 1] (by decide) rfl, hS, lv_sub hl [0, 1, 2, 3] rfl⟩

def lw_met_Ro_keyOf_5 (post : Int64 → Unit → Prop) (width_ : Int32) (a1 : Int32) (F_variables : Nat → Int32) (n_a0 : Nat) (F_a0 : Nat → Int32) : Nat → (Int32 × Int64) → Prop
  | 0, _ => False
  | n1_ + 1, (v2, v3) => ((width_ ≤ v2 → (post v3 ())) ∧ (¬ (width_ ≤ v2) → (∀ y4 : Int32, y4 = a1 + (6 : Int32) → (((y4 ≤ v2 → (post v3 ())) ∧ (¬ (y4 ≤ v2) → (vp_in v2 12 ∧ (∀ y6 : Int32, y6 = F_variables v2.toNatClampNeg → (vp_in y6 n_a0 ∧ (∀ y8 : Int32, y8 = F_a0 y6.toNatClampNeg → (∀ y9 : Int64, y9 = y8.toInt64 → (∀ y10 : Int32, y10 = v2 - a1 → (∀ y11 : Int32, y11 = (10 : Int32) * y10 → (∀ y12 : Int32, y12 = (50 : Int32) - y11 → (∀ y13 : Int64, y13 = y9 <<< (y12.toInt64 &&& 63) → (∀ y14 : Int64, y14 = v3 ||| y13 → (lw_met_Ro_keyOf_5 post width_ a1 F_variables n_a0 F_a0 n1_ ((v2 + 1), y14))))))))))))))))))
def wp_met_Ro_keyOf (post : Int64 → Unit → Prop) (n_a0 : Nat) (a1 : Int32) (width_ : Int32) (F_variables : Nat → Int32) (F_a0 : Nat → Int32) : Prop := ∃ n9 : Nat, lw_met_Ro_keyOf_5 post width_ a1 F_variables n_a0 F_a0 n9 (a1, (0 : Int64))
set_option maxHeartbeats 4000000 in
set_option maxRecDepth 100000 in
theorem met_Ro_keyOf (l : Launch) (dC : Nat → ClassId) (dI : Nat → Nat → Nat) (n_a0 : Nat) (h0 : Nat) (left_ : Nat) (right_ : Nat) (variables_ : Nat) (a0 : Nat) (a1 : Int32) (size_ : Int32) (width_ : Int32) (full_ : Int32) (F_variables : Nat → Int32) (F_a0 : Nat → Int32) (k_variables : ClassId) (k_a0 : ClassId) (sz : Nat) {post : Int64 → Unit → Prop} (hw : wp_met_Ro_keyOf post n_a0 a1 width_ F_variables F_a0) : Met l my_Ro_keyOf (Cond.code my_Ro_keyOf cd_Ro_keyOf 6 (some (.long)) :: tblG) ({ frames := 0, cells := 0, slots := 0, locals := 0 }) (va_Pc [.ref h0, .ref a0, .int a1] (fun U => U.heap.size = sz ∧ va_P (dC, dI) vwCl [(h0, .inr (9, [.int size_, .int width_, .int full_, .ref left_, .ref right_, .ref variables_])), (variables_, .inl (k_variables, 12, .inl F_variables)), (a0, .inl (k_a0, n_a0, .inl F_a0))] U.heap ∧ va_K (dC, dI) vwCl [(k_variables, .int), (k_a0, .int)] U ∧ va_D (fun _ => True) [(h0, .inr (9, [.int size_, .int width_, .int full_, .ref left_, .ref right_, .ref variables_])), (variables_, .inl (k_variables, 12, .inl F_variables)), (a0, .inl (k_a0, n_a0, .inl F_a0))])) (va_Ql post (fun (u : Unit) (t : State) => va_P (dC, dI) vwCl [(h0, .inr (9, [.int size_, .int width_, .int full_, .ref left_, .ref right_, .ref variables_])), (variables_, .inl (k_variables, 12, .inl F_variables)), (a0, .inl (k_a0, n_a0, .inl F_a0))] t.heap ∧ va_K (dC, dI) vwCl [(k_variables, .int), (k_a0, .int)] t ∧ va_D (va_A [(h0, .inr (9, [.int size_, .int width_, .int full_, .ref left_, .ref right_, .ref variables_])), (variables_, .inl (k_variables, 12, .inl F_variables)), (a0, .inl (k_a0, n_a0, .inl F_a0))] sz) [(h0, .inr (9, [.int size_, .int width_, .int full_, .ref left_, .ref right_, .ref variables_])), (variables_, .inl (k_variables, 12, .inl F_variables)), (a0, .inl (k_a0, n_a0, .inl F_a0))]) (va_A [(h0, .inr (9, [.int size_, .int width_, .int full_, .ref left_, .ref right_, .ref variables_])), (variables_, .inl (k_variables, 12, .inl F_variables)), (a0, .inl (k_a0, n_a0, .inl F_a0))] sz)) 0 0 (va_A [(h0, .inr (9, [.int size_, .int width_, .int full_, .ref left_, .ref right_, .ref variables_])), (variables_, .inl (k_variables, 12, .inl F_variables)), (a0, .inl (k_a0, n_a0, .inl F_a0))] sz) := by
  refine Met.ofW (cc := cd_Ro_keyOf) (maxL := 6) (ret := (some (.long))) (by decide) rfl ?_
  intro p e s m args below meth c s₁ B hml hv
  obtain ⟨rfl, hsz, hP, hK, hD0⟩ := hv
  have hx := B.exec
  have hb := B.bytes
  have hr := B.returns
  have hT : ∀ w ∈ tblG, w.before _ s = true := fun w h => atoms_spec (ws := (Cond.code my_Ro_keyOf cd_Ro_keyOf 6 (some (.long)) :: tblG)) B.pre w (List.mem_cons_of_mem _ h)
  have hown : s.vm.findClass "StrataBase$Rows" = some m.cls := findClass_of_methodNamed B.named
  have hlocks := B.notSynchronized
  subst hsz
  have hD := hD0.self (sz := s.heap.size)
  generalize hAe : va_A [(h0, .inr (9, [.int size_, .int width_, .int full_, .ref left_, .ref right_, .ref variables_])), (variables_, .inl (k_variables, 12, .inl F_variables)), (a0, .inl (k_a0, n_a0, .inl F_a0))] s.heap.size = A at hD ⊢
  have hA : ∀ q : Nat, s.heap.size ≤ q → A q := fun q h => by rw [← hAe]; exact Or.inr h
  have hS : va_S A s.heap s.heap [] := va_S.rf
  have hl := lv_entry ([.ref h0, .ref a0, .int a1]) (n := 6) (Nat.le_of_ble_eq_true rfl)
  rw [lg_entry_eq]
  generalize (lg_sl ([.ref h0, .ref a0, .int a1]) ++ List.replicate (6 - (lg_sl ([.ref h0, .ref a0, .int a1])).length) Slot.unset).toArray = ls at hl ⊢
  have hl : lv_has ls 6 [(0, .ref h0), (1, .ref a0), (2, .int a1)] := hl
  unfold wp_met_Ro_keyOf at hw
  refine lv_lconst (v := 0) hx hb dc_Ro_keyOf_0 rfl ?_
  refine lv_lstore_n (lv' := [(3, .long 0), (0, .ref h0), (1, .ref a0), (2, .int a1)]) hx hb dc_Ro_keyOf_1 rfl hl (by decide) rfl (fun ls hl => ?_)
  refine lv_iload_n hx hb dc_Ro_keyOf_2 rfl (lv_at hl 3 rfl) ?_
  refine lv_istore (lv' := [(5, .int a1), (3, .long 0), (0, .ref h0), (1, .ref a0), (2, .int a1)]) hx hb dc_Ro_keyOf_3 hl (by decide) rfl (fun ls hl => ?_)
  obtain ⟨n9, hw⟩ := hw
  refine lp_fuel (σ := Int32 × Int64) _ (fun x9 H locs ls => match x9 with | (v2, v3) => va_K (dC, dI) vwCl [(k_variables, .int), (k_a0, .int)] s ∧ va_P (dC, dI) vwCl [(h0, .inr (9, [.int size_, .int width_, .int full_, .ref left_, .ref right_, .ref variables_])), (variables_, .inl (k_variables, 12, .inl F_variables)), (a0, .inl (k_a0, n_a0, .inl F_a0))] H ∧ va_D A [(h0, .inr (9, [.int size_, .int width_, .int full_, .ref left_, .ref right_, .ref variables_])), (variables_, .inl (k_variables, 12, .inl F_variables)), (a0, .inl (k_a0, n_a0, .inl F_a0))] ∧ va_S A s.heap H locs ∧ lv_has ls 6 [(5, .int v2), (3, .long v3), (0, .ref h0), (1, .ref a0), (2, .int a1)]) (fun x9 h9 => by simp only [lw_met_Ro_keyOf_5] at h9) ?_ hw ⟨hK.sub [0, 1] rfl, hP.sub [0, 1, 2] rfl, hD.sub [0, 1, 2] (by decide) rfl, hS, lv_sub hl [0, 1, 2, 3, 4] rfl⟩
  intro n1_ x9 hw ih1 H locs ls hI
  obtain ⟨v2, v3⟩ := x9
  obtain ⟨hK, hP, hD, hS, hl⟩ := hI
  unfold lw_met_Ro_keyOf_5 at hw
  refine lv_iload hx hb dc_Ro_keyOf_5 (lv_at hl 0 rfl) ?_
  refine lv_aload_n hx hb dc_Ro_keyOf_7 rfl (lv_at hl 2 rfl) ?_
  refine va_get (D := (dC, dI)) (ci := 9) (v := .int width_) (C := "StrataBase$Rows") (T := tb_Ro) (N := 6) hx hb hT in_Ro hown hK hP 0 rfl rfl 1 (by decide) (hT _ wd_496) (fun _ h9 => h9) rfl dc_Ro_keyOf_8 ?_
  refine lv_icmp_ge (tgt := 53) hx hb dc_Ro_keyOf_11 (by decide) (fun h11 => ?_) (fun h11 => ?_)
  · have hw := hw.1 h11
    refine lv_lload_n hx hb dc_Ro_keyOf_53 rfl (lv_at hl 1 rfl) ?_
    refine W.widen (k := 0) (n := 0) (Nat.le_of_ble_eq_true rfl) (Nat.le_of_ble_eq_true rfl) ?_
    exact W.lret (v := v3) hx hb hr (fun t ht hW => ⟨⟨v3, (), rfl, hw, by rw [ht]; exact hP, va_K.moved hW.alike hK, hD⟩, hS.F ht⟩) hS.2.2 dc_Ro_keyOf_54
  · have hw := hw.2 h11
    refine lv_iload hx hb dc_Ro_keyOf_14 (lv_at hl 0 rfl) ?_
    refine lv_iload_n hx hb dc_Ro_keyOf_16 rfl (lv_at hl 4 rfl) ?_
    refine lv_bipush (v := 6) hx hb dc_Ro_keyOf_17 (by decide) ?_
    refine lv_iadd hx hb dc_Ro_keyOf_19 ?_
    refine lv_topi (fun y4 ey4 => ?_)
    have hw := hw y4 ey4
    refine lv_icmp_ge (tgt := 53) hx hb dc_Ro_keyOf_20 (by decide) (fun h20 => ?_) (fun h20 => ?_)
    · have hw := hw.1 h20
      refine lv_lload_n hx hb dc_Ro_keyOf_53 rfl (lv_at hl 1 rfl) ?_
      refine W.widen (k := 0) (n := 0) (Nat.le_of_ble_eq_true rfl) (Nat.le_of_ble_eq_true rfl) ?_
      exact W.lret (v := v3) hx hb hr (fun t ht hW => ⟨⟨v3, (), rfl, hw, by rw [ht]; exact hP, va_K.moved hW.alike hK, hD⟩, hS.F ht⟩) hS.2.2 dc_Ro_keyOf_54
    · have hw := hw.2 h20
      refine lv_lload_n hx hb dc_Ro_keyOf_23 rfl (lv_at hl 1 rfl) ?_
      refine lv_aload_n hx hb dc_Ro_keyOf_24 rfl (lv_at hl 3 rfl) ?_
      refine lv_aload_n hx hb dc_Ro_keyOf_25 rfl (lv_at hl 2 rfl) ?_
      refine va_get (D := (dC, dI)) (ci := 9) (v := .ref variables_) (C := "StrataBase$Rows") (T := tb_Ro) (N := 6) hx hb hT in_Ro hown hK hP 0 rfl rfl 5 (by decide) (hT _ wd_503) (fun _ h9 => h9) rfl dc_Ro_keyOf_26 ?_
      refine lv_iload hx hb dc_Ro_keyOf_29 (lv_at hl 0 rfl) ?_
      obtain ⟨hv5, hw⟩ := hw
      refine va_iald hx hb hK hP 1 0 rfl rfl hv5 dc_Ro_keyOf_31 ?_
      refine lv_topi (fun y6 ey6 => ?_)
      have hw := hw y6 ey6
      obtain ⟨hv7, hw⟩ := hw
      refine va_iald hx hb hK hP 2 1 rfl rfl hv7 dc_Ro_keyOf_32 ?_
      refine lv_topi (fun y8 ey8 => ?_)
      have hw := hw y8 ey8
      refine lv_i2l (v := y8.toInt64) hx hb dc_Ro_keyOf_33 rfl ?_
      refine lv_topl (fun y9 ey9 => ?_)
      have hw := hw y9 ey9
      refine lv_bipush (v := 50) hx hb dc_Ro_keyOf_34 (by decide) ?_
      refine lv_bipush (v := 10) hx hb dc_Ro_keyOf_36 (by decide) ?_
      refine lv_iload hx hb dc_Ro_keyOf_38 (lv_at hl 0 rfl) ?_
      refine lv_iload_n hx hb dc_Ro_keyOf_40 rfl (lv_at hl 4 rfl) ?_
      refine lv_isub hx hb dc_Ro_keyOf_41 ?_
      refine lv_topi (fun y10 ey10 => ?_)
      have hw := hw y10 ey10
      refine lv_imul hx hb dc_Ro_keyOf_42 ?_
      refine lv_topi (fun y11 ey11 => ?_)
      have hw := hw y11 ey11
      refine lv_isub hx hb dc_Ro_keyOf_43 ?_
      refine lv_topi (fun y12 ey12 => ?_)
      have hw := hw y12 ey12
      refine lv_lshl (v := y9 <<< (y12.toInt64 &&& 63)) hx hb dc_Ro_keyOf_44 rfl ?_
      refine lv_topl (fun y13 ey13 => ?_)
      have hw := hw y13 ey13
      refine lv_lor hx hb dc_Ro_keyOf_45 ?_
      refine lv_topl (fun y14 ey14 => ?_)
      have hw := hw y14 ey14
      refine lv_lstore_n (lv' := [(3, .long y14), (5, .int v2), (0, .ref h0), (1, .ref a0), (2, .int a1)]) hx hb dc_Ro_keyOf_46 rfl hl (by decide) rfl (fun ls hl => ?_)
      refine lv_iinc (k := 1) (v := v2 + 1) (lv' := [(5, .int (v2 + 1)), (3, .long y14), (0, .ref h0), (1, .ref a0), (2, .int a1)]) hx hb dc_Ro_keyOf_47 hl rfl rfl (by decide) rfl (fun ls hl => ?_)
      refine lv_goto (tgt := 5) hx hb dc_Ro_keyOf_50 (by decide) ?_
      exact ih1 ((v2 + 1), y14) hw _ _ _ ⟨hK.sub [0, 1] rfl, hP.sub [0, 1, 2] rfl, hD.sub [0, 1, 2] (by decide) rfl, hS, lv_sub hl [0, 1, 2, 3, 4] rfl⟩

def wp_met_Ro_add (post : (Int32 × Int32 × (Nat → Int64) × (Nat → Int64)) → Prop) (n_a0 : Nat) (size_ : Int32) (width_ : Int32) (full_ : Int32) (F_left : Nat → Int64) (F_right : Nat → Int64) (F_variables : Nat → Int32) (F_a0 : Nat → Int32) : Prop := ((size_ = (5000 : Int32) → (post (size_, (1 : Int32), F_left, F_right))) ∧ (¬ (size_ = (5000 : Int32)) → (wp_met_Ro_keyOf (fun (r1 : Int64) (_ : Unit) => (vp_in size_ 5000 ∧ (∀ g3 : Nat → Int64, g3 = vp_updL F_left size_.toNatClampNeg r1 → (wp_met_Ro_keyOf (fun (r4 : Int64) (_ : Unit) => (vp_in size_ 5000 ∧ (∀ g6 : Nat → Int64, g6 = vp_updL F_right size_.toNatClampNeg r4 → (∀ y7 : Int32, y7 = size_ + (1 : Int32) → (post (y7, full_, g3, g6)))))) n_a0 (6 : Int32) width_ F_variables F_a0)))) n_a0 (0 : Int32) width_ F_variables F_a0)))
set_option maxHeartbeats 4000000 in
set_option maxRecDepth 100000 in
theorem met_Ro_add (l : Launch) (dC : Nat → ClassId) (dI : Nat → Nat → Nat) (n_a0 : Nat) (h0 : Nat) (left_ : Nat) (right_ : Nat) (variables_ : Nat) (a0 : Nat) (size_ : Int32) (width_ : Int32) (full_ : Int32) (F_left : Nat → Int64) (F_right : Nat → Int64) (F_variables : Nat → Int32) (F_a0 : Nat → Int32) (k_left : ClassId) (k_right : ClassId) (k_variables : ClassId) (k_a0 : ClassId) (sz : Nat) {post : (Int32 × Int32 × (Nat → Int64) × (Nat → Int64)) → Prop} (hw : wp_met_Ro_add post n_a0 size_ width_ full_ F_left F_right F_variables F_a0) : Met l my_Ro_add (Cond.code my_Ro_add cd_Ro_add 2 none :: tblG) ({ frames := 1, cells := 0, slots := 0, locals := 25 }) (va_Pc [.ref h0, .ref a0] (fun U => U.heap.size = sz ∧ va_P (dC, dI) vwCl [(h0, .inr (9, [.int size_, .int width_, .int full_, .ref left_, .ref right_, .ref variables_])), (left_, .inl (k_left, 5000, .inr (.inl F_left))), (right_, .inl (k_right, 5000, .inr (.inl F_right))), (variables_, .inl (k_variables, 12, .inl F_variables)), (a0, .inl (k_a0, n_a0, .inl F_a0))] U.heap ∧ va_K (dC, dI) vwCl [(k_left, .long), (k_right, .long), (k_variables, .int), (k_a0, .int)] U ∧ va_D (fun _ => True) [(h0, .inr (9, [.int size_, .int width_, .int full_, .ref left_, .ref right_, .ref variables_])), (left_, .inl (k_left, 5000, .inr (.inl F_left))), (right_, .inl (k_right, 5000, .inr (.inl F_right))), (variables_, .inl (k_variables, 12, .inl F_variables)), (a0, .inl (k_a0, n_a0, .inl F_a0))])) (va_Qv post (fun (u : Int32 × Int32 × (Nat → Int64) × (Nat → Int64)) (t : State) => match u with | (o0, o1, o2, o3) => va_P (dC, dI) vwCl [(h0, .inr (9, [.int o0, .int width_, .int o1, .ref left_, .ref right_, .ref variables_])), (left_, .inl (k_left, 5000, .inr (.inl o2))), (right_, .inl (k_right, 5000, .inr (.inl o3))), (variables_, .inl (k_variables, 12, .inl F_variables)), (a0, .inl (k_a0, n_a0, .inl F_a0))] t.heap ∧ va_K (dC, dI) vwCl [(k_left, .long), (k_right, .long), (k_variables, .int), (k_a0, .int)] t ∧ va_D (va_A [(h0, .inr (9, [.int size_, .int width_, .int full_, .ref left_, .ref right_, .ref variables_])), (left_, .inl (k_left, 5000, .inr (.inl F_left))), (right_, .inl (k_right, 5000, .inr (.inl F_right))), (variables_, .inl (k_variables, 12, .inl F_variables)), (a0, .inl (k_a0, n_a0, .inl F_a0))] sz) [(h0, .inr (9, [.int o0, .int width_, .int o1, .ref left_, .ref right_, .ref variables_])), (left_, .inl (k_left, 5000, .inr (.inl o2))), (right_, .inl (k_right, 5000, .inr (.inl o3))), (variables_, .inl (k_variables, 12, .inl F_variables)), (a0, .inl (k_a0, n_a0, .inl F_a0))]) (va_A [(h0, .inr (9, [.int size_, .int width_, .int full_, .ref left_, .ref right_, .ref variables_])), (left_, .inl (k_left, 5000, .inr (.inl F_left))), (right_, .inl (k_right, 5000, .inr (.inl F_right))), (variables_, .inl (k_variables, 12, .inl F_variables)), (a0, .inl (k_a0, n_a0, .inl F_a0))] sz)) 0 0 (va_A [(h0, .inr (9, [.int size_, .int width_, .int full_, .ref left_, .ref right_, .ref variables_])), (left_, .inl (k_left, 5000, .inr (.inl F_left))), (right_, .inl (k_right, 5000, .inr (.inl F_right))), (variables_, .inl (k_variables, 12, .inl F_variables)), (a0, .inl (k_a0, n_a0, .inl F_a0))] sz) := by
  refine Met.ofW (cc := cd_Ro_add) (maxL := 2) (ret := none) (by decide) rfl ?_
  intro p e s m args below meth c s₁ B hml hv
  obtain ⟨rfl, hsz, hP, hK, hD0⟩ := hv
  have hx := B.exec
  have hb := B.bytes
  have hr := B.returns
  have hT : ∀ w ∈ tblG, w.before _ s = true := fun w h => atoms_spec (ws := (Cond.code my_Ro_add cd_Ro_add 2 none :: tblG)) B.pre w (List.mem_cons_of_mem _ h)
  have hown : s.vm.findClass "StrataBase$Rows" = some m.cls := findClass_of_methodNamed B.named
  have hlocks := B.notSynchronized
  subst hsz
  have hD := hD0.self (sz := s.heap.size)
  generalize hAe : va_A [(h0, .inr (9, [.int size_, .int width_, .int full_, .ref left_, .ref right_, .ref variables_])), (left_, .inl (k_left, 5000, .inr (.inl F_left))), (right_, .inl (k_right, 5000, .inr (.inl F_right))), (variables_, .inl (k_variables, 12, .inl F_variables)), (a0, .inl (k_a0, n_a0, .inl F_a0))] s.heap.size = A at hD ⊢
  have hA : ∀ q : Nat, s.heap.size ≤ q → A q := fun q h => by rw [← hAe]; exact Or.inr h
  have hS : va_S A s.heap s.heap [] := va_S.rf
  have hl := lv_entry ([.ref h0, .ref a0]) (n := 2) (Nat.le_of_ble_eq_true rfl)
  rw [lg_entry_eq]
  generalize (lg_sl ([.ref h0, .ref a0]) ++ List.replicate (2 - (lg_sl ([.ref h0, .ref a0])).length) Slot.unset).toArray = ls at hl ⊢
  have hl : lv_has ls 2 [(0, .ref h0), (1, .ref a0)] := hl
  unfold wp_met_Ro_add at hw
  refine lv_aload_n hx hb dc_Ro_add_0 rfl (lv_at hl 0 rfl) ?_
  refine va_get (D := (dC, dI)) (ci := 9) (v := .int size_) (C := "StrataBase$Rows") (T := tb_Ro) (N := 6) hx hb hT in_Ro hown hK hP 0 rfl rfl 0 (by decide) (hT _ wd_494) (fun _ h9 => h9) rfl dc_Ro_add_1 ?_
  refine lv_sipush (v := 5000) hx hb dc_Ro_add_4 (by decide) ?_
  refine lv_icmp_ne (tgt := 16) hx hb dc_Ro_add_7 (by decide) (fun h7 => ?_) (fun h7 => ?_)
  · have hw := hw.2 h7
    refine lv_aload_n hx hb dc_Ro_add_16 rfl (lv_at hl 0 rfl) ?_
    refine va_get (D := (dC, dI)) (ci := 9) (v := .ref left_) (C := "StrataBase$Rows") (T := tb_Ro) (N := 6) hx hb hT in_Ro hown hK hP 0 rfl rfl 3 (by decide) (hT _ wd_501) (fun _ h9 => h9) rfl dc_Ro_add_17 ?_
    refine lv_aload_n hx hb dc_Ro_add_20 rfl (lv_at hl 0 rfl) ?_
    refine va_get (D := (dC, dI)) (ci := 9) (v := .int size_) (C := "StrataBase$Rows") (T := tb_Ro) (N := 6) hx hb hT in_Ro hown hK hP 0 rfl rfl 0 (by decide) (hT _ wd_494) (fun _ h9 => h9) rfl dc_Ro_add_21 ?_
    refine lv_aload_n hx hb dc_Ro_add_24 rfl (lv_at hl 0 rfl) ?_
    refine lv_aload_n hx hb dc_Ro_add_25 rfl (lv_at hl 1 rfl) ?_
    refine lv_iconst (v := 0) hx hb dc_Ro_add_26 (by decide) ?_
    have hPc := hP.sub (ws' := [(h0, .inr (9, [.int size_, .int width_, .int full_, .ref left_, .ref right_, .ref variables_])), (variables_, .inl (k_variables, 12, .inl F_variables)), (a0, .inl (k_a0, n_a0, .inl F_a0))]) [0, 3, 4] rfl
    have hDc := hD.sub (ws' := [(h0, .inr (9, [.int size_, .int width_, .int full_, .ref left_, .ref right_, .ref variables_])), (variables_, .inl (k_variables, 12, .inl F_variables)), (a0, .inl (k_a0, n_a0, .inl F_a0))]) [0, 3, 4] (by decide) rfl
    have hKc := hK.sub (tys' := [(k_variables, .int), (k_a0, .int)]) [2, 3] rfl
    have hFc := va_free (wc := [(h0, .inr (9, [.int size_, .int width_, .int full_, .ref left_, .ref right_, .ref variables_])), (variables_, .inl (k_variables, 12, .inl F_variables)), (a0, .inl (k_a0, n_a0, .inl F_a0))]) hD hS hA [0, 3, 4] rfl
    refine va_calll (va_runV (As := [.ref a0, .int 0]) (rest := [.int size_, .ref left_]) ⟨hx, hb, hml, hown, hT⟩ (met_Ro_keyOf l dC dI n_a0 h0 left_ right_ variables_ a0 (0 : Int32) size_ width_ full_ F_variables F_a0 k_variables k_a0 s.heap.size hw) (cwV 2 hT (gd_V wd_1224 wd_1226 sl_Ro_keyOf wd_12 wd_1227) rfl rfl rfl (by decide +kernel) ⟨Nat.le_of_ble_eq_true rfl, Nat.le_of_ble_eq_true rfl⟩) ⟨fun a U g mk q => by obtain ⟨q0, q1, qP, qK, qD⟩ := q; exact ⟨q0, q1, qP, va_K.moved (u := U) (U := U.calling g mk a) (Vm.Alike.refl U.vm) qK, qD⟩, va_recv hK hP (q0 := 0) (ci := 9) rfl rfl, fun U hU hW => ⟨rfl, by rw [hU], by rw [hU]; exact hPc, va_K.moved hW.alike hKc, hDc.weaken (fun _ _ _ _ => trivial)⟩⟩ rfl rfl hl.1 rfl (lv_room (Nat.le_of_ble_eq_true rfl)) dc_Ro_add_27 ⟨(Nat.le_of_ble_eq_true rfl), (Nat.le_of_ble_eq_true rfl)⟩) hS (fun q _ h => hFc q h) hFc (fun r1 _ t H1 locs ht hvm hw hB hz1 hk1 hS => ?_)
    obtain ⟨hP1, hK1, hD1⟩ := hB
    rw [ht] at hP1
    have hK1 := va_K.moved hvm.symm hK1
    obtain ⟨hP, hD⟩ := va_join (wr := [(left_, .inl (k_left, 5000, .inr (.inl F_left))), (right_, .inl (k_right, 5000, .inr (.inl F_right)))]) (w1 := [(h0, .inr (9, [.int size_, .int width_, .int full_, .ref left_, .ref right_, .ref variables_])), (variables_, .inl (k_variables, 12, .inl F_variables)), (a0, .inl (k_a0, n_a0, .inl F_a0))]) hP hD [0, 3, 4] [1, 2] rfl rfl (by decide) (by decide) hk1 hFc hP1 hD1
    have hK := (hK.sub (tys' := [(k_left, .long), (k_right, .long)]) [0, 1] rfl).app hK1
    generalize H1 = H at hP hS ⊢
    have hP : va_P (dC, dI) vwCl [(left_, .inl (k_left, 5000, .inr (.inl F_left))), (right_, .inl (k_right, 5000, .inr (.inl F_right))), (h0, .inr (9, [.int size_, .int width_, .int full_, .ref left_, .ref right_, .ref variables_])), (variables_, .inl (k_variables, 12, .inl F_variables)), (a0, .inl (k_a0, n_a0, .inl F_a0))] H := hP
    have hD : va_D A [(left_, .inl (k_left, 5000, .inr (.inl F_left))), (right_, .inl (k_right, 5000, .inr (.inl F_right))), (h0, .inr (9, [.int size_, .int width_, .int full_, .ref left_, .ref right_, .ref variables_])), (variables_, .inl (k_variables, 12, .inl F_variables)), (a0, .inl (k_a0, n_a0, .inl F_a0))] := hD
    have hK : va_K (dC, dI) vwCl [(k_left, .long), (k_right, .long), (k_variables, .int), (k_a0, .int)] s := hK
    obtain ⟨hv2, hw⟩ := hw
    refine va_last hx hb hK hP hD hS 0 0 rfl rfl hv2 dc_Ro_add_30 (fun H locs hP hD hS => ?_)
    have hP : va_P (dC, dI) vwCl [(left_, .inl (k_left, 5000, .inr (.inl (vp_updL F_left size_.toNatClampNeg r1)))), (right_, .inl (k_right, 5000, .inr (.inl F_right))), (h0, .inr (9, [.int size_, .int width_, .int full_, .ref left_, .ref right_, .ref variables_])), (variables_, .inl (k_variables, 12, .inl F_variables)), (a0, .inl (k_a0, n_a0, .inl F_a0))] H := hP
    have hD : va_D A [(left_, .inl (k_left, 5000, .inr (.inl (vp_updL F_left size_.toNatClampNeg r1)))), (right_, .inl (k_right, 5000, .inr (.inl F_right))), (h0, .inr (9, [.int size_, .int width_, .int full_, .ref left_, .ref right_, .ref variables_])), (variables_, .inl (k_variables, 12, .inl F_variables)), (a0, .inl (k_a0, n_a0, .inl F_a0))] := hD
    obtain ⟨g3, eg3⟩ : ∃ z9 : Nat → Int64, z9 = vp_updL F_left size_.toNatClampNeg r1 := ⟨_, rfl⟩
    rw [← eg3] at hP hD
    have hw := hw g3 eg3
    refine lv_aload_n hx hb dc_Ro_add_31 rfl (lv_at hl 0 rfl) ?_
    refine va_get (D := (dC, dI)) (ci := 9) (v := .ref right_) (C := "StrataBase$Rows") (T := tb_Ro) (N := 6) hx hb hT in_Ro hown hK hP 2 rfl rfl 4 (by decide) (hT _ wd_502) (fun _ h9 => h9) rfl dc_Ro_add_32 ?_
    refine lv_aload_n hx hb dc_Ro_add_35 rfl (lv_at hl 0 rfl) ?_
    refine va_get (D := (dC, dI)) (ci := 9) (v := .int size_) (C := "StrataBase$Rows") (T := tb_Ro) (N := 6) hx hb hT in_Ro hown hK hP 2 rfl rfl 0 (by decide) (hT _ wd_494) (fun _ h9 => h9) rfl dc_Ro_add_36 ?_
    refine lv_aload_n hx hb dc_Ro_add_39 rfl (lv_at hl 0 rfl) ?_
    refine lv_aload_n hx hb dc_Ro_add_40 rfl (lv_at hl 1 rfl) ?_
    refine lv_bipush (v := 6) hx hb dc_Ro_add_41 (by decide) ?_
    have hPc := hP.sub (ws' := [(h0, .inr (9, [.int size_, .int width_, .int full_, .ref left_, .ref right_, .ref variables_])), (variables_, .inl (k_variables, 12, .inl F_variables)), (a0, .inl (k_a0, n_a0, .inl F_a0))]) [2, 3, 4] rfl
    have hDc := hD.sub (ws' := [(h0, .inr (9, [.int size_, .int width_, .int full_, .ref left_, .ref right_, .ref variables_])), (variables_, .inl (k_variables, 12, .inl F_variables)), (a0, .inl (k_a0, n_a0, .inl F_a0))]) [2, 3, 4] (by decide) rfl
    have hKc := hK.sub (tys' := [(k_variables, .int), (k_a0, .int)]) [2, 3] rfl
    have hFc := va_free (wc := [(h0, .inr (9, [.int size_, .int width_, .int full_, .ref left_, .ref right_, .ref variables_])), (variables_, .inl (k_variables, 12, .inl F_variables)), (a0, .inl (k_a0, n_a0, .inl F_a0))]) hD hS hA [2, 3, 4] rfl
    refine va_calll (va_runV (As := [.ref a0, .int 6]) (rest := [.int size_, .ref right_]) ⟨hx, hb, hml, hown, hT⟩ (met_Ro_keyOf l dC dI n_a0 h0 left_ right_ variables_ a0 (6 : Int32) size_ width_ full_ F_variables F_a0 k_variables k_a0 H.size hw) (cwV 2 hT (gd_V wd_1224 wd_1226 sl_Ro_keyOf wd_12 wd_1227) rfl rfl rfl (by decide +kernel) ⟨Nat.le_of_ble_eq_true rfl, Nat.le_of_ble_eq_true rfl⟩) ⟨fun a U g mk q => by obtain ⟨q0, q1, qP, qK, qD⟩ := q; exact ⟨q0, q1, qP, va_K.moved (u := U) (U := U.calling g mk a) (Vm.Alike.refl U.vm) qK, qD⟩, va_recv hK hP (q0 := 2) (ci := 9) rfl rfl, fun U hU hW => ⟨rfl, by rw [hU], by rw [hU]; exact hPc, va_K.moved hW.alike hKc, hDc.weaken (fun _ _ _ _ => trivial)⟩⟩ rfl rfl hl.1 rfl (lv_room (Nat.le_of_ble_eq_true rfl)) dc_Ro_add_43 ⟨(Nat.le_of_ble_eq_true rfl), (Nat.le_of_ble_eq_true rfl)⟩) hS (fun q _ h => hFc q h) hFc (fun r4 _ t H1 locs ht hvm hw hB hz1 hk1 hS => ?_)
    obtain ⟨hP1, hK1, hD1⟩ := hB
    rw [ht] at hP1
    have hK1 := va_K.moved hvm.symm hK1
    obtain ⟨hP, hD⟩ := va_join (wr := [(left_, .inl (k_left, 5000, .inr (.inl g3))), (right_, .inl (k_right, 5000, .inr (.inl F_right)))]) (w1 := [(h0, .inr (9, [.int size_, .int width_, .int full_, .ref left_, .ref right_, .ref variables_])), (variables_, .inl (k_variables, 12, .inl F_variables)), (a0, .inl (k_a0, n_a0, .inl F_a0))]) hP hD [2, 3, 4] [0, 1] rfl rfl (by decide) (by decide) hk1 hFc hP1 hD1
    have hK := (hK.sub (tys' := [(k_left, .long), (k_right, .long)]) [0, 1] rfl).app hK1
    generalize H1 = H at hP hS ⊢
    have hP : va_P (dC, dI) vwCl [(left_, .inl (k_left, 5000, .inr (.inl g3))), (right_, .inl (k_right, 5000, .inr (.inl F_right))), (h0, .inr (9, [.int size_, .int width_, .int full_, .ref left_, .ref right_, .ref variables_])), (variables_, .inl (k_variables, 12, .inl F_variables)), (a0, .inl (k_a0, n_a0, .inl F_a0))] H := hP
    have hD : va_D A [(left_, .inl (k_left, 5000, .inr (.inl g3))), (right_, .inl (k_right, 5000, .inr (.inl F_right))), (h0, .inr (9, [.int size_, .int width_, .int full_, .ref left_, .ref right_, .ref variables_])), (variables_, .inl (k_variables, 12, .inl F_variables)), (a0, .inl (k_a0, n_a0, .inl F_a0))] := hD
    have hK : va_K (dC, dI) vwCl [(k_left, .long), (k_right, .long), (k_variables, .int), (k_a0, .int)] s := hK
    obtain ⟨hv5, hw⟩ := hw
    refine va_last hx hb hK hP hD hS 1 1 rfl rfl hv5 dc_Ro_add_46 (fun H locs hP hD hS => ?_)
    have hP : va_P (dC, dI) vwCl [(left_, .inl (k_left, 5000, .inr (.inl g3))), (right_, .inl (k_right, 5000, .inr (.inl (vp_updL F_right size_.toNatClampNeg r4)))), (h0, .inr (9, [.int size_, .int width_, .int full_, .ref left_, .ref right_, .ref variables_])), (variables_, .inl (k_variables, 12, .inl F_variables)), (a0, .inl (k_a0, n_a0, .inl F_a0))] H := hP
    have hD : va_D A [(left_, .inl (k_left, 5000, .inr (.inl g3))), (right_, .inl (k_right, 5000, .inr (.inl (vp_updL F_right size_.toNatClampNeg r4)))), (h0, .inr (9, [.int size_, .int width_, .int full_, .ref left_, .ref right_, .ref variables_])), (variables_, .inl (k_variables, 12, .inl F_variables)), (a0, .inl (k_a0, n_a0, .inl F_a0))] := hD
    obtain ⟨g6, eg6⟩ : ∃ z9 : Nat → Int64, z9 = vp_updL F_right size_.toNatClampNeg r4 := ⟨_, rfl⟩
    rw [← eg6] at hP hD
    have hw := hw g6 eg6
    refine lv_aload_n hx hb dc_Ro_add_47 rfl (lv_at hl 0 rfl) ?_
    refine lv_dup hx hb dc_Ro_add_48 rfl ?_
    refine va_get (D := (dC, dI)) (ci := 9) (v := .int size_) (C := "StrataBase$Rows") (T := tb_Ro) (N := 6) hx hb hT in_Ro hown hK hP 2 rfl rfl 0 (by decide) (hT _ wd_494) (fun _ h9 => h9) rfl dc_Ro_add_49 ?_
    refine lv_iconst (v := 1) hx hb dc_Ro_add_52 (by decide) ?_
    refine lv_iadd hx hb dc_Ro_add_53 ?_
    refine lv_topi (fun y7 ey7 => ?_)
    have hw := hw y7 ey7
    refine va_put (D := (dC, dI)) (ci := 9) (v := .int y7) (ty := .int) (C := "StrataBase$Rows") (T := tb_Ro) (N := 6) hx hb hT in_Ro ty_Ro tk_Ro nm_Ro hown hK hP hD hS 2 rfl rfl 0 (by decide) (hT _ wd_494) (fun _ h9 => h9) rfl (by decide +kernel) rfl rfl (Nat.le_of_ble_eq_true rfl) dc_Ro_add_54 (fun H locs hP hD hS => ?_)
    have hP : va_P (dC, dI) vwCl [(left_, .inl (k_left, 5000, .inr (.inl g3))), (right_, .inl (k_right, 5000, .inr (.inl g6))), (h0, .inr (9, [.int y7, .int width_, .int full_, .ref left_, .ref right_, .ref variables_])), (variables_, .inl (k_variables, 12, .inl F_variables)), (a0, .inl (k_a0, n_a0, .inl F_a0))] H := hP
    have hD : va_D A [(left_, .inl (k_left, 5000, .inr (.inl g3))), (right_, .inl (k_right, 5000, .inr (.inl g6))), (h0, .inr (9, [.int y7, .int width_, .int full_, .ref left_, .ref right_, .ref variables_])), (variables_, .inl (k_variables, 12, .inl F_variables)), (a0, .inl (k_a0, n_a0, .inl F_a0))] := hD
    have hP := hP.sub (ws' := [(h0, .inr (9, [.int y7, .int width_, .int full_, .ref left_, .ref right_, .ref variables_])), (left_, .inl (k_left, 5000, .inr (.inl g3))), (right_, .inl (k_right, 5000, .inr (.inl g6))), (variables_, .inl (k_variables, 12, .inl F_variables)), (a0, .inl (k_a0, n_a0, .inl F_a0))]) [2, 0, 1, 3, 4] rfl
    have hD := hD.sub (ws' := [(h0, .inr (9, [.int y7, .int width_, .int full_, .ref left_, .ref right_, .ref variables_])), (left_, .inl (k_left, 5000, .inr (.inl g3))), (right_, .inl (k_right, 5000, .inr (.inl g6))), (variables_, .inl (k_variables, 12, .inl F_variables)), (a0, .inl (k_a0, n_a0, .inl F_a0))]) [2, 0, 1, 3, 4] (by decide) rfl
    have hK := hK.sub (tys' := [(k_left, .long), (k_right, .long), (k_variables, .int), (k_a0, .int)]) [0, 1, 2, 3] rfl
    refine W.widen (k := 0) (n := 0) (Nat.le_of_ble_eq_true rfl) (Nat.le_of_ble_eq_true rfl) ?_
    exact W.vret hx hb hr (fun t ht hW => ⟨⟨(y7, full_, g3, g6), rfl, hw, by rw [ht]; exact hP, va_K.moved hW.alike hK, hD⟩, hS.F ht⟩) hS.2.2 dc_Ro_add_57
  · have hw := hw.1 h7
    refine lv_aload_n hx hb dc_Ro_add_10 rfl (lv_at hl 0 rfl) ?_
    refine lv_iconst (v := 1) hx hb dc_Ro_add_11 (by decide) ?_
    refine va_put (D := (dC, dI)) (ci := 9) (v := .int 1) (ty := .boolean) (C := "StrataBase$Rows") (T := tb_Ro) (N := 6) hx hb hT in_Ro ty_Ro tk_Ro nm_Ro hown hK hP hD hS 0 rfl rfl 2 (by decide) (hT _ wd_498) (fun _ h9 => h9) rfl (by decide +kernel) (by decide) (by decide) (Nat.le_of_ble_eq_true rfl) dc_Ro_add_12 (fun H locs hP hD hS => ?_)
    have hP : va_P (dC, dI) vwCl [(h0, .inr (9, [.int size_, .int width_, .int 1, .ref left_, .ref right_, .ref variables_])), (left_, .inl (k_left, 5000, .inr (.inl F_left))), (right_, .inl (k_right, 5000, .inr (.inl F_right))), (variables_, .inl (k_variables, 12, .inl F_variables)), (a0, .inl (k_a0, n_a0, .inl F_a0))] H := hP
    have hD : va_D A [(h0, .inr (9, [.int size_, .int width_, .int 1, .ref left_, .ref right_, .ref variables_])), (left_, .inl (k_left, 5000, .inr (.inl F_left))), (right_, .inl (k_right, 5000, .inr (.inl F_right))), (variables_, .inl (k_variables, 12, .inl F_variables)), (a0, .inl (k_a0, n_a0, .inl F_a0))] := hD
    refine W.widen (k := 0) (n := 0) (Nat.le_of_ble_eq_true rfl) (Nat.le_of_ble_eq_true rfl) ?_
    exact W.vret hx hb hr (fun t ht hW => ⟨⟨(size_, (1 : Int32), F_left, F_right), rfl, hw, by rw [ht]; exact hP, va_K.moved hW.alike hK, hD⟩, hS.F ht⟩) hS.2.2 dc_Ro_add_15

def lw_met_Ro_usedVariables_4 (post : Int32 → Unit → Prop) (width_ : Int32) (F_variables : Nat → Int32) : Nat → (Int32 × Int32) → Prop
  | 0, _ => False
  | n1_ + 1, (v2, v3) => ((width_ ≤ v2 → (post v3 ())) ∧ (¬ (width_ ≤ v2) → (vp_in v2 12 ∧ (∀ y5 : Int32, y5 = F_variables v2.toNatClampNeg → (∀ y6 : Int32, y6 = (1 : Int32) <<< (y5 &&& 31) → (∀ y7 : Int32, y7 = v3 ||| y6 → (lw_met_Ro_usedVariables_4 post width_ F_variables n1_ ((v2 + 1), y7))))))))
def wp_met_Ro_usedVariables (post : Int32 → Unit → Prop) (width_ : Int32) (F_variables : Nat → Int32) : Prop := ∃ n9 : Nat, lw_met_Ro_usedVariables_4 post width_ F_variables n9 ((0 : Int32), (0 : Int32))
set_option maxHeartbeats 4000000 in
set_option maxRecDepth 100000 in
theorem met_Ro_usedVariables (l : Launch) (dC : Nat → ClassId) (dI : Nat → Nat → Nat) (h0 : Nat) (left_ : Nat) (right_ : Nat) (variables_ : Nat) (size_ : Int32) (width_ : Int32) (full_ : Int32) (F_variables : Nat → Int32) (k_variables : ClassId) (sz : Nat) {post : Int32 → Unit → Prop} (hw : wp_met_Ro_usedVariables post width_ F_variables) : Met l my_Ro_usedVariables (Cond.code my_Ro_usedVariables cd_Ro_usedVariables 3 (some (.int)) :: tblG) ({ frames := 0, cells := 0, slots := 0, locals := 0 }) (va_Pc [.ref h0] (fun U => U.heap.size = sz ∧ va_P (dC, dI) vwCl [(h0, .inr (9, [.int size_, .int width_, .int full_, .ref left_, .ref right_, .ref variables_])), (variables_, .inl (k_variables, 12, .inl F_variables))] U.heap ∧ va_K (dC, dI) vwCl [(k_variables, .int)] U ∧ va_D (fun _ => True) [(h0, .inr (9, [.int size_, .int width_, .int full_, .ref left_, .ref right_, .ref variables_])), (variables_, .inl (k_variables, 12, .inl F_variables))])) (va_Qi post (fun (u : Unit) (t : State) => va_P (dC, dI) vwCl [(h0, .inr (9, [.int size_, .int width_, .int full_, .ref left_, .ref right_, .ref variables_])), (variables_, .inl (k_variables, 12, .inl F_variables))] t.heap ∧ va_K (dC, dI) vwCl [(k_variables, .int)] t ∧ va_D (va_A [(h0, .inr (9, [.int size_, .int width_, .int full_, .ref left_, .ref right_, .ref variables_])), (variables_, .inl (k_variables, 12, .inl F_variables))] sz) [(h0, .inr (9, [.int size_, .int width_, .int full_, .ref left_, .ref right_, .ref variables_])), (variables_, .inl (k_variables, 12, .inl F_variables))]) (va_A [(h0, .inr (9, [.int size_, .int width_, .int full_, .ref left_, .ref right_, .ref variables_])), (variables_, .inl (k_variables, 12, .inl F_variables))] sz)) 0 0 (va_A [(h0, .inr (9, [.int size_, .int width_, .int full_, .ref left_, .ref right_, .ref variables_])), (variables_, .inl (k_variables, 12, .inl F_variables))] sz) := by
  refine Met.ofW (cc := cd_Ro_usedVariables) (maxL := 3) (ret := (some (.int))) (by decide) rfl ?_
  intro p e s m args below meth c s₁ B hml hv
  obtain ⟨rfl, hsz, hP, hK, hD0⟩ := hv
  have hx := B.exec
  have hb := B.bytes
  have hr := B.returns
  have hT : ∀ w ∈ tblG, w.before _ s = true := fun w h => atoms_spec (ws := (Cond.code my_Ro_usedVariables cd_Ro_usedVariables 3 (some (.int)) :: tblG)) B.pre w (List.mem_cons_of_mem _ h)
  have hown : s.vm.findClass "StrataBase$Rows" = some m.cls := findClass_of_methodNamed B.named
  have hlocks := B.notSynchronized
  subst hsz
  have hD := hD0.self (sz := s.heap.size)
  generalize hAe : va_A [(h0, .inr (9, [.int size_, .int width_, .int full_, .ref left_, .ref right_, .ref variables_])), (variables_, .inl (k_variables, 12, .inl F_variables))] s.heap.size = A at hD ⊢
  have hA : ∀ q : Nat, s.heap.size ≤ q → A q := fun q h => by rw [← hAe]; exact Or.inr h
  have hS : va_S A s.heap s.heap [] := va_S.rf
  have hl := lv_entry ([.ref h0]) (n := 3) (Nat.le_of_ble_eq_true rfl)
  rw [lg_entry_eq]
  generalize (lg_sl ([.ref h0]) ++ List.replicate (3 - (lg_sl ([.ref h0])).length) Slot.unset).toArray = ls at hl ⊢
  have hl : lv_has ls 3 [(0, .ref h0)] := hl
  unfold wp_met_Ro_usedVariables at hw
  refine lv_iconst (v := 0) hx hb dc_Ro_usedVariables_0 (by decide) ?_
  refine lv_istore_n (lv' := [(1, .int 0), (0, .ref h0)]) hx hb dc_Ro_usedVariables_1 rfl hl (by decide) rfl (fun ls hl => ?_)
  refine lv_iconst (v := 0) hx hb dc_Ro_usedVariables_2 (by decide) ?_
  refine lv_istore_n (lv' := [(2, .int 0), (1, .int 0), (0, .ref h0)]) hx hb dc_Ro_usedVariables_3 rfl hl (by decide) rfl (fun ls hl => ?_)
  obtain ⟨n9, hw⟩ := hw
  refine lp_fuel (σ := Int32 × Int32) _ (fun x9 H locs ls => match x9 with | (v2, v3) => va_K (dC, dI) vwCl [(k_variables, .int)] s ∧ va_P (dC, dI) vwCl [(h0, .inr (9, [.int size_, .int width_, .int full_, .ref left_, .ref right_, .ref variables_])), (variables_, .inl (k_variables, 12, .inl F_variables))] H ∧ va_D A [(h0, .inr (9, [.int size_, .int width_, .int full_, .ref left_, .ref right_, .ref variables_])), (variables_, .inl (k_variables, 12, .inl F_variables))] ∧ va_S A s.heap H locs ∧ lv_has ls 3 [(2, .int v2), (1, .int v3), (0, .ref h0)]) (fun x9 h9 => by simp only [lw_met_Ro_usedVariables_4] at h9) ?_ hw ⟨hK.sub [0] rfl, hP.sub [0, 1] rfl, hD.sub [0, 1] (by decide) rfl, hS, lv_sub hl [0, 1, 2] rfl⟩
  intro n1_ x9 hw ih1 H locs ls hI
  obtain ⟨v2, v3⟩ := x9
  obtain ⟨hK, hP, hD, hS, hl⟩ := hI
  unfold lw_met_Ro_usedVariables_4 at hw
  refine lv_iload_n hx hb dc_Ro_usedVariables_4 rfl (lv_at hl 0 rfl) ?_
  refine lv_aload_n hx hb dc_Ro_usedVariables_5 rfl (lv_at hl 2 rfl) ?_
  refine va_get (D := (dC, dI)) (ci := 9) (v := .int width_) (C := "StrataBase$Rows") (T := tb_Ro) (N := 6) hx hb hT in_Ro hown hK hP 0 rfl rfl 1 (by decide) (hT _ wd_496) (fun _ h9 => h9) rfl dc_Ro_usedVariables_6 ?_
  refine lv_icmp_ge (tgt := 29) hx hb dc_Ro_usedVariables_9 (by decide) (fun h9 => ?_) (fun h9 => ?_)
  · have hw := hw.1 h9
    refine lv_iload_n hx hb dc_Ro_usedVariables_29 rfl (lv_at hl 1 rfl) ?_
    refine W.widen (k := 0) (n := 0) (Nat.le_of_ble_eq_true rfl) (Nat.le_of_ble_eq_true rfl) ?_
    exact W.iret (v := v3) hx hb hr (fun t ht hW => ⟨⟨v3, (), rfl, hw, by rw [ht]; exact hP, va_K.moved hW.alike hK, hD⟩, hS.F ht⟩) hS.2.2 dc_Ro_usedVariables_30
  · have hw := hw.2 h9
    refine lv_iload_n hx hb dc_Ro_usedVariables_12 rfl (lv_at hl 1 rfl) ?_
    refine lv_iconst (v := 1) hx hb dc_Ro_usedVariables_13 (by decide) ?_
    refine lv_aload_n hx hb dc_Ro_usedVariables_14 rfl (lv_at hl 2 rfl) ?_
    refine va_get (D := (dC, dI)) (ci := 9) (v := .ref variables_) (C := "StrataBase$Rows") (T := tb_Ro) (N := 6) hx hb hT in_Ro hown hK hP 0 rfl rfl 5 (by decide) (hT _ wd_503) (fun _ h9 => h9) rfl dc_Ro_usedVariables_15 ?_
    refine lv_iload_n hx hb dc_Ro_usedVariables_18 rfl (lv_at hl 0 rfl) ?_
    obtain ⟨hv4, hw⟩ := hw
    refine va_iald hx hb hK hP 1 0 rfl rfl hv4 dc_Ro_usedVariables_19 ?_
    refine lv_topi (fun y5 ey5 => ?_)
    have hw := hw y5 ey5
    refine lv_ishl hx hb dc_Ro_usedVariables_20 ?_
    refine lv_topi (fun y6 ey6 => ?_)
    have hw := hw y6 ey6
    refine lv_ior hx hb dc_Ro_usedVariables_21 ?_
    refine lv_topi (fun y7 ey7 => ?_)
    have hw := hw y7 ey7
    refine lv_istore_n (lv' := [(1, .int y7), (2, .int v2), (0, .ref h0)]) hx hb dc_Ro_usedVariables_22 rfl hl (by decide) rfl (fun ls hl => ?_)
    refine lv_iinc (k := 1) (v := v2 + 1) (lv' := [(2, .int (v2 + 1)), (1, .int y7), (0, .ref h0)]) hx hb dc_Ro_usedVariables_23 hl rfl rfl (by decide) rfl (fun ls hl => ?_)
    refine lv_goto (tgt := 4) hx hb dc_Ro_usedVariables_26 (by decide) ?_
    exact ih1 ((v2 + 1), y7) hw _ _ _ ⟨hK.sub [0] rfl, hP.sub [0, 1] rfl, hD.sub [0, 1] (by decide) rfl, hS, lv_sub hl [0, 1, 2] rfl⟩

def wp_met_Ro_isAbove (post : Int32 → Unit → Prop) (a0 : Int32) (a1 : Int64) (a2 : Int64) (F_left : Nat → Int64) (F_right : Nat → Int64) : Prop := vp_in a0 5000 ∧ (∀ y2 : Int64, y2 = F_left a0.toNatClampNeg → ((((a1 < y2 → (True)) ∧ (¬ (a1 < y2) → (vp_in a0 5000 ∧ ((((F_left a0.toNatClampNeg) = a1 → (vp_in a0 5000 ∧ (True))) ∧ (¬ ((F_left a0.toNatClampNeg) = a1) → (True)))))))) ∧ (∀ y3 : Int32, y3 = (if a1 < y2 then (1 : Int32) else (if (F_left a0.toNatClampNeg) = a1 then (if (F_right a0.toNatClampNeg) ≤ a2 then (0 : Int32) else (1 : Int32)) else (0 : Int32))) → (post y3 ()))))
set_option maxHeartbeats 4000000 in
set_option maxRecDepth 100000 in
theorem met_Ro_isAbove (l : Launch) (dC : Nat → ClassId) (dI : Nat → Nat → Nat) (h0 : Nat) (left_ : Nat) (right_ : Nat) (variables_ : Nat) (a0 : Int32) (a1 : Int64) (a2 : Int64) (size_ : Int32) (width_ : Int32) (full_ : Int32) (F_left : Nat → Int64) (F_right : Nat → Int64) (k_left : ClassId) (k_right : ClassId) (sz : Nat) {post : Int32 → Unit → Prop} (hw : wp_met_Ro_isAbove post a0 a1 a2 F_left F_right) : Met l my_Ro_isAbove (Cond.code my_Ro_isAbove cd_Ro_isAbove 6 (some (.boolean)) :: tblG) ({ frames := 0, cells := 0, slots := 0, locals := 0 }) (va_Pc [.ref h0, .int a0, .long a1, .long a2] (fun U => U.heap.size = sz ∧ va_P (dC, dI) vwCl [(h0, .inr (9, [.int size_, .int width_, .int full_, .ref left_, .ref right_, .ref variables_])), (left_, .inl (k_left, 5000, .inr (.inl F_left))), (right_, .inl (k_right, 5000, .inr (.inl F_right)))] U.heap ∧ va_K (dC, dI) vwCl [(k_left, .long), (k_right, .long)] U ∧ va_D (fun _ => True) [(h0, .inr (9, [.int size_, .int width_, .int full_, .ref left_, .ref right_, .ref variables_])), (left_, .inl (k_left, 5000, .inr (.inl F_left))), (right_, .inl (k_right, 5000, .inr (.inl F_right)))])) (va_Qi post (fun (u : Unit) (t : State) => va_P (dC, dI) vwCl [(h0, .inr (9, [.int size_, .int width_, .int full_, .ref left_, .ref right_, .ref variables_])), (left_, .inl (k_left, 5000, .inr (.inl F_left))), (right_, .inl (k_right, 5000, .inr (.inl F_right)))] t.heap ∧ va_K (dC, dI) vwCl [(k_left, .long), (k_right, .long)] t ∧ va_D (va_A [(h0, .inr (9, [.int size_, .int width_, .int full_, .ref left_, .ref right_, .ref variables_])), (left_, .inl (k_left, 5000, .inr (.inl F_left))), (right_, .inl (k_right, 5000, .inr (.inl F_right)))] sz) [(h0, .inr (9, [.int size_, .int width_, .int full_, .ref left_, .ref right_, .ref variables_])), (left_, .inl (k_left, 5000, .inr (.inl F_left))), (right_, .inl (k_right, 5000, .inr (.inl F_right)))]) (va_A [(h0, .inr (9, [.int size_, .int width_, .int full_, .ref left_, .ref right_, .ref variables_])), (left_, .inl (k_left, 5000, .inr (.inl F_left))), (right_, .inl (k_right, 5000, .inr (.inl F_right)))] sz)) 0 0 (va_A [(h0, .inr (9, [.int size_, .int width_, .int full_, .ref left_, .ref right_, .ref variables_])), (left_, .inl (k_left, 5000, .inr (.inl F_left))), (right_, .inl (k_right, 5000, .inr (.inl F_right)))] sz) := by
  refine Met.ofW (cc := cd_Ro_isAbove) (maxL := 6) (ret := (some (.boolean))) (by decide) rfl ?_
  intro p e s m args below meth c s₁ B hml hv
  obtain ⟨rfl, hsz, hP, hK, hD0⟩ := hv
  have hx := B.exec
  have hb := B.bytes
  have hr := B.returns
  have hT : ∀ w ∈ tblG, w.before _ s = true := fun w h => atoms_spec (ws := (Cond.code my_Ro_isAbove cd_Ro_isAbove 6 (some (.boolean)) :: tblG)) B.pre w (List.mem_cons_of_mem _ h)
  have hown : s.vm.findClass "StrataBase$Rows" = some m.cls := findClass_of_methodNamed B.named
  have hlocks := B.notSynchronized
  subst hsz
  have hD := hD0.self (sz := s.heap.size)
  generalize hAe : va_A [(h0, .inr (9, [.int size_, .int width_, .int full_, .ref left_, .ref right_, .ref variables_])), (left_, .inl (k_left, 5000, .inr (.inl F_left))), (right_, .inl (k_right, 5000, .inr (.inl F_right)))] s.heap.size = A at hD ⊢
  have hA : ∀ q : Nat, s.heap.size ≤ q → A q := fun q h => by rw [← hAe]; exact Or.inr h
  have hS : va_S A s.heap s.heap [] := va_S.rf
  have hl := lv_entry ([.ref h0, .int a0, .long a1, .long a2]) (n := 6) (Nat.le_of_ble_eq_true rfl)
  rw [lg_entry_eq]
  generalize (lg_sl ([.ref h0, .int a0, .long a1, .long a2]) ++ List.replicate (6 - (lg_sl ([.ref h0, .int a0, .long a1, .long a2])).length) Slot.unset).toArray = ls at hl ⊢
  have hl : lv_has ls 6 [(0, .ref h0), (1, .int a0), (2, .long a1), (4, .long a2)] := hl
  unfold wp_met_Ro_isAbove at hw
  refine lv_aload_n hx hb dc_Ro_isAbove_0 rfl (lv_at hl 0 rfl) ?_
  refine va_get (D := (dC, dI)) (ci := 9) (v := .ref left_) (C := "StrataBase$Rows") (T := tb_Ro) (N := 6) hx hb hT in_Ro hown hK hP 0 rfl rfl 3 (by decide) (hT _ wd_501) (fun _ h9 => h9) rfl dc_Ro_isAbove_1 ?_
  refine lv_iload_n hx hb dc_Ro_isAbove_4 rfl (lv_at hl 1 rfl) ?_
  obtain ⟨hv1, hw⟩ := hw
  refine va_lald hx hb hK hP 1 0 rfl rfl hv1 dc_Ro_isAbove_5 ?_
  refine lv_topl (fun y2 ey2 => ?_)
  have hw := hw y2 ey2
  refine lv_lload_n hx hb dc_Ro_isAbove_6 rfl (lv_at hl 2 rfl) ?_
  refine W.lcmp hx hb dc_Ro_isAbove_7 ?_
  obtain ⟨hob, hw⟩ := hw
  refine jn_top (pc2 := 39) (rest := []) (fun y3 => y3 = (if a1 < y2 then (1 : Int32) else (if (F_left a0.toNatClampNeg) = a1 then (if (F_right a0.toNatClampNeg) ≤ a2 then (0 : Int32) else (1 : Int32)) else (0 : Int32)))) (fun y3 ey3 => ?_) (fun k9 => ?_)
  rotate_left
  · refine lv_if_gt (tgt := 34) hx hb dc_Ro_isAbove_8 (by decide) (fun h8 => ?_) (fun h8 => ?_)
    · have h8 : a1 < y2 := (lg_cmp_gt _ _).mp h8
      have hob := hob.1 h8
      refine lv_iconst (v := 1) hx hb dc_Ro_isAbove_34 (by decide) ?_
      refine lv_goto (tgt := 39) hx hb dc_Ro_isAbove_35 (by decide) ?_
      exact k9 (1 : Int32) (by rw [if_pos h8])
    · have h8 : ¬ (a1 < y2) := fun z9 => h8 ((lg_cmp_gt _ _).mpr z9)
      have hob := hob.2 h8
      refine lv_aload_n hx hb dc_Ro_isAbove_11 rfl (lv_at hl 0 rfl) ?_
      refine va_get (D := (dC, dI)) (ci := 9) (v := .ref left_) (C := "StrataBase$Rows") (T := tb_Ro) (N := 6) hx hb hT in_Ro hown hK hP 0 rfl rfl 3 (by decide) (hT _ wd_501) (fun _ h9 => h9) rfl dc_Ro_isAbove_12 ?_
      refine lv_iload_n hx hb dc_Ro_isAbove_15 rfl (lv_at hl 1 rfl) ?_
      obtain ⟨hv4, hob⟩ := hob
      refine va_lald hx hb hK hP 1 0 rfl rfl hv4 dc_Ro_isAbove_16 ?_
      refine lv_lload_n hx hb dc_Ro_isAbove_17 rfl (lv_at hl 2 rfl) ?_
      refine W.lcmp hx hb dc_Ro_isAbove_18 ?_
      refine lv_if_ne (tgt := 38) hx hb dc_Ro_isAbove_19 (by decide) (fun h19 => ?_) (fun h19 => ?_)
      · have h19 : ¬ ((F_left a0.toNatClampNeg) = a1) := fun z9 => h19 ((lg_cmp_eq _ _).mpr z9)
        have hob := hob.2 h19
        refine lv_iconst (v := 0) hx hb dc_Ro_isAbove_38 (by decide) ?_
        exact k9 (0 : Int32) (by rw [if_neg h8, if_neg h19])
      · have h19 : (F_left a0.toNatClampNeg) = a1 := (lg_cmp_eq _ _).mp h19
        have hob := hob.1 h19
        refine lv_aload_n hx hb dc_Ro_isAbove_22 rfl (lv_at hl 0 rfl) ?_
        refine va_get (D := (dC, dI)) (ci := 9) (v := .ref right_) (C := "StrataBase$Rows") (T := tb_Ro) (N := 6) hx hb hT in_Ro hown hK hP 0 rfl rfl 4 (by decide) (hT _ wd_502) (fun _ h9 => h9) rfl dc_Ro_isAbove_23 ?_
        refine lv_iload_n hx hb dc_Ro_isAbove_26 rfl (lv_at hl 1 rfl) ?_
        obtain ⟨hv5, hob⟩ := hob
        refine va_lald hx hb hK hP 2 1 rfl rfl hv5 dc_Ro_isAbove_27 ?_
        refine lv_lload hx hb dc_Ro_isAbove_28 (lv_at hl 3 rfl) ?_
        refine W.lcmp hx hb dc_Ro_isAbove_30 ?_
        refine lv_if_le (tgt := 38) hx hb dc_Ro_isAbove_31 (by decide) (fun h31 => ?_) (fun h31 => ?_)
        · have h31 : (F_right a0.toNatClampNeg) ≤ a2 := (lg_cmp_le _ _).mp h31
          refine lv_iconst (v := 0) hx hb dc_Ro_isAbove_38 (by decide) ?_
          exact k9 (0 : Int32) (by rw [if_neg h8, if_pos h19, if_pos h31])
        · have h31 : ¬ ((F_right a0.toNatClampNeg) ≤ a2) := fun z9 => h31 ((lg_cmp_le _ _).mpr z9)
          refine lv_iconst (v := 1) hx hb dc_Ro_isAbove_34 (by decide) ?_
          refine lv_goto (tgt := 39) hx hb dc_Ro_isAbove_35 (by decide) ?_
          exact k9 (1 : Int32) (by rw [if_neg h8, if_pos h19, if_neg h31])
  have hw := hw y3 ey3
  have hzy3 : y3 = 0 ∨ y3 = 1 := by
    rw [ey3]; repeat' split
    all_goals first | exact Or.inl rfl | exact Or.inr rfl
  refine W.widen (k := 0) (n := 0) (Nat.le_of_ble_eq_true rfl) (Nat.le_of_ble_eq_true rfl) ?_
  exact W.zret (v := y3) hx hb hr (nz_n hzy3) (fun t ht hW => ⟨⟨y3, (), rfl, hw, by rw [ht]; exact hP, va_K.moved hW.alike hK, hD⟩, hS.F ht⟩) hS.2.2 dc_Ro_isAbove_39

def jw_met_Ro_sink_79 (post : ((Nat → Int64) × (Nat → Int64)) → Prop) (v6 : Int32) (v7 : Nat → Int64) (y2 : Int64) (v8 : Nat → Int64) (y4 : Int64) : (Unit) → Prop
  | _ => vp_in v6 5000 ∧ (∀ g24 : Nat → Int64, g24 = vp_updL v7 v6.toNatClampNeg y2 → (vp_in v6 5000 ∧ (∀ g26 : Nat → Int64, g26 = vp_updL v8 v6.toNatClampNeg y4 → (post (g24, g26)))))
def lw_met_Ro_sink_18 (post : ((Nat → Int64) × (Nat → Int64)) → Prop) (a1 : Int32) (y2 : Int64) (y4 : Int64) : Nat → (Int32 × (Nat → Int64) × (Nat → Int64)) → Prop
  | 0, _ => False
  | n5_ + 1, (v6, v7, v8) => ((v6 < a1 → (jw_met_Ro_sink_79 post v6 v7 y2 v8 y4 ())) ∧ (¬ (v6 < a1) → (∀ y10 : Int32, y10 = v6 - a1 → (wp_met_Ro_isAbove (fun (r11 : Int32) (_ : Unit) => (((r11 = 0 → (jw_met_Ro_sink_79 post v6 v7 y2 v8 y4 ())) ∧ (¬ (r11 = 0) → (∀ y12 : Int32, y12 = v6 - a1 → (vp_in y12 5000 ∧ (∀ y14 : Int64, y14 = v7 y12.toNatClampNeg → (vp_in v6 5000 ∧ (∀ g16 : Nat → Int64, g16 = vp_updL v7 v6.toNatClampNeg y14 → (∀ y17 : Int32, y17 = v6 - a1 → (vp_in y17 5000 ∧ (∀ y19 : Int64, y19 = v8 y17.toNatClampNeg → (vp_in v6 5000 ∧ (∀ g21 : Nat → Int64, g21 = vp_updL v8 v6.toNatClampNeg y19 → (∀ y22 : Int32, y22 = v6 - a1 → (lw_met_Ro_sink_18 post a1 y2 y4 n5_ (y22, g16, g21))))))))))))))))) y10 y2 y4 v7 v8))))
def wp_met_Ro_sink (post : ((Nat → Int64) × (Nat → Int64)) → Prop) (a0 : Int32) (a1 : Int32) (F_left : Nat → Int64) (F_right : Nat → Int64) : Prop := vp_in a0 5000 ∧ (∀ y2 : Int64, y2 = F_left a0.toNatClampNeg → (vp_in a0 5000 ∧ (∀ y4 : Int64, y4 = F_right a0.toNatClampNeg → (∃ n9 : Nat, lw_met_Ro_sink_18 post a1 y2 y4 n9 (a0, F_left, F_right)))))
set_option maxHeartbeats 4000000 in
set_option maxRecDepth 100000 in
theorem met_Ro_sink (l : Launch) (dC : Nat → ClassId) (dI : Nat → Nat → Nat) (h0 : Nat) (left_ : Nat) (right_ : Nat) (variables_ : Nat) (a0 : Int32) (a1 : Int32) (size_ : Int32) (width_ : Int32) (full_ : Int32) (F_left : Nat → Int64) (F_right : Nat → Int64) (k_left : ClassId) (k_right : ClassId) (sz : Nat) {post : ((Nat → Int64) × (Nat → Int64)) → Prop} (hw : wp_met_Ro_sink post a0 a1 F_left F_right) : Met l my_Ro_sink (Cond.code my_Ro_sink cd_Ro_sink 8 none :: tblG) ({ frames := 1, cells := 0, slots := 0, locals := 25 }) (va_Pc [.ref h0, .int a0, .int a1] (fun U => U.heap.size = sz ∧ va_P (dC, dI) vwCl [(h0, .inr (9, [.int size_, .int width_, .int full_, .ref left_, .ref right_, .ref variables_])), (left_, .inl (k_left, 5000, .inr (.inl F_left))), (right_, .inl (k_right, 5000, .inr (.inl F_right)))] U.heap ∧ va_K (dC, dI) vwCl [(k_left, .long), (k_right, .long)] U ∧ va_D (fun _ => True) [(h0, .inr (9, [.int size_, .int width_, .int full_, .ref left_, .ref right_, .ref variables_])), (left_, .inl (k_left, 5000, .inr (.inl F_left))), (right_, .inl (k_right, 5000, .inr (.inl F_right)))])) (va_Qv post (fun (u : (Nat → Int64) × (Nat → Int64)) (t : State) => match u with | (o0, o1) => va_P (dC, dI) vwCl [(h0, .inr (9, [.int size_, .int width_, .int full_, .ref left_, .ref right_, .ref variables_])), (left_, .inl (k_left, 5000, .inr (.inl o0))), (right_, .inl (k_right, 5000, .inr (.inl o1)))] t.heap ∧ va_K (dC, dI) vwCl [(k_left, .long), (k_right, .long)] t ∧ va_D (va_A [(h0, .inr (9, [.int size_, .int width_, .int full_, .ref left_, .ref right_, .ref variables_])), (left_, .inl (k_left, 5000, .inr (.inl F_left))), (right_, .inl (k_right, 5000, .inr (.inl F_right)))] sz) [(h0, .inr (9, [.int size_, .int width_, .int full_, .ref left_, .ref right_, .ref variables_])), (left_, .inl (k_left, 5000, .inr (.inl o0))), (right_, .inl (k_right, 5000, .inr (.inl o1)))]) (va_A [(h0, .inr (9, [.int size_, .int width_, .int full_, .ref left_, .ref right_, .ref variables_])), (left_, .inl (k_left, 5000, .inr (.inl F_left))), (right_, .inl (k_right, 5000, .inr (.inl F_right)))] sz)) 0 0 (va_A [(h0, .inr (9, [.int size_, .int width_, .int full_, .ref left_, .ref right_, .ref variables_])), (left_, .inl (k_left, 5000, .inr (.inl F_left))), (right_, .inl (k_right, 5000, .inr (.inl F_right)))] sz) := by
  refine Met.ofW (cc := cd_Ro_sink) (maxL := 8) (ret := none) (by decide) rfl ?_
  intro p e s m args below meth c s₁ B hml hv
  obtain ⟨rfl, hsz, hP, hK, hD0⟩ := hv
  have hx := B.exec
  have hb := B.bytes
  have hr := B.returns
  have hT : ∀ w ∈ tblG, w.before _ s = true := fun w h => atoms_spec (ws := (Cond.code my_Ro_sink cd_Ro_sink 8 none :: tblG)) B.pre w (List.mem_cons_of_mem _ h)
  have hown : s.vm.findClass "StrataBase$Rows" = some m.cls := findClass_of_methodNamed B.named
  have hlocks := B.notSynchronized
  subst hsz
  have hD := hD0.self (sz := s.heap.size)
  generalize hAe : va_A [(h0, .inr (9, [.int size_, .int width_, .int full_, .ref left_, .ref right_, .ref variables_])), (left_, .inl (k_left, 5000, .inr (.inl F_left))), (right_, .inl (k_right, 5000, .inr (.inl F_right)))] s.heap.size = A at hD ⊢
  have hA : ∀ q : Nat, s.heap.size ≤ q → A q := fun q h => by rw [← hAe]; exact Or.inr h
  have hS : va_S A s.heap s.heap [] := va_S.rf
  have hl := lv_entry ([.ref h0, .int a0, .int a1]) (n := 8) (Nat.le_of_ble_eq_true rfl)
  rw [lg_entry_eq]
  generalize (lg_sl ([.ref h0, .int a0, .int a1]) ++ List.replicate (8 - (lg_sl ([.ref h0, .int a0, .int a1])).length) Slot.unset).toArray = ls at hl ⊢
  have hl : lv_has ls 8 [(0, .ref h0), (1, .int a0), (2, .int a1)] := hl
  unfold wp_met_Ro_sink at hw
  refine lv_aload_n hx hb dc_Ro_sink_0 rfl (lv_at hl 0 rfl) ?_
  refine va_get (D := (dC, dI)) (ci := 9) (v := .ref left_) (C := "StrataBase$Rows") (T := tb_Ro) (N := 6) hx hb hT in_Ro hown hK hP 0 rfl rfl 3 (by decide) (hT _ wd_501) (fun _ h9 => h9) rfl dc_Ro_sink_1 ?_
  refine lv_iload_n hx hb dc_Ro_sink_4 rfl (lv_at hl 1 rfl) ?_
  obtain ⟨hv1, hw⟩ := hw
  refine va_lald hx hb hK hP 1 0 rfl rfl hv1 dc_Ro_sink_5 ?_
  refine lv_topl (fun y2 ey2 => ?_)
  have hw := hw y2 ey2
  refine lv_lstore_n (lv' := [(3, .long y2), (0, .ref h0), (1, .int a0), (2, .int a1)]) hx hb dc_Ro_sink_6 rfl hl (by decide) rfl (fun ls hl => ?_)
  refine lv_aload_n hx hb dc_Ro_sink_7 rfl (lv_at hl 1 rfl) ?_
  refine va_get (D := (dC, dI)) (ci := 9) (v := .ref right_) (C := "StrataBase$Rows") (T := tb_Ro) (N := 6) hx hb hT in_Ro hown hK hP 0 rfl rfl 4 (by decide) (hT _ wd_502) (fun _ h9 => h9) rfl dc_Ro_sink_8 ?_
  refine lv_iload_n hx hb dc_Ro_sink_11 rfl (lv_at hl 2 rfl) ?_
  obtain ⟨hv3, hw⟩ := hw
  refine va_lald hx hb hK hP 2 1 rfl rfl hv3 dc_Ro_sink_12 ?_
  refine lv_topl (fun y4 ey4 => ?_)
  have hw := hw y4 ey4
  refine lv_lstore (lv' := [(5, .long y4), (3, .long y2), (0, .ref h0), (1, .int a0), (2, .int a1)]) hx hb dc_Ro_sink_13 hl (by decide) rfl (fun ls hl => ?_)
  refine lv_iload_n hx hb dc_Ro_sink_15 rfl (lv_at hl 3 rfl) ?_
  refine lv_istore (lv' := [(7, .int a0), (5, .long y4), (3, .long y2), (0, .ref h0), (1, .int a0), (2, .int a1)]) hx hb dc_Ro_sink_16 hl (by decide) rfl (fun ls hl => ?_)
  obtain ⟨n9, hw⟩ := hw
  refine lp_fuel (σ := Int32 × (Nat → Int64) × (Nat → Int64)) _ (fun x9 H locs ls => match x9 with | (v6, v7, v8) => va_K (dC, dI) vwCl [(k_left, .long), (k_right, .long)] s ∧ va_P (dC, dI) vwCl [(h0, .inr (9, [.int size_, .int width_, .int full_, .ref left_, .ref right_, .ref variables_])), (left_, .inl (k_left, 5000, .inr (.inl v7))), (right_, .inl (k_right, 5000, .inr (.inl v8)))] H ∧ va_D A [(h0, .inr (9, [.int size_, .int width_, .int full_, .ref left_, .ref right_, .ref variables_])), (left_, .inl (k_left, 5000, .inr (.inl v7))), (right_, .inl (k_right, 5000, .inr (.inl v8)))] ∧ va_S A s.heap H locs ∧ lv_has ls 8 [(7, .int v6), (5, .long y4), (3, .long y2), (0, .ref h0), (2, .int a1)]) (fun x9 h9 => by simp only [lw_met_Ro_sink_18] at h9) ?_ hw ⟨hK.sub [0, 1] rfl, hP.sub [0, 1, 2] rfl, hD.sub [0, 1, 2] (by decide) rfl, hS, lv_sub hl [0, 1, 2, 3, 5] rfl⟩
  intro n5_ x9 hw ih5 H locs ls hI
  obtain ⟨v6, v7, v8⟩ := x9
  obtain ⟨hK, hP, hD, hS, hl⟩ := hI
  unfold lw_met_Ro_sink_18 at hw
  refine lv_iload hx hb dc_Ro_sink_18 (lv_at hl 0 rfl) ?_
  refine lv_iload_n hx hb dc_Ro_sink_20 rfl (lv_at hl 4 rfl) ?_
  refine jn_st (σ := Unit) (pc2 := 79) (fun x9 => jw_met_Ro_sink_79 post v6 v7 y2 v8 y4 x9) (fun _ => []) (fun _ H locs ls => va_K (dC, dI) vwCl [(k_left, .long), (k_right, .long)] s ∧ va_P (dC, dI) vwCl [(h0, .inr (9, [.int size_, .int width_, .int full_, .ref left_, .ref right_, .ref variables_])), (left_, .inl (k_left, 5000, .inr (.inl v7))), (right_, .inl (k_right, 5000, .inr (.inl v8)))] H ∧ va_D A [(h0, .inr (9, [.int size_, .int width_, .int full_, .ref left_, .ref right_, .ref variables_])), (left_, .inl (k_left, 5000, .inr (.inl v7))), (right_, .inl (k_right, 5000, .inr (.inl v8)))] ∧ va_S A s.heap H locs ∧ lv_has ls 8 [(0, .ref h0), (3, .long y2), (5, .long y4), (7, .int v6)]) ?_ (fun k9 => ?_)
  rotate_left
  · refine lv_icmp_lt (tgt := 79) hx hb dc_Ro_sink_21 (by decide) (fun h21 => ?_) (fun h21 => ?_)
    · have hw := hw.1 h21
      exact k9 () hw _ _ _ ⟨hK.sub [0, 1] rfl, hP.sub [0, 1, 2] rfl, hD.sub [0, 1, 2] (by decide) rfl, hS, lv_sub hl [3, 2, 1, 0] rfl⟩
    · have hw := hw.2 h21
      refine lv_aload_n hx hb dc_Ro_sink_24 rfl (lv_at hl 3 rfl) ?_
      refine lv_iload hx hb dc_Ro_sink_25 (lv_at hl 0 rfl) ?_
      refine lv_iload_n hx hb dc_Ro_sink_27 rfl (lv_at hl 4 rfl) ?_
      refine lv_isub hx hb dc_Ro_sink_28 ?_
      refine lv_topi (fun y10 ey10 => ?_)
      have hw := hw y10 ey10
      refine lv_lload_n hx hb dc_Ro_sink_29 rfl (lv_at hl 2 rfl) ?_
      refine lv_lload hx hb dc_Ro_sink_30 (lv_at hl 1 rfl) ?_
      have hPc := hP.sub (ws' := [(h0, .inr (9, [.int size_, .int width_, .int full_, .ref left_, .ref right_, .ref variables_])), (left_, .inl (k_left, 5000, .inr (.inl v7))), (right_, .inl (k_right, 5000, .inr (.inl v8)))]) [0, 1, 2] rfl
      have hDc := hD.sub (ws' := [(h0, .inr (9, [.int size_, .int width_, .int full_, .ref left_, .ref right_, .ref variables_])), (left_, .inl (k_left, 5000, .inr (.inl v7))), (right_, .inl (k_right, 5000, .inr (.inl v8)))]) [0, 1, 2] (by decide) rfl
      have hKc := hK.sub (tys' := [(k_left, .long), (k_right, .long)]) [0, 1] rfl
      have hFc := va_free (wc := [(h0, .inr (9, [.int size_, .int width_, .int full_, .ref left_, .ref right_, .ref variables_])), (left_, .inl (k_left, 5000, .inr (.inl v7))), (right_, .inl (k_right, 5000, .inr (.inl v8)))]) hD hS hA [0, 1, 2] rfl
      refine va_calli (va_runV (As := [.int y10, .long y2, .long y4]) (rest := []) ⟨hx, hb, hml, hown, hT⟩ (met_Ro_isAbove l dC dI h0 left_ right_ variables_ y10 y2 y4 size_ width_ full_ v7 v8 k_left k_right H.size hw) (cwV 3 hT (gd_V wd_1269 wd_1271 sl_Ro_isAbove wd_12 wd_1272) rfl rfl rfl (by decide +kernel) ⟨Nat.le_of_ble_eq_true rfl, Nat.le_of_ble_eq_true rfl⟩) ⟨fun a U g mk q => by obtain ⟨q0, q1, qP, qK, qD⟩ := q; exact ⟨q0, q1, qP, va_K.moved (u := U) (U := U.calling g mk a) (Vm.Alike.refl U.vm) qK, qD⟩, va_recv hK hP (q0 := 0) (ci := 9) rfl rfl, fun U hU hW => ⟨rfl, by rw [hU], by rw [hU]; exact hPc, va_K.moved hW.alike hKc, hDc.weaken (fun _ _ _ _ => trivial)⟩⟩ rfl rfl hl.1 rfl (lv_room (Nat.le_of_ble_eq_true rfl)) dc_Ro_sink_32 ⟨(Nat.le_of_ble_eq_true rfl), (Nat.le_of_ble_eq_true rfl)⟩) hS (fun q _ h => hFc q h) hFc (fun r11 _ t H1 locs ht hvm hw hB hz1 hk1 hS => ?_)
      obtain ⟨hP1, hK1, hD1⟩ := hB
      rw [ht] at hP1
      have hK1 := va_K.moved hvm.symm hK1
      obtain ⟨hP, hD⟩ := va_join (wr := []) (w1 := [(h0, .inr (9, [.int size_, .int width_, .int full_, .ref left_, .ref right_, .ref variables_])), (left_, .inl (k_left, 5000, .inr (.inl v7))), (right_, .inl (k_right, 5000, .inr (.inl v8)))]) hP hD [0, 1, 2] [] rfl rfl (by decide) (by decide) hk1 hFc hP1 hD1
      have hK := (hK.sub (tys' := []) [] rfl).app hK1
      generalize H1 = H at hP hS ⊢
      have hP : va_P (dC, dI) vwCl [(h0, .inr (9, [.int size_, .int width_, .int full_, .ref left_, .ref right_, .ref variables_])), (left_, .inl (k_left, 5000, .inr (.inl v7))), (right_, .inl (k_right, 5000, .inr (.inl v8)))] H := hP
      have hD : va_D A [(h0, .inr (9, [.int size_, .int width_, .int full_, .ref left_, .ref right_, .ref variables_])), (left_, .inl (k_left, 5000, .inr (.inl v7))), (right_, .inl (k_right, 5000, .inr (.inl v8)))] := hD
      have hK : va_K (dC, dI) vwCl [(k_left, .long), (k_right, .long)] s := hK
      refine lv_if_eq (tgt := 79) hx hb dc_Ro_sink_35 (by decide) (fun h35 => ?_) (fun h35 => ?_)
      · have hw := hw.1 h35
        exact k9 () hw _ _ _ ⟨hK.sub [0, 1] rfl, hP.sub [0, 1, 2] rfl, hD.sub [0, 1, 2] (by decide) rfl, hS, lv_sub hl [3, 2, 1, 0] rfl⟩
      · have hw := hw.2 h35
        refine lv_aload_n hx hb dc_Ro_sink_38 rfl (lv_at hl 3 rfl) ?_
        refine va_get (D := (dC, dI)) (ci := 9) (v := .ref left_) (C := "StrataBase$Rows") (T := tb_Ro) (N := 6) hx hb hT in_Ro hown hK hP 0 rfl rfl 3 (by decide) (hT _ wd_501) (fun _ h9 => h9) rfl dc_Ro_sink_39 ?_
        refine lv_iload hx hb dc_Ro_sink_42 (lv_at hl 0 rfl) ?_
        refine lv_aload_n hx hb dc_Ro_sink_44 rfl (lv_at hl 3 rfl) ?_
        refine va_get (D := (dC, dI)) (ci := 9) (v := .ref left_) (C := "StrataBase$Rows") (T := tb_Ro) (N := 6) hx hb hT in_Ro hown hK hP 0 rfl rfl 3 (by decide) (hT _ wd_501) (fun _ h9 => h9) rfl dc_Ro_sink_45 ?_
        refine lv_iload hx hb dc_Ro_sink_48 (lv_at hl 0 rfl) ?_
        refine lv_iload_n hx hb dc_Ro_sink_50 rfl (lv_at hl 4 rfl) ?_
        refine lv_isub hx hb dc_Ro_sink_51 ?_
        refine lv_topi (fun y12 ey12 => ?_)
        have hw := hw y12 ey12
        obtain ⟨hv13, hw⟩ := hw
        refine va_lald hx hb hK hP 1 0 rfl rfl hv13 dc_Ro_sink_52 ?_
        refine lv_topl (fun y14 ey14 => ?_)
        have hw := hw y14 ey14
        obtain ⟨hv15, hw⟩ := hw
        refine va_last hx hb hK hP hD hS 1 0 rfl rfl hv15 dc_Ro_sink_53 (fun H locs hP hD hS => ?_)
        have hP : va_P (dC, dI) vwCl [(h0, .inr (9, [.int size_, .int width_, .int full_, .ref left_, .ref right_, .ref variables_])), (left_, .inl (k_left, 5000, .inr (.inl (vp_updL v7 v6.toNatClampNeg y14)))), (right_, .inl (k_right, 5000, .inr (.inl v8)))] H := hP
        have hD : va_D A [(h0, .inr (9, [.int size_, .int width_, .int full_, .ref left_, .ref right_, .ref variables_])), (left_, .inl (k_left, 5000, .inr (.inl (vp_updL v7 v6.toNatClampNeg y14)))), (right_, .inl (k_right, 5000, .inr (.inl v8)))] := hD
        obtain ⟨g16, eg16⟩ : ∃ z9 : Nat → Int64, z9 = vp_updL v7 v6.toNatClampNeg y14 := ⟨_, rfl⟩
        rw [← eg16] at hP hD
        have hw := hw g16 eg16
        refine lv_aload_n hx hb dc_Ro_sink_54 rfl (lv_at hl 3 rfl) ?_
        refine va_get (D := (dC, dI)) (ci := 9) (v := .ref right_) (C := "StrataBase$Rows") (T := tb_Ro) (N := 6) hx hb hT in_Ro hown hK hP 0 rfl rfl 4 (by decide) (hT _ wd_502) (fun _ h9 => h9) rfl dc_Ro_sink_55 ?_
        refine lv_iload hx hb dc_Ro_sink_58 (lv_at hl 0 rfl) ?_
        refine lv_aload_n hx hb dc_Ro_sink_60 rfl (lv_at hl 3 rfl) ?_
        refine va_get (D := (dC, dI)) (ci := 9) (v := .ref right_) (C := "StrataBase$Rows") (T := tb_Ro) (N := 6) hx hb hT in_Ro hown hK hP 0 rfl rfl 4 (by decide) (hT _ wd_502) (fun _ h9 => h9) rfl dc_Ro_sink_61 ?_
        refine lv_iload hx hb dc_Ro_sink_64 (lv_at hl 0 rfl) ?_
        refine lv_iload_n hx hb dc_Ro_sink_66 rfl (lv_at hl 4 rfl) ?_
        refine lv_isub hx hb dc_Ro_sink_67 ?_
        refine lv_topi (fun y17 ey17 => ?_)
        have hw := hw y17 ey17
        obtain ⟨hv18, hw⟩ := hw
        refine va_lald hx hb hK hP 2 1 rfl rfl hv18 dc_Ro_sink_68 ?_
        refine lv_topl (fun y19 ey19 => ?_)
        have hw := hw y19 ey19
        obtain ⟨hv20, hw⟩ := hw
        refine va_last hx hb hK hP hD hS 2 1 rfl rfl hv20 dc_Ro_sink_69 (fun H locs hP hD hS => ?_)
        have hP : va_P (dC, dI) vwCl [(h0, .inr (9, [.int size_, .int width_, .int full_, .ref left_, .ref right_, .ref variables_])), (left_, .inl (k_left, 5000, .inr (.inl g16))), (right_, .inl (k_right, 5000, .inr (.inl (vp_updL v8 v6.toNatClampNeg y19))))] H := hP
        have hD : va_D A [(h0, .inr (9, [.int size_, .int width_, .int full_, .ref left_, .ref right_, .ref variables_])), (left_, .inl (k_left, 5000, .inr (.inl g16))), (right_, .inl (k_right, 5000, .inr (.inl (vp_updL v8 v6.toNatClampNeg y19))))] := hD
        obtain ⟨g21, eg21⟩ : ∃ z9 : Nat → Int64, z9 = vp_updL v8 v6.toNatClampNeg y19 := ⟨_, rfl⟩
        rw [← eg21] at hP hD
        have hw := hw g21 eg21
        refine lv_iload hx hb dc_Ro_sink_70 (lv_at hl 0 rfl) ?_
        refine lv_iload_n hx hb dc_Ro_sink_72 rfl (lv_at hl 4 rfl) ?_
        refine lv_isub hx hb dc_Ro_sink_73 ?_
        refine lv_topi (fun y22 ey22 => ?_)
        have hw := hw y22 ey22
        refine lv_istore (lv' := [(7, .int y22), (5, .long y4), (3, .long y2), (0, .ref h0), (2, .int a1)]) hx hb dc_Ro_sink_74 hl (by decide) rfl (fun ls hl => ?_)
        refine lv_goto (tgt := 18) hx hb dc_Ro_sink_76 (by decide) ?_
        exact ih5 (y22, g16, g21) hw _ _ _ ⟨hK.sub [0, 1] rfl, hP.sub [0, 1, 2] rfl, hD.sub [0, 1, 2] (by decide) rfl, hS, lv_sub hl [0, 1, 2, 3, 4] rfl⟩
  intro x9 hw H locs ls hI
  obtain ⟨hK, hP, hD, hS, hl⟩ := hI
  unfold jw_met_Ro_sink_79 at hw
  refine W.eq (g2 := F0 m 79 ls []) rfl ?_
  refine lv_aload_n hx hb dc_Ro_sink_79 rfl (lv_at hl 0 rfl) ?_
  refine va_get (D := (dC, dI)) (ci := 9) (v := .ref left_) (C := "StrataBase$Rows") (T := tb_Ro) (N := 6) hx hb hT in_Ro hown hK hP 0 rfl rfl 3 (by decide) (hT _ wd_501) (fun _ h9 => h9) rfl dc_Ro_sink_80 ?_
  refine lv_iload hx hb dc_Ro_sink_83 (lv_at hl 3 rfl) ?_
  refine lv_lload_n hx hb dc_Ro_sink_85 rfl (lv_at hl 1 rfl) ?_
  obtain ⟨hv23, hw⟩ := hw
  refine va_last hx hb hK hP hD hS 1 0 rfl rfl hv23 dc_Ro_sink_86 (fun H locs hP hD hS => ?_)
  have hP : va_P (dC, dI) vwCl [(h0, .inr (9, [.int size_, .int width_, .int full_, .ref left_, .ref right_, .ref variables_])), (left_, .inl (k_left, 5000, .inr (.inl (vp_updL v7 v6.toNatClampNeg y2)))), (right_, .inl (k_right, 5000, .inr (.inl v8)))] H := hP
  have hD : va_D A [(h0, .inr (9, [.int size_, .int width_, .int full_, .ref left_, .ref right_, .ref variables_])), (left_, .inl (k_left, 5000, .inr (.inl (vp_updL v7 v6.toNatClampNeg y2)))), (right_, .inl (k_right, 5000, .inr (.inl v8)))] := hD
  obtain ⟨g24, eg24⟩ : ∃ z9 : Nat → Int64, z9 = vp_updL v7 v6.toNatClampNeg y2 := ⟨_, rfl⟩
  rw [← eg24] at hP hD
  have hw := hw g24 eg24
  refine lv_aload_n hx hb dc_Ro_sink_87 rfl (lv_at hl 0 rfl) ?_
  refine va_get (D := (dC, dI)) (ci := 9) (v := .ref right_) (C := "StrataBase$Rows") (T := tb_Ro) (N := 6) hx hb hT in_Ro hown hK hP 0 rfl rfl 4 (by decide) (hT _ wd_502) (fun _ h9 => h9) rfl dc_Ro_sink_88 ?_
  refine lv_iload hx hb dc_Ro_sink_91 (lv_at hl 3 rfl) ?_
  refine lv_lload hx hb dc_Ro_sink_93 (lv_at hl 2 rfl) ?_
  obtain ⟨hv25, hw⟩ := hw
  refine va_last hx hb hK hP hD hS 2 1 rfl rfl hv25 dc_Ro_sink_95 (fun H locs hP hD hS => ?_)
  have hP : va_P (dC, dI) vwCl [(h0, .inr (9, [.int size_, .int width_, .int full_, .ref left_, .ref right_, .ref variables_])), (left_, .inl (k_left, 5000, .inr (.inl g24))), (right_, .inl (k_right, 5000, .inr (.inl (vp_updL v8 v6.toNatClampNeg y4))))] H := hP
  have hD : va_D A [(h0, .inr (9, [.int size_, .int width_, .int full_, .ref left_, .ref right_, .ref variables_])), (left_, .inl (k_left, 5000, .inr (.inl g24))), (right_, .inl (k_right, 5000, .inr (.inl (vp_updL v8 v6.toNatClampNeg y4))))] := hD
  obtain ⟨g26, eg26⟩ : ∃ z9 : Nat → Int64, z9 = vp_updL v8 v6.toNatClampNeg y4 := ⟨_, rfl⟩
  rw [← eg26] at hP hD
  have hw := hw g26 eg26
  refine W.widen (k := 0) (n := 0) (Nat.le_of_ble_eq_true rfl) (Nat.le_of_ble_eq_true rfl) ?_
  exact W.vret hx hb hr (fun t ht hW => ⟨⟨(g24, g26), rfl, hw, by rw [ht]; exact hP, va_K.moved hW.alike hK, hD⟩, hS.F ht⟩) hS.2.2 dc_Ro_sink_96

def lw_met_Ro_sort_23 (post : ((Nat → Int64) × (Nat → Int64)) → Prop) (J_lw_met_Ro_sort_9 : (Int32 × (Nat → Int64) × (Nat → Int64)) → Prop) (size_ : Int32) (v2 : Int32) (y6 : Int32) : Nat → (Int32 × (Nat → Int64) × (Nat → Int64)) → Prop
  | 0, _ => False
  | n7_ + 1, (v8, v9, v10) => ((size_ ≤ v8 → (J_lw_met_Ro_sort_9 ((v2 + 1), v9, v10))) ∧ (¬ (size_ ≤ v8) → (wp_met_Ro_sink (fun (u9 : (Nat → Int64) × (Nat → Int64)) => match u9 with | (o11, o12) => (lw_met_Ro_sort_23 post J_lw_met_Ro_sort_9 size_ v2 y6 n7_ ((v8 + 1), o11, o12))) v8 y6 v9 v10)))
def lw_met_Ro_sort_9 (post : ((Nat → Int64) × (Nat → Int64)) → Prop) (F_gaps_Ro : Nat → Int32) (size_ : Int32) : Nat → (Int32 × (Nat → Int64) × (Nat → Int64)) → Prop
  | 0, _ => False
  | n1_ + 1, (v2, v3, v4) => (((9 : Int32) ≤ v2 → (post (v3, v4))) ∧ (¬ ((9 : Int32) ≤ v2) → (vp_in v2 9 ∧ (∀ y6 : Int32, y6 = F_gaps_Ro v2.toNatClampNeg → (∃ n9 : Nat, lw_met_Ro_sort_23 post (fun x9 => lw_met_Ro_sort_9 post F_gaps_Ro size_ n1_ x9) size_ v2 y6 n9 (y6, v3, v4))))))
def wp_met_Ro_sort (post : ((Nat → Int64) × (Nat → Int64)) → Prop) (size_ : Int32) (F_left : Nat → Int64) (F_right : Nat → Int64) (F_gaps_Ro : Nat → Int32) : Prop := ∃ n9 : Nat, lw_met_Ro_sort_9 post F_gaps_Ro size_ n9 ((0 : Int32), F_left, F_right)
set_option maxHeartbeats 4000000 in
set_option maxRecDepth 100000 in
theorem met_Ro_sort (l : Launch) (dC : Nat → ClassId) (dI : Nat → Nat → Nat) (h0 : Nat) (left_ : Nat) (right_ : Nat) (variables_ : Nat) (size_ : Int32) (width_ : Int32) (full_ : Int32) (F_left : Nat → Int64) (F_right : Nat → Int64) (k_left : ClassId) (k_right : ClassId) (gaps_Ro : Nat) (F_gaps_Ro : Nat → Int32) (sz : Nat) {post : ((Nat → Int64) × (Nat → Int64)) → Prop} (hw : wp_met_Ro_sort post size_ F_left F_right F_gaps_Ro) : Met l my_Ro_sort (Cond.code my_Ro_sort cd_Ro_sort 6 none :: tblG) ({ frames := 2, cells := 0, slots := 0, locals := 52 }) (va_Pc [.ref h0] (fun U => U.heap.size = sz ∧ va_P (dC, dI) vwCl [(h0, .inr (9, [.int size_, .int width_, .int full_, .ref left_, .ref right_, .ref variables_])), (left_, .inl (k_left, 5000, .inr (.inl F_left))), (right_, .inl (k_right, 5000, .inr (.inl F_right)))] U.heap ∧ va_K (dC, dI) vwCl [(k_left, .long), (k_right, .long)] U ∧ va_D (fun _ => True) [(h0, .inr (9, [.int size_, .int width_, .int full_, .ref left_, .ref right_, .ref variables_])), (left_, .inl (k_left, 5000, .inr (.inl F_left))), (right_, .inl (k_right, 5000, .inr (.inl F_right)))] ∧ va_Z "StrataBase$Rows" "GAPS" "[I" (.ref gaps_Ro) (va_A [(h0, .inr (9, [.int size_, .int width_, .int full_, .ref left_, .ref right_, .ref variables_])), (left_, .inl (k_left, 5000, .inr (.inl F_left))), (right_, .inl (k_right, 5000, .inr (.inl F_right)))] sz) U U.heap ∧ va_T .int gaps_Ro 9 (fun j => .int (F_gaps_Ro j)) (va_A [(h0, .inr (9, [.int size_, .int width_, .int full_, .ref left_, .ref right_, .ref variables_])), (left_, .inl (k_left, 5000, .inr (.inl F_left))), (right_, .inl (k_right, 5000, .inr (.inl F_right)))] sz) U U.heap)) (va_Qv post (fun (u : (Nat → Int64) × (Nat → Int64)) (t : State) => match u with | (o0, o1) => va_P (dC, dI) vwCl [(h0, .inr (9, [.int size_, .int width_, .int full_, .ref left_, .ref right_, .ref variables_])), (left_, .inl (k_left, 5000, .inr (.inl o0))), (right_, .inl (k_right, 5000, .inr (.inl o1)))] t.heap ∧ va_K (dC, dI) vwCl [(k_left, .long), (k_right, .long)] t ∧ va_D (va_A [(h0, .inr (9, [.int size_, .int width_, .int full_, .ref left_, .ref right_, .ref variables_])), (left_, .inl (k_left, 5000, .inr (.inl F_left))), (right_, .inl (k_right, 5000, .inr (.inl F_right)))] sz) [(h0, .inr (9, [.int size_, .int width_, .int full_, .ref left_, .ref right_, .ref variables_])), (left_, .inl (k_left, 5000, .inr (.inl o0))), (right_, .inl (k_right, 5000, .inr (.inl o1)))]) (va_A [(h0, .inr (9, [.int size_, .int width_, .int full_, .ref left_, .ref right_, .ref variables_])), (left_, .inl (k_left, 5000, .inr (.inl F_left))), (right_, .inl (k_right, 5000, .inr (.inl F_right)))] sz)) 0 0 (va_A [(h0, .inr (9, [.int size_, .int width_, .int full_, .ref left_, .ref right_, .ref variables_])), (left_, .inl (k_left, 5000, .inr (.inl F_left))), (right_, .inl (k_right, 5000, .inr (.inl F_right)))] sz) := by
  refine Met.ofW (cc := cd_Ro_sort) (maxL := 6) (ret := none) (by decide) rfl ?_
  intro p e s m args below meth c s₁ B hml hv
  obtain ⟨rfl, hsz, hP, hK, hD0, hZ_Ro, hG_Ro⟩ := hv
  have hx := B.exec
  have hb := B.bytes
  have hr := B.returns
  have hT : ∀ w ∈ tblG, w.before _ s = true := fun w h => atoms_spec (ws := (Cond.code my_Ro_sort cd_Ro_sort 6 none :: tblG)) B.pre w (List.mem_cons_of_mem _ h)
  have hown : s.vm.findClass "StrataBase$Rows" = some m.cls := findClass_of_methodNamed B.named
  have hlocks := B.notSynchronized
  subst hsz
  have hD := hD0.self (sz := s.heap.size)
  generalize hAe : va_A [(h0, .inr (9, [.int size_, .int width_, .int full_, .ref left_, .ref right_, .ref variables_])), (left_, .inl (k_left, 5000, .inr (.inl F_left))), (right_, .inl (k_right, 5000, .inr (.inl F_right)))] s.heap.size = A at hD hZ_Ro hG_Ro ⊢
  have hA : ∀ q : Nat, s.heap.size ≤ q → A q := fun q h => by rw [← hAe]; exact Or.inr h
  have hS : va_S A s.heap s.heap [] := va_S.rf
  have hl := lv_entry ([.ref h0]) (n := 6) (Nat.le_of_ble_eq_true rfl)
  rw [lg_entry_eq]
  generalize (lg_sl ([.ref h0]) ++ List.replicate (6 - (lg_sl ([.ref h0])).length) Slot.unset).toArray = ls at hl ⊢
  have hl : lv_has ls 6 [(0, .ref h0)] := hl
  unfold wp_met_Ro_sort at hw
  refine va_gets hx hb hZ_Ro hS hown (hT _ wd_1263) (fun _ h9 => h9) dc_Ro_sort_0 ?_
  refine lv_astore_n (lv' := [(1, .ref gaps_Ro), (0, .ref h0)]) hx hb dc_Ro_sort_3 rfl hl (by decide) rfl (fun ls hl => ?_)
  refine lv_aload_n hx hb dc_Ro_sort_4 rfl (lv_at hl 0 rfl) ?_
  refine va_tlen (v := 9) hx hb hG_Ro hS rfl dc_Ro_sort_5 ?_
  refine lv_istore_n (lv' := [(2, .int 9), (1, .ref gaps_Ro), (0, .ref h0)]) hx hb dc_Ro_sort_6 rfl hl (by decide) rfl (fun ls hl => ?_)
  refine lv_iconst (v := 0) hx hb dc_Ro_sort_7 (by decide) ?_
  refine lv_istore_n (lv' := [(3, .int 0), (2, .int 9), (1, .ref gaps_Ro), (0, .ref h0)]) hx hb dc_Ro_sort_8 rfl hl (by decide) rfl (fun ls hl => ?_)
  obtain ⟨n9, hw⟩ := hw
  refine lp_fuel (σ := Int32 × (Nat → Int64) × (Nat → Int64)) _ (fun x9 H locs ls => match x9 with | (v2, v3, v4) => va_K (dC, dI) vwCl [(k_left, .long), (k_right, .long)] s ∧ va_P (dC, dI) vwCl [(h0, .inr (9, [.int size_, .int width_, .int full_, .ref left_, .ref right_, .ref variables_])), (left_, .inl (k_left, 5000, .inr (.inl v3))), (right_, .inl (k_right, 5000, .inr (.inl v4)))] H ∧ va_D A [(h0, .inr (9, [.int size_, .int width_, .int full_, .ref left_, .ref right_, .ref variables_])), (left_, .inl (k_left, 5000, .inr (.inl v3))), (right_, .inl (k_right, 5000, .inr (.inl v4)))] ∧ va_S A s.heap H locs ∧ lv_has ls 6 [(3, .int v2), (2, .int 9), (1, .ref gaps_Ro), (0, .ref h0)]) (fun x9 h9 => by simp only [lw_met_Ro_sort_9] at h9) ?_ hw ⟨hK.sub [0, 1] rfl, hP.sub [0, 1, 2] rfl, hD.sub [0, 1, 2] (by decide) rfl, hS, lv_sub hl [0, 1, 2, 3] rfl⟩
  intro n1_ x9 hw ih1 H locs ls hI
  obtain ⟨v2, v3, v4⟩ := x9
  obtain ⟨hK, hP, hD, hS, hl⟩ := hI
  unfold lw_met_Ro_sort_9 at hw
  refine lv_iload_n hx hb dc_Ro_sort_9 rfl (lv_at hl 0 rfl) ?_
  refine lv_iload_n hx hb dc_Ro_sort_10 rfl (lv_at hl 1 rfl) ?_
  refine lv_icmp_ge (tgt := 52) hx hb dc_Ro_sort_11 (by decide) (fun h11 => ?_) (fun h11 => ?_)
  · have hw := hw.1 h11
    refine W.widen (k := 0) (n := 0) (Nat.le_of_ble_eq_true rfl) (Nat.le_of_ble_eq_true rfl) ?_
    exact W.vret hx hb hr (fun t ht hW => ⟨⟨(v3, v4), rfl, hw, by rw [ht]; exact hP, va_K.moved hW.alike hK, hD⟩, hS.F ht⟩) hS.2.2 dc_Ro_sort_52
  · have hw := hw.2 h11
    refine lv_aload_n hx hb dc_Ro_sort_14 rfl (lv_at hl 2 rfl) ?_
    refine lv_iload_n hx hb dc_Ro_sort_15 rfl (lv_at hl 0 rfl) ?_
    obtain ⟨hv5, hw⟩ := hw
    refine va_ti (v := .int (F_gaps_Ro v2.toNatClampNeg)) hx hb hG_Ro hS hv5 rfl dc_Ro_sort_16 ?_
    refine lv_topi (fun y6 ey6 => ?_)
    have hw := hw y6 ey6
    refine lv_istore (lv' := [(4, .int y6), (3, .int v2), (2, .int 9), (1, .ref gaps_Ro), (0, .ref h0)]) hx hb dc_Ro_sort_17 hl (by decide) rfl (fun ls hl => ?_)
    refine lv_iload hx hb dc_Ro_sort_19 (lv_at hl 0 rfl) ?_
    refine lv_istore (lv' := [(5, .int y6), (4, .int y6), (3, .int v2), (2, .int 9), (1, .ref gaps_Ro), (0, .ref h0)]) hx hb dc_Ro_sort_21 hl (by decide) rfl (fun ls hl => ?_)
    obtain ⟨n9, hw⟩ := hw
    refine lp_fuel (σ := Int32 × (Nat → Int64) × (Nat → Int64)) _ (fun x9 H locs ls => match x9 with | (v8, v9, v10) => va_K (dC, dI) vwCl [(k_left, .long), (k_right, .long)] s ∧ va_P (dC, dI) vwCl [(h0, .inr (9, [.int size_, .int width_, .int full_, .ref left_, .ref right_, .ref variables_])), (left_, .inl (k_left, 5000, .inr (.inl v9))), (right_, .inl (k_right, 5000, .inr (.inl v10)))] H ∧ va_D A [(h0, .inr (9, [.int size_, .int width_, .int full_, .ref left_, .ref right_, .ref variables_])), (left_, .inl (k_left, 5000, .inr (.inl v9))), (right_, .inl (k_right, 5000, .inr (.inl v10)))] ∧ va_S A s.heap H locs ∧ lv_has ls 6 [(5, .int v8), (4, .int y6), (3, .int v2), (2, .int 9), (1, .ref gaps_Ro), (0, .ref h0)]) (fun x9 h9 => by simp only [lw_met_Ro_sort_23] at h9) ?_ hw ⟨hK.sub [0, 1] rfl, hP.sub [0, 1, 2] rfl, hD.sub [0, 1, 2] (by decide) rfl, hS, lv_sub hl [0, 1, 2, 3, 4, 5] rfl⟩
    intro n7_ x9 hw ih7 H locs ls hI
    obtain ⟨v8, v9, v10⟩ := x9
    obtain ⟨hK, hP, hD, hS, hl⟩ := hI
    unfold lw_met_Ro_sort_23 at hw
    refine lv_iload hx hb dc_Ro_sort_23 (lv_at hl 0 rfl) ?_
    refine lv_aload_n hx hb dc_Ro_sort_25 rfl (lv_at hl 5 rfl) ?_
    refine va_get (D := (dC, dI)) (ci := 9) (v := .int size_) (C := "StrataBase$Rows") (T := tb_Ro) (N := 6) hx hb hT in_Ro hown hK hP 0 rfl rfl 0 (by decide) (hT _ wd_494) (fun _ h9 => h9) rfl dc_Ro_sort_26 ?_
    refine lv_icmp_ge (tgt := 46) hx hb dc_Ro_sort_29 (by decide) (fun h29 => ?_) (fun h29 => ?_)
    · have hw := hw.1 h29
      refine lv_iinc (k := 2) (v := v2 + 1) (lv' := [(3, .int (v2 + 1)), (5, .int v8), (4, .int y6), (2, .int 9), (1, .ref gaps_Ro), (0, .ref h0)]) hx hb dc_Ro_sort_46 hl rfl rfl (by decide) rfl (fun ls hl => ?_)
      refine lv_goto (tgt := 9) hx hb dc_Ro_sort_49 (by decide) ?_
      exact ih1 ((v2 + 1), v9, v10) hw _ _ _ ⟨hK.sub [0, 1] rfl, hP.sub [0, 1, 2] rfl, hD.sub [0, 1, 2] (by decide) rfl, hS, lv_sub hl [0, 3, 4, 5] rfl⟩
    · have hw := hw.2 h29
      refine lv_aload_n hx hb dc_Ro_sort_32 rfl (lv_at hl 5 rfl) ?_
      refine lv_iload hx hb dc_Ro_sort_33 (lv_at hl 0 rfl) ?_
      refine lv_iload hx hb dc_Ro_sort_35 (lv_at hl 1 rfl) ?_
      have hPc := hP.sub (ws' := [(h0, .inr (9, [.int size_, .int width_, .int full_, .ref left_, .ref right_, .ref variables_])), (left_, .inl (k_left, 5000, .inr (.inl v9))), (right_, .inl (k_right, 5000, .inr (.inl v10)))]) [0, 1, 2] rfl
      have hDc := hD.sub (ws' := [(h0, .inr (9, [.int size_, .int width_, .int full_, .ref left_, .ref right_, .ref variables_])), (left_, .inl (k_left, 5000, .inr (.inl v9))), (right_, .inl (k_right, 5000, .inr (.inl v10)))]) [0, 1, 2] (by decide) rfl
      have hKc := hK.sub (tys' := [(k_left, .long), (k_right, .long)]) [0, 1] rfl
      have hFc := va_free (wc := [(h0, .inr (9, [.int size_, .int width_, .int full_, .ref left_, .ref right_, .ref variables_])), (left_, .inl (k_left, 5000, .inr (.inl v9))), (right_, .inl (k_right, 5000, .inr (.inl v10)))]) hD hS hA [0, 1, 2] rfl
      refine va_callv (va_runV (As := [.int v8, .int y6]) (rest := []) ⟨hx, hb, hml, hown, hT⟩ (met_Ro_sink l dC dI h0 left_ right_ variables_ v8 y6 size_ width_ full_ v9 v10 k_left k_right H.size hw) (cwV 2 hT (gd_V wd_1265 wd_1267 sl_Ro_sink wd_12 wd_1268) rfl rfl rfl (by decide +kernel) ⟨Nat.le_of_ble_eq_true rfl, Nat.le_of_ble_eq_true rfl⟩) ⟨fun a U g mk q => by obtain ⟨q0, q1, qP, qK, qD⟩ := q; exact ⟨q0, q1, qP, va_K.moved (u := U) (U := U.calling g mk a) (Vm.Alike.refl U.vm) qK, qD⟩, va_recv hK hP (q0 := 0) (ci := 9) rfl rfl, fun U hU hW => ⟨rfl, by rw [hU], by rw [hU]; exact hPc, va_K.moved hW.alike hKc, hDc.weaken (fun _ _ _ _ => trivial)⟩⟩ rfl rfl hl.1 rfl (lv_room (Nat.le_of_ble_eq_true rfl)) dc_Ro_sort_37 ⟨(Nat.le_of_ble_eq_true rfl), (Nat.le_of_ble_eq_true rfl)⟩) hS (fun q _ h => hFc q h) hFc (fun u9 t H1 locs ht hvm hw hB hz1 hk1 hS => ?_)
      obtain ⟨o11, o12⟩ := u9
      obtain ⟨hP1, hK1, hD1⟩ := hB
      rw [ht] at hP1
      have hK1 := va_K.moved hvm.symm hK1
      obtain ⟨hP, hD⟩ := va_join (wr := []) (w1 := [(h0, .inr (9, [.int size_, .int width_, .int full_, .ref left_, .ref right_, .ref variables_])), (left_, .inl (k_left, 5000, .inr (.inl o11))), (right_, .inl (k_right, 5000, .inr (.inl o12)))]) hP hD [0, 1, 2] [] rfl rfl (by decide) (by decide) hk1 hFc hP1 hD1
      have hK := (hK.sub (tys' := []) [] rfl).app hK1
      generalize H1 = H at hP hS ⊢
      have hP : va_P (dC, dI) vwCl [(h0, .inr (9, [.int size_, .int width_, .int full_, .ref left_, .ref right_, .ref variables_])), (left_, .inl (k_left, 5000, .inr (.inl o11))), (right_, .inl (k_right, 5000, .inr (.inl o12)))] H := hP
      have hD : va_D A [(h0, .inr (9, [.int size_, .int width_, .int full_, .ref left_, .ref right_, .ref variables_])), (left_, .inl (k_left, 5000, .inr (.inl o11))), (right_, .inl (k_right, 5000, .inr (.inl o12)))] := hD
      have hK : va_K (dC, dI) vwCl [(k_left, .long), (k_right, .long)] s := hK
      refine lv_iinc (k := 0) (v := v8 + 1) (lv' := [(5, .int (v8 + 1)), (4, .int y6), (3, .int v2), (2, .int 9), (1, .ref gaps_Ro), (0, .ref h0)]) hx hb dc_Ro_sort_40 hl rfl rfl (by decide) rfl (fun ls hl => ?_)
      refine lv_goto (tgt := 23) hx hb dc_Ro_sort_43 (by decide) ?_
      exact ih7 ((v8 + 1), o11, o12) hw _ _ _ ⟨hK.sub [0, 1] rfl, hP.sub [0, 1, 2] rfl, hD.sub [0, 1, 2] (by decide) rfl, hS, lv_sub hl [0, 1, 2, 3, 4, 5] rfl⟩

def wp_met_Ro_has (post : Int32 → Unit → Prop) (a0 : Int32) (a1 : Int32) (size_ : Int32) (width_ : Int32) : Prop := ∀ y1 : Int32, y1 = (if a0 < 0 then (0 : Int32) else (if size_ ≤ a0 then (0 : Int32) else (if a1 < 0 then (0 : Int32) else (if width_ ≤ a1 then (0 : Int32) else (1 : Int32))))) → (post y1 ())
set_option maxHeartbeats 4000000 in
set_option maxRecDepth 100000 in
theorem met_Ro_has (l : Launch) (dC : Nat → ClassId) (dI : Nat → Nat → Nat) (h0 : Nat) (left_ : Nat) (right_ : Nat) (variables_ : Nat) (a0 : Int32) (a1 : Int32) (size_ : Int32) (width_ : Int32) (full_ : Int32) (sz : Nat) {post : Int32 → Unit → Prop} (hw : wp_met_Ro_has post a0 a1 size_ width_) : Met l my_Ro_has (Cond.code my_Ro_has cd_Ro_has 3 (some (.boolean)) :: tblG) ({ frames := 0, cells := 0, slots := 0, locals := 0 }) (va_Pc [.ref h0, .int a0, .int a1] (fun U => U.heap.size = sz ∧ va_P (dC, dI) vwCl [(h0, .inr (9, [.int size_, .int width_, .int full_, .ref left_, .ref right_, .ref variables_]))] U.heap ∧ va_K (dC, dI) vwCl [] U ∧ va_D (fun _ => True) [(h0, .inr (9, [.int size_, .int width_, .int full_, .ref left_, .ref right_, .ref variables_]))])) (va_Qi post (fun (u : Unit) (t : State) => va_P (dC, dI) vwCl [(h0, .inr (9, [.int size_, .int width_, .int full_, .ref left_, .ref right_, .ref variables_]))] t.heap ∧ va_K (dC, dI) vwCl [] t ∧ va_D (va_A [(h0, .inr (9, [.int size_, .int width_, .int full_, .ref left_, .ref right_, .ref variables_]))] sz) [(h0, .inr (9, [.int size_, .int width_, .int full_, .ref left_, .ref right_, .ref variables_]))]) (va_A [(h0, .inr (9, [.int size_, .int width_, .int full_, .ref left_, .ref right_, .ref variables_]))] sz)) 0 0 (va_A [(h0, .inr (9, [.int size_, .int width_, .int full_, .ref left_, .ref right_, .ref variables_]))] sz) := by
  refine Met.ofW (cc := cd_Ro_has) (maxL := 3) (ret := (some (.boolean))) (by decide) rfl ?_
  intro p e s m args below meth c s₁ B hml hv
  obtain ⟨rfl, hsz, hP, hK, hD0⟩ := hv
  have hx := B.exec
  have hb := B.bytes
  have hr := B.returns
  have hT : ∀ w ∈ tblG, w.before _ s = true := fun w h => atoms_spec (ws := (Cond.code my_Ro_has cd_Ro_has 3 (some (.boolean)) :: tblG)) B.pre w (List.mem_cons_of_mem _ h)
  have hown : s.vm.findClass "StrataBase$Rows" = some m.cls := findClass_of_methodNamed B.named
  have hlocks := B.notSynchronized
  subst hsz
  have hD := hD0.self (sz := s.heap.size)
  generalize hAe : va_A [(h0, .inr (9, [.int size_, .int width_, .int full_, .ref left_, .ref right_, .ref variables_]))] s.heap.size = A at hD ⊢
  have hA : ∀ q : Nat, s.heap.size ≤ q → A q := fun q h => by rw [← hAe]; exact Or.inr h
  have hS : va_S A s.heap s.heap [] := va_S.rf
  have hl := lv_entry ([.ref h0, .int a0, .int a1]) (n := 3) (Nat.le_of_ble_eq_true rfl)
  rw [lg_entry_eq]
  generalize (lg_sl ([.ref h0, .int a0, .int a1]) ++ List.replicate (3 - (lg_sl ([.ref h0, .int a0, .int a1])).length) Slot.unset).toArray = ls at hl ⊢
  have hl : lv_has ls 3 [(0, .ref h0), (1, .int a0), (2, .int a1)] := hl
  unfold wp_met_Ro_has at hw
  refine lv_iload_n hx hb dc_Ro_has_0 rfl (lv_at hl 1 rfl) ?_
  refine jn_top (pc2 := 29) (rest := []) (fun y1 => y1 = (if a0 < 0 then (0 : Int32) else (if size_ ≤ a0 then (0 : Int32) else (if a1 < 0 then (0 : Int32) else (if width_ ≤ a1 then (0 : Int32) else (1 : Int32)))))) (fun y1 ey1 => ?_) (fun k9 => ?_)
  rotate_left
  · refine lv_if_lt (tgt := 28) hx hb dc_Ro_has_1 (by decide) (fun h1 => ?_) (fun h1 => ?_)
    · refine lv_iconst (v := 0) hx hb dc_Ro_has_28 (by decide) ?_
      exact k9 (0 : Int32) (by rw [if_pos h1])
    · refine lv_iload_n hx hb dc_Ro_has_4 rfl (lv_at hl 1 rfl) ?_
      refine lv_aload_n hx hb dc_Ro_has_5 rfl (lv_at hl 0 rfl) ?_
      refine va_get (D := (dC, dI)) (ci := 9) (v := .int size_) (C := "StrataBase$Rows") (T := tb_Ro) (N := 6) hx hb hT in_Ro hown hK hP 0 rfl rfl 0 (by decide) (hT _ wd_494) (fun _ h9 => h9) rfl dc_Ro_has_6 ?_
      refine lv_icmp_ge (tgt := 28) hx hb dc_Ro_has_9 (by decide) (fun h9 => ?_) (fun h9 => ?_)
      · refine lv_iconst (v := 0) hx hb dc_Ro_has_28 (by decide) ?_
        exact k9 (0 : Int32) (by rw [if_neg h1, if_pos h9])
      · refine lv_iload_n hx hb dc_Ro_has_12 rfl (lv_at hl 2 rfl) ?_
        refine lv_if_lt (tgt := 28) hx hb dc_Ro_has_13 (by decide) (fun h13 => ?_) (fun h13 => ?_)
        · refine lv_iconst (v := 0) hx hb dc_Ro_has_28 (by decide) ?_
          exact k9 (0 : Int32) (by rw [if_neg h1, if_neg h9, if_pos h13])
        · refine lv_iload_n hx hb dc_Ro_has_16 rfl (lv_at hl 2 rfl) ?_
          refine lv_aload_n hx hb dc_Ro_has_17 rfl (lv_at hl 0 rfl) ?_
          refine va_get (D := (dC, dI)) (ci := 9) (v := .int width_) (C := "StrataBase$Rows") (T := tb_Ro) (N := 6) hx hb hT in_Ro hown hK hP 0 rfl rfl 1 (by decide) (hT _ wd_496) (fun _ h9 => h9) rfl dc_Ro_has_18 ?_
          refine lv_icmp_ge (tgt := 28) hx hb dc_Ro_has_21 (by decide) (fun h21 => ?_) (fun h21 => ?_)
          · refine lv_iconst (v := 0) hx hb dc_Ro_has_28 (by decide) ?_
            exact k9 (0 : Int32) (by rw [if_neg h1, if_neg h9, if_neg h13, if_pos h21])
          · refine lv_iconst (v := 1) hx hb dc_Ro_has_24 (by decide) ?_
            refine lv_goto (tgt := 29) hx hb dc_Ro_has_25 (by decide) ?_
            exact k9 (1 : Int32) (by rw [if_neg h1, if_neg h9, if_neg h13, if_neg h21])
  have hw := hw y1 ey1
  have hzy1 : y1 = 0 ∨ y1 = 1 := by
    rw [ey1]; repeat' split
    all_goals first | exact Or.inl rfl | exact Or.inr rfl
  refine W.widen (k := 0) (n := 0) (Nat.le_of_ble_eq_true rfl) (Nat.le_of_ble_eq_true rfl) ?_
  exact W.zret (v := y1) hx hb hr (nz_n hzy1) (fun t ht hW => ⟨⟨y1, (), rfl, hw, by rw [ht]; exact hP, va_K.moved hW.alike hK, hD⟩, hS.F ht⟩) hS.2.2 dc_Ro_has_29

def wp_met_Ro_rankAt (post : Int32 → Unit → Prop) (a0 : Int32) (a1 : Int32) (F_left : Nat → Int64) (F_right : Nat → Int64) : Prop := (((6 : Int32) ≤ a1 → (vp_in a0 5000 ∧ (∀ y2 : Int64, y2 = F_right a0.toNatClampNeg → (∀ y3 : Int32, y3 = a1 - (6 : Int32) → (wp_met_Fa_rankIn (fun (r4 : Int32) (_ : Unit) => (post r4 ())) y2 y3))))) ∧ (¬ ((6 : Int32) ≤ a1) → (vp_in a0 5000 ∧ (∀ y6 : Int64, y6 = F_left a0.toNatClampNeg → (wp_met_Fa_rankIn (fun (r7 : Int32) (_ : Unit) => (post r7 ())) y6 a1)))))
set_option maxHeartbeats 4000000 in
set_option maxRecDepth 100000 in
theorem met_Ro_rankAt (l : Launch) (dC : Nat → ClassId) (dI : Nat → Nat → Nat) (h0 : Nat) (left_ : Nat) (right_ : Nat) (variables_ : Nat) (a0 : Int32) (a1 : Int32) (size_ : Int32) (width_ : Int32) (full_ : Int32) (F_left : Nat → Int64) (F_right : Nat → Int64) (k_left : ClassId) (k_right : ClassId) (sz : Nat) {post : Int32 → Unit → Prop} (hw : wp_met_Ro_rankAt post a0 a1 F_left F_right) : Met l my_Ro_rankAt (Cond.code my_Ro_rankAt cd_Ro_rankAt 3 (some (.int)) :: tblG) ({ frames := 1, cells := 0, slots := 0, locals := 22 }) (va_Pc [.ref h0, .int a0, .int a1] (fun U => U.heap.size = sz ∧ va_P (dC, dI) vwCl [(h0, .inr (9, [.int size_, .int width_, .int full_, .ref left_, .ref right_, .ref variables_])), (left_, .inl (k_left, 5000, .inr (.inl F_left))), (right_, .inl (k_right, 5000, .inr (.inl F_right)))] U.heap ∧ va_K (dC, dI) vwCl [(k_left, .long), (k_right, .long)] U ∧ va_D (fun _ => True) [(h0, .inr (9, [.int size_, .int width_, .int full_, .ref left_, .ref right_, .ref variables_])), (left_, .inl (k_left, 5000, .inr (.inl F_left))), (right_, .inl (k_right, 5000, .inr (.inl F_right)))])) (va_Qi post (fun (u : Unit) (t : State) => va_P (dC, dI) vwCl [(h0, .inr (9, [.int size_, .int width_, .int full_, .ref left_, .ref right_, .ref variables_])), (left_, .inl (k_left, 5000, .inr (.inl F_left))), (right_, .inl (k_right, 5000, .inr (.inl F_right)))] t.heap ∧ va_K (dC, dI) vwCl [(k_left, .long), (k_right, .long)] t ∧ va_D (va_A [(h0, .inr (9, [.int size_, .int width_, .int full_, .ref left_, .ref right_, .ref variables_])), (left_, .inl (k_left, 5000, .inr (.inl F_left))), (right_, .inl (k_right, 5000, .inr (.inl F_right)))] sz) [(h0, .inr (9, [.int size_, .int width_, .int full_, .ref left_, .ref right_, .ref variables_])), (left_, .inl (k_left, 5000, .inr (.inl F_left))), (right_, .inl (k_right, 5000, .inr (.inl F_right)))]) (va_A [(h0, .inr (9, [.int size_, .int width_, .int full_, .ref left_, .ref right_, .ref variables_])), (left_, .inl (k_left, 5000, .inr (.inl F_left))), (right_, .inl (k_right, 5000, .inr (.inl F_right)))] sz)) 0 0 (va_A [(h0, .inr (9, [.int size_, .int width_, .int full_, .ref left_, .ref right_, .ref variables_])), (left_, .inl (k_left, 5000, .inr (.inl F_left))), (right_, .inl (k_right, 5000, .inr (.inl F_right)))] sz) := by
  refine Met.ofW (cc := cd_Ro_rankAt) (maxL := 3) (ret := (some (.int))) (by decide) rfl ?_
  intro p e s m args below meth c s₁ B hml hv
  obtain ⟨rfl, hsz, hP, hK, hD0⟩ := hv
  have hx := B.exec
  have hb := B.bytes
  have hr := B.returns
  have hT : ∀ w ∈ tblG, w.before _ s = true := fun w h => atoms_spec (ws := (Cond.code my_Ro_rankAt cd_Ro_rankAt 3 (some (.int)) :: tblG)) B.pre w (List.mem_cons_of_mem _ h)
  have hown : s.vm.findClass "StrataBase$Rows" = some m.cls := findClass_of_methodNamed B.named
  have hlocks := B.notSynchronized
  subst hsz
  have hD := hD0.self (sz := s.heap.size)
  generalize hAe : va_A [(h0, .inr (9, [.int size_, .int width_, .int full_, .ref left_, .ref right_, .ref variables_])), (left_, .inl (k_left, 5000, .inr (.inl F_left))), (right_, .inl (k_right, 5000, .inr (.inl F_right)))] s.heap.size = A at hD ⊢
  have hA : ∀ q : Nat, s.heap.size ≤ q → A q := fun q h => by rw [← hAe]; exact Or.inr h
  have hS : va_S A s.heap s.heap [] := va_S.rf
  have hl := lv_entry ([.ref h0, .int a0, .int a1]) (n := 3) (Nat.le_of_ble_eq_true rfl)
  rw [lg_entry_eq]
  generalize (lg_sl ([.ref h0, .int a0, .int a1]) ++ List.replicate (3 - (lg_sl ([.ref h0, .int a0, .int a1])).length) Slot.unset).toArray = ls at hl ⊢
  have hl : lv_has ls 3 [(0, .ref h0), (1, .int a0), (2, .int a1)] := hl
  unfold wp_met_Ro_rankAt at hw
  refine lv_iload_n hx hb dc_Ro_rankAt_0 rfl (lv_at hl 2 rfl) ?_
  refine lv_bipush (v := 6) hx hb dc_Ro_rankAt_1 (by decide) ?_
  refine lv_icmp_ge (tgt := 19) hx hb dc_Ro_rankAt_3 (by decide) (fun h3 => ?_) (fun h3 => ?_)
  · have hw := hw.1 h3
    refine lv_aload_n hx hb dc_Ro_rankAt_19 rfl (lv_at hl 0 rfl) ?_
    refine va_get (D := (dC, dI)) (ci := 9) (v := .ref right_) (C := "StrataBase$Rows") (T := tb_Ro) (N := 6) hx hb hT in_Ro hown hK hP 0 rfl rfl 4 (by decide) (hT _ wd_502) (fun _ h9 => h9) rfl dc_Ro_rankAt_20 ?_
    refine lv_iload_n hx hb dc_Ro_rankAt_23 rfl (lv_at hl 1 rfl) ?_
    obtain ⟨hv1, hw⟩ := hw
    refine va_lald hx hb hK hP 2 1 rfl rfl hv1 dc_Ro_rankAt_24 ?_
    refine lv_topl (fun y2 ey2 => ?_)
    have hw := hw y2 ey2
    refine lv_iload_n hx hb dc_Ro_rankAt_25 rfl (lv_at hl 2 rfl) ?_
    refine lv_bipush (v := 6) hx hb dc_Ro_rankAt_26 (by decide) ?_
    refine lv_isub hx hb dc_Ro_rankAt_28 ?_
    refine lv_topi (fun y3 ey3 => ?_)
    have hw := hw y3 ey3
    have hPc := hP.sub (ws' := []) [] rfl
    have hDc := hD.sub (ws' := []) [] (by decide) rfl
    have hKc := hK.sub (tys' := []) [] rfl
    have hFc := va_free (wc := []) hD hS hA [] rfl
    refine va_calli (va_runS (As := [.long y2, .int y3]) (rest := []) ⟨hx, hb, hml, hown, hT⟩ (met_Fa_rankIn l dC dI y2 y3 s.heap.size hw) (va_cwS 2 hT (gd_S wd_1304 wd_1158 wd_8 wd_1159) rfl rfl rfl (by decide +kernel) ⟨Nat.le_of_ble_eq_true rfl, Nat.le_of_ble_eq_true rfl⟩) ⟨fun a U g mk q => by obtain ⟨q0, q1, qP, qK, qD⟩ := q; exact ⟨q0, q1, qP, va_K.moved (u := U) (U := U.calling g mk a) (Vm.Alike.refl U.vm) qK, qD⟩, fun U hU hW => ⟨rfl, by rw [hU], by rw [hU]; exact hPc, va_K.moved hW.alike hKc, hDc.weaken (fun _ _ _ _ => trivial)⟩⟩ rfl rfl hl.1 rfl (lv_room (Nat.le_of_ble_eq_true rfl)) dc_Ro_rankAt_29 ⟨(Nat.le_of_ble_eq_true rfl), (Nat.le_of_ble_eq_true rfl)⟩) hS (fun q _ h => hFc q h) hFc (fun r4 _ t H1 locs ht hvm hw hB hz1 hk1 hS => ?_)
    obtain ⟨hP1, hK1, hD1⟩ := hB
    rw [ht] at hP1
    have hK1 := va_K.moved hvm.symm hK1
    obtain ⟨hP, hD⟩ := va_join (wr := [(h0, .inr (9, [.int size_, .int width_, .int full_, .ref left_, .ref right_, .ref variables_])), (left_, .inl (k_left, 5000, .inr (.inl F_left))), (right_, .inl (k_right, 5000, .inr (.inl F_right)))]) (w1 := []) hP hD [] [0, 1, 2] rfl rfl (by decide) (by decide) hk1 hFc hP1 hD1
    have hK := (hK.sub (tys' := [(k_left, .long), (k_right, .long)]) [0, 1] rfl).app hK1
    generalize H1 = H at hP hS ⊢
    have hP : va_P (dC, dI) vwCl [(h0, .inr (9, [.int size_, .int width_, .int full_, .ref left_, .ref right_, .ref variables_])), (left_, .inl (k_left, 5000, .inr (.inl F_left))), (right_, .inl (k_right, 5000, .inr (.inl F_right)))] H := hP
    have hD : va_D A [(h0, .inr (9, [.int size_, .int width_, .int full_, .ref left_, .ref right_, .ref variables_])), (left_, .inl (k_left, 5000, .inr (.inl F_left))), (right_, .inl (k_right, 5000, .inr (.inl F_right)))] := hD
    have hK : va_K (dC, dI) vwCl [(k_left, .long), (k_right, .long)] s := hK
    refine W.widen (k := 0) (n := 0) (Nat.le_of_ble_eq_true rfl) (Nat.le_of_ble_eq_true rfl) ?_
    exact W.iret (v := r4) hx hb hr (fun t ht hW => ⟨⟨r4, (), rfl, hw, by rw [ht]; exact hP, va_K.moved hW.alike hK, hD⟩, hS.F ht⟩) hS.2.2 dc_Ro_rankAt_32
  · have hw := hw.2 h3
    refine lv_aload_n hx hb dc_Ro_rankAt_6 rfl (lv_at hl 0 rfl) ?_
    refine va_get (D := (dC, dI)) (ci := 9) (v := .ref left_) (C := "StrataBase$Rows") (T := tb_Ro) (N := 6) hx hb hT in_Ro hown hK hP 0 rfl rfl 3 (by decide) (hT _ wd_501) (fun _ h9 => h9) rfl dc_Ro_rankAt_7 ?_
    refine lv_iload_n hx hb dc_Ro_rankAt_10 rfl (lv_at hl 1 rfl) ?_
    obtain ⟨hv5, hw⟩ := hw
    refine va_lald hx hb hK hP 1 0 rfl rfl hv5 dc_Ro_rankAt_11 ?_
    refine lv_topl (fun y6 ey6 => ?_)
    have hw := hw y6 ey6
    refine lv_iload_n hx hb dc_Ro_rankAt_12 rfl (lv_at hl 2 rfl) ?_
    have hPc := hP.sub (ws' := []) [] rfl
    have hDc := hD.sub (ws' := []) [] (by decide) rfl
    have hKc := hK.sub (tys' := []) [] rfl
    have hFc := va_free (wc := []) hD hS hA [] rfl
    refine va_calli (va_runS (As := [.long y6, .int a1]) (rest := []) ⟨hx, hb, hml, hown, hT⟩ (met_Fa_rankIn l dC dI y6 a1 s.heap.size hw) (va_cwS 2 hT (gd_S wd_1304 wd_1158 wd_8 wd_1159) rfl rfl rfl (by decide +kernel) ⟨Nat.le_of_ble_eq_true rfl, Nat.le_of_ble_eq_true rfl⟩) ⟨fun a U g mk q => by obtain ⟨q0, q1, qP, qK, qD⟩ := q; exact ⟨q0, q1, qP, va_K.moved (u := U) (U := U.calling g mk a) (Vm.Alike.refl U.vm) qK, qD⟩, fun U hU hW => ⟨rfl, by rw [hU], by rw [hU]; exact hPc, va_K.moved hW.alike hKc, hDc.weaken (fun _ _ _ _ => trivial)⟩⟩ rfl rfl hl.1 rfl (lv_room (Nat.le_of_ble_eq_true rfl)) dc_Ro_rankAt_13 ⟨(Nat.le_of_ble_eq_true rfl), (Nat.le_of_ble_eq_true rfl)⟩) hS (fun q _ h => hFc q h) hFc (fun r7 _ t H1 locs ht hvm hw hB hz1 hk1 hS => ?_)
    obtain ⟨hP1, hK1, hD1⟩ := hB
    rw [ht] at hP1
    have hK1 := va_K.moved hvm.symm hK1
    obtain ⟨hP, hD⟩ := va_join (wr := [(h0, .inr (9, [.int size_, .int width_, .int full_, .ref left_, .ref right_, .ref variables_])), (left_, .inl (k_left, 5000, .inr (.inl F_left))), (right_, .inl (k_right, 5000, .inr (.inl F_right)))]) (w1 := []) hP hD [] [0, 1, 2] rfl rfl (by decide) (by decide) hk1 hFc hP1 hD1
    have hK := (hK.sub (tys' := [(k_left, .long), (k_right, .long)]) [0, 1] rfl).app hK1
    generalize H1 = H at hP hS ⊢
    have hP : va_P (dC, dI) vwCl [(h0, .inr (9, [.int size_, .int width_, .int full_, .ref left_, .ref right_, .ref variables_])), (left_, .inl (k_left, 5000, .inr (.inl F_left))), (right_, .inl (k_right, 5000, .inr (.inl F_right)))] H := hP
    have hD : va_D A [(h0, .inr (9, [.int size_, .int width_, .int full_, .ref left_, .ref right_, .ref variables_])), (left_, .inl (k_left, 5000, .inr (.inl F_left))), (right_, .inl (k_right, 5000, .inr (.inl F_right)))] := hD
    have hK : va_K (dC, dI) vwCl [(k_left, .long), (k_right, .long)] s := hK
    refine lv_goto (tgt := 32) hx hb dc_Ro_rankAt_16 (by decide) ?_
    refine W.widen (k := 0) (n := 0) (Nat.le_of_ble_eq_true rfl) (Nat.le_of_ble_eq_true rfl) ?_
    exact W.iret (v := r7) hx hb hr (fun t ht hW => ⟨⟨r7, (), rfl, hw, by rw [ht]; exact hP, va_K.moved hW.alike hK, hD⟩, hS.F ht⟩) hS.2.2 dc_Ro_rankAt_32

def wp_met_Ix_clear (post : (Int32 × Int32) → Prop) : Prop := post ((0 : Int32), (0 : Int32))
set_option maxHeartbeats 4000000 in
set_option maxRecDepth 100000 in
theorem met_Ix_clear (l : Launch) (dC : Nat → ClassId) (dI : Nat → Nat → Nat) (h0 : Nat) (shapes_ : Nat) (fixed_ : Nat) (firsts_ : Nat) (lasts_ : Nat) (froms_ : Nat) (tos_ : Nat) (pool_ : Nat) (size_ : Int32) (used_ : Int32) (sz : Nat) {post : (Int32 × Int32) → Prop} (hw : wp_met_Ix_clear post) : Met l my_Ix_clear (Cond.code my_Ix_clear cd_Ix_clear 1 none :: tblG) ({ frames := 0, cells := 0, slots := 0, locals := 0 }) (va_Pc [.ref h0] (fun U => U.heap.size = sz ∧ va_P (dC, dI) vwCl [(h0, .inr (4, [.int size_, .ref shapes_, .ref fixed_, .ref firsts_, .ref lasts_, .ref froms_, .ref tos_, .ref pool_, .int used_]))] U.heap ∧ va_K (dC, dI) vwCl [] U ∧ va_D (fun _ => True) [(h0, .inr (4, [.int size_, .ref shapes_, .ref fixed_, .ref firsts_, .ref lasts_, .ref froms_, .ref tos_, .ref pool_, .int used_]))])) (va_Qv post (fun (u : Int32 × Int32) (t : State) => match u with | (o0, o1) => va_P (dC, dI) vwCl [(h0, .inr (4, [.int o0, .ref shapes_, .ref fixed_, .ref firsts_, .ref lasts_, .ref froms_, .ref tos_, .ref pool_, .int o1]))] t.heap ∧ va_K (dC, dI) vwCl [] t ∧ va_D (va_A [(h0, .inr (4, [.int size_, .ref shapes_, .ref fixed_, .ref firsts_, .ref lasts_, .ref froms_, .ref tos_, .ref pool_, .int used_]))] sz) [(h0, .inr (4, [.int o0, .ref shapes_, .ref fixed_, .ref firsts_, .ref lasts_, .ref froms_, .ref tos_, .ref pool_, .int o1]))]) (va_A [(h0, .inr (4, [.int size_, .ref shapes_, .ref fixed_, .ref firsts_, .ref lasts_, .ref froms_, .ref tos_, .ref pool_, .int used_]))] sz)) 0 0 (va_A [(h0, .inr (4, [.int size_, .ref shapes_, .ref fixed_, .ref firsts_, .ref lasts_, .ref froms_, .ref tos_, .ref pool_, .int used_]))] sz) := by
  refine Met.ofW (cc := cd_Ix_clear) (maxL := 1) (ret := none) (by decide) rfl ?_
  intro p e s m args below meth c s₁ B hml hv
  obtain ⟨rfl, hsz, hP, hK, hD0⟩ := hv
  have hx := B.exec
  have hb := B.bytes
  have hr := B.returns
  have hT : ∀ w ∈ tblG, w.before _ s = true := fun w h => atoms_spec (ws := (Cond.code my_Ix_clear cd_Ix_clear 1 none :: tblG)) B.pre w (List.mem_cons_of_mem _ h)
  have hown : s.vm.findClass "StrataBase$Indexes" = some m.cls := findClass_of_methodNamed B.named
  have hlocks := B.notSynchronized
  subst hsz
  have hD := hD0.self (sz := s.heap.size)
  generalize hAe : va_A [(h0, .inr (4, [.int size_, .ref shapes_, .ref fixed_, .ref firsts_, .ref lasts_, .ref froms_, .ref tos_, .ref pool_, .int used_]))] s.heap.size = A at hD ⊢
  have hA : ∀ q : Nat, s.heap.size ≤ q → A q := fun q h => by rw [← hAe]; exact Or.inr h
  have hS : va_S A s.heap s.heap [] := va_S.rf
  have hl := lv_entry ([.ref h0]) (n := 1) (Nat.le_of_ble_eq_true rfl)
  rw [lg_entry_eq]
  generalize (lg_sl ([.ref h0]) ++ List.replicate (1 - (lg_sl ([.ref h0])).length) Slot.unset).toArray = ls at hl ⊢
  have hl : lv_has ls 1 [(0, .ref h0)] := hl
  unfold wp_met_Ix_clear at hw
  refine lv_aload_n hx hb dc_Ix_clear_0 rfl (lv_at hl 0 rfl) ?_
  refine lv_iconst (v := 0) hx hb dc_Ix_clear_1 (by decide) ?_
  refine va_put (D := (dC, dI)) (ci := 4) (v := .int 0) (ty := .int) (C := "StrataBase$Indexes") (T := tb_Ix) (N := 9) hx hb hT in_Ix ty_Ix tk_Ix nm_Ix hown hK hP hD hS 0 rfl rfl 0 (by decide) (hT _ wd_352) (fun _ h9 => h9) rfl (by decide +kernel) rfl rfl (Nat.le_of_ble_eq_true rfl) dc_Ix_clear_2 (fun H locs hP hD hS => ?_)
  have hP : va_P (dC, dI) vwCl [(h0, .inr (4, [.int 0, .ref shapes_, .ref fixed_, .ref firsts_, .ref lasts_, .ref froms_, .ref tos_, .ref pool_, .int used_]))] H := hP
  have hD : va_D A [(h0, .inr (4, [.int 0, .ref shapes_, .ref fixed_, .ref firsts_, .ref lasts_, .ref froms_, .ref tos_, .ref pool_, .int used_]))] := hD
  refine lv_aload_n hx hb dc_Ix_clear_5 rfl (lv_at hl 0 rfl) ?_
  refine lv_iconst (v := 0) hx hb dc_Ix_clear_6 (by decide) ?_
  refine va_put (D := (dC, dI)) (ci := 4) (v := .int 0) (ty := .int) (C := "StrataBase$Indexes") (T := tb_Ix) (N := 9) hx hb hT in_Ix ty_Ix tk_Ix nm_Ix hown hK hP hD hS 0 rfl rfl 8 (by decide) (hT _ wd_360) (fun _ h9 => h9) rfl (by decide +kernel) rfl rfl (Nat.le_of_ble_eq_true rfl) dc_Ix_clear_7 (fun H locs hP hD hS => ?_)
  have hP : va_P (dC, dI) vwCl [(h0, .inr (4, [.int 0, .ref shapes_, .ref fixed_, .ref firsts_, .ref lasts_, .ref froms_, .ref tos_, .ref pool_, .int 0]))] H := hP
  have hD : va_D A [(h0, .inr (4, [.int 0, .ref shapes_, .ref fixed_, .ref firsts_, .ref lasts_, .ref froms_, .ref tos_, .ref pool_, .int 0]))] := hD
  refine W.widen (k := 0) (n := 0) (Nat.le_of_ble_eq_true rfl) (Nat.le_of_ble_eq_true rfl) ?_
  exact W.vret hx hb hr (fun t ht hW => ⟨⟨((0 : Int32), (0 : Int32)), rfl, hw, by rw [ht]; exact hP, va_K.moved hW.alike hK, hD⟩, hS.F ht⟩) hS.2.2 dc_Ix_clear_10

def jw_met_Ix_makeRoom_26 (post : (Int32 × Int32 × Nat × ClassId × Nat × (Nat → Int64) × Nat × Nat) → Prop) (a0 : Int32) (n_pool : Nat) (pool_ : Nat) (k_pool : ClassId) (F_pool : Nat → Int64) (mc : Nat) (ms : Nat) : (Unit) → Prop
  | _ => wp_met_Ix_clear (fun (u9 : Int32 × Int32) => match u9 with | (o4, o5) => (∀ y7 : Int32, y7 = (2 : Int32) * a0 → (((y7 ≤ (nI n_pool) → (post (o4, o5, pool_, k_pool, n_pool, F_pool, 0, 0))) ∧ (¬ (y7 ≤ (nI n_pool)) → (∀ y8 : Int32, y8 = (2 : Int32) * a0 → (∀ y9 : Int32, y9 = (2 : Int32) * (nI n_pool) → (∀ y10 : Int32, y10 = (if y8 < y9 then y9 else y8) → ((¬ y10 < 0) ∧ (y10.toNatClampNeg * componentBytes .long ≤ 536870912) ∧ ((0 + 1 ≤ mc) ∧ (0 + y10.toNatClampNeg ≤ ms) ∧ (∀ (q55 : Nat) (k55 : ClassId), (∀ g11 : Nat → Int64, g11 = (fun _ => 0) → (post (o4, o5, q55, k55, y10.toNatClampNeg, g11, (0 + 1), (0 + y10.toNatClampNeg)))))))))))))))
def wp_met_Ix_makeRoom (post : (Int32 × Int32 × Nat × ClassId × Nat × (Nat → Int64) × Nat × Nat) → Prop) (mc : Nat) (ms : Nat) (n_pool : Nat) (pool_ : Nat) (a0 : Int32) (size_ : Int32) (used_ : Int32) (F_pool : Nat → Int64) (k_pool : ClassId) : Prop := ∀ y1 : Int32, y1 = used_ + a0 → ((((nI n_pool) < y1 → (jw_met_Ix_makeRoom_26 post a0 n_pool pool_ k_pool F_pool mc ms ())) ∧ (¬ ((nI n_pool) < y1) → (∀ y3 : Int32, y3 = size_ + (12 : Int32) → (((y3 ≤ (64 : Int32) → (post (size_, used_, pool_, k_pool, n_pool, F_pool, 0, 0))) ∧ (¬ (y3 ≤ (64 : Int32)) → (jw_met_Ix_makeRoom_26 post a0 n_pool pool_ k_pool F_pool mc ms ()))))))))
set_option maxHeartbeats 4000000 in
set_option maxRecDepth 100000 in
theorem met_Ix_makeRoom (l : Launch) (dC : Nat → ClassId) (dI : Nat → Nat → Nat) (mc : Nat) (ms : Nat) (n_pool : Nat) (h0 : Nat) (shapes_ : Nat) (fixed_ : Nat) (firsts_ : Nat) (lasts_ : Nat) (froms_ : Nat) (tos_ : Nat) (pool_ : Nat) (a0 : Int32) (size_ : Int32) (used_ : Int32) (F_pool : Nat → Int64) (k_pool : ClassId) (sz : Nat) (hu : Nat) {post : (Int32 × Int32 × Nat × ClassId × Nat × (Nat → Int64) × Nat × Nat) → Prop} (hw : wp_met_Ix_makeRoom post mc ms n_pool pool_ a0 size_ used_ F_pool k_pool) : Met l my_Ix_makeRoom (Cond.code my_Ix_makeRoom cd_Ix_makeRoom 2 none :: tblG) ({ frames := 1, cells := mc, slots := ms, locals := 21 }) (va_Pc [.ref h0, .int a0] (fun U => U.heap.size = sz ∧ hsm U.heap = hu ∧ va_P (dC, dI) vwCl [(h0, .inr (4, [.int size_, .ref shapes_, .ref fixed_, .ref firsts_, .ref lasts_, .ref froms_, .ref tos_, .ref pool_, .int used_])), (pool_, .inl (k_pool, n_pool, .inr (.inl F_pool)))] U.heap ∧ va_K (dC, dI) vwCl [(k_pool, .long)] U ∧ va_D (fun _ => True) [(h0, .inr (4, [.int size_, .ref shapes_, .ref fixed_, .ref firsts_, .ref lasts_, .ref froms_, .ref tos_, .ref pool_, .int used_])), (pool_, .inl (k_pool, n_pool, .inr (.inl F_pool)))])) (va_Qv post (fun (u : Int32 × Int32 × Nat × ClassId × Nat × (Nat → Int64) × Nat × Nat) (t : State) => match u with | (o0, o1, o2, o3, o4, o5, o6, o7) => va_P (dC, dI) vwCl [(h0, .inr (4, [.int o0, .ref shapes_, .ref fixed_, .ref firsts_, .ref lasts_, .ref froms_, .ref tos_, .ref o2, .int o1])), (o2, .inl (o3, o4, .inr (.inl o5)))] t.heap ∧ va_K (dC, dI) vwCl [(o3, .long)] t ∧ va_D (va_A [(h0, .inr (4, [.int size_, .ref shapes_, .ref fixed_, .ref firsts_, .ref lasts_, .ref froms_, .ref tos_, .ref pool_, .int used_])), (pool_, .inl (k_pool, n_pool, .inr (.inl F_pool)))] sz) [(h0, .inr (4, [.int o0, .ref shapes_, .ref fixed_, .ref firsts_, .ref lasts_, .ref froms_, .ref tos_, .ref o2, .int o1])), (o2, .inl (o3, o4, .inr (.inl o5)))] ∧ t.heap.size ≤ sz + o6 ∧ hsm t.heap ≤ hu + o7 ∧ o6 ≤ mc ∧ o7 ≤ ms) (va_A [(h0, .inr (4, [.int size_, .ref shapes_, .ref fixed_, .ref firsts_, .ref lasts_, .ref froms_, .ref tos_, .ref pool_, .int used_])), (pool_, .inl (k_pool, n_pool, .inr (.inl F_pool)))] sz)) mc ms (va_A [(h0, .inr (4, [.int size_, .ref shapes_, .ref fixed_, .ref firsts_, .ref lasts_, .ref froms_, .ref tos_, .ref pool_, .int used_])), (pool_, .inl (k_pool, n_pool, .inr (.inl F_pool)))] sz) := by
  refine Met.ofW (cc := cd_Ix_makeRoom) (maxL := 2) (ret := none) (by decide) rfl ?_
  intro p e s m args below meth c s₁ B hml hv
  obtain ⟨rfl, hsz, hhu, hP, hK, hD0⟩ := hv
  have hx := B.exec
  have hb := B.bytes
  have hr := B.returns
  have hT : ∀ w ∈ tblG, w.before _ s = true := fun w h => atoms_spec (ws := (Cond.code my_Ix_makeRoom cd_Ix_makeRoom 2 none :: tblG)) B.pre w (List.mem_cons_of_mem _ h)
  have hown : s.vm.findClass "StrataBase$Indexes" = some m.cls := findClass_of_methodNamed B.named
  have hlocks := B.notSynchronized
  subst hsz
  subst hhu
  have hD := hD0.self (sz := s.heap.size)
  generalize hAe : va_A [(h0, .inr (4, [.int size_, .ref shapes_, .ref fixed_, .ref firsts_, .ref lasts_, .ref froms_, .ref tos_, .ref pool_, .int used_])), (pool_, .inl (k_pool, n_pool, .inr (.inl F_pool)))] s.heap.size = A at hD ⊢
  have hA : ∀ q : Nat, s.heap.size ≤ q → A q := fun q h => by rw [← hAe]; exact Or.inr h
  have hS : va_S A s.heap s.heap [] := va_S.rf
  have hl := lv_entry ([.ref h0, .int a0]) (n := 2) (Nat.le_of_ble_eq_true rfl)
  rw [lg_entry_eq]
  generalize (lg_sl ([.ref h0, .int a0]) ++ List.replicate (2 - (lg_sl ([.ref h0, .int a0])).length) Slot.unset).toArray = ls at hl ⊢
  have hl : lv_has ls 2 [(0, .ref h0), (1, .int a0)] := hl
  unfold wp_met_Ix_makeRoom at hw
  have hkc := Nat.zero_le mc
  have hks := Nat.zero_le ms
  refine lv_aload_n hx hb dc_Ix_makeRoom_0 rfl (lv_at hl 0 rfl) ?_
  refine va_get (D := (dC, dI)) (ci := 4) (v := .int used_) (C := "StrataBase$Indexes") (T := tb_Ix) (N := 9) hx hb hT in_Ix hown hK hP 0 rfl rfl 8 (by decide) (hT _ wd_360) (fun _ h9 => h9) rfl dc_Ix_makeRoom_1 ?_
  refine lv_iload_n hx hb dc_Ix_makeRoom_4 rfl (lv_at hl 1 rfl) ?_
  refine lv_iadd hx hb dc_Ix_makeRoom_5 ?_
  refine lv_topi (fun y1 ey1 => ?_)
  have hw := hw y1 ey1
  refine lv_aload_n hx hb dc_Ix_makeRoom_6 rfl (lv_at hl 0 rfl) ?_
  refine va_get (D := (dC, dI)) (ci := 4) (v := .ref pool_) (C := "StrataBase$Indexes") (T := tb_Ix) (N := 9) hx hb hT in_Ix hown hK hP 0 rfl rfl 7 (by decide) (hT _ wd_359) (fun _ h9 => h9) rfl dc_Ix_makeRoom_7 ?_
  refine va_alen (v := nI n_pool) hx hb hK hP 1 0 rfl rfl rfl dc_Ix_makeRoom_10 ?_
  refine jn_stA (σ := Unit) (pc2 := 26) (fun x9 => jw_met_Ix_makeRoom_26 post a0 n_pool pool_ k_pool F_pool mc ms x9) (fun _ => []) (fun _ => 0) (fun _ => 0) (fun _ H locs ls => va_K (dC, dI) vwCl [(k_pool, .long)] s ∧ va_P (dC, dI) vwCl [(h0, .inr (4, [.int size_, .ref shapes_, .ref fixed_, .ref firsts_, .ref lasts_, .ref froms_, .ref tos_, .ref pool_, .int used_])), (pool_, .inl (k_pool, n_pool, .inr (.inl F_pool)))] H ∧ va_D A [(h0, .inr (4, [.int size_, .ref shapes_, .ref fixed_, .ref firsts_, .ref lasts_, .ref froms_, .ref tos_, .ref pool_, .int used_])), (pool_, .inl (k_pool, n_pool, .inr (.inl F_pool)))] ∧ va_S A s.heap H locs ∧ lv_has ls 2 [(0, .ref h0), (1, .int a0)] ∧ 0 ≤ mc ∧ 0 ≤ ms) ?_ (fun k2 => ?_)
  rotate_left
  · refine lv_icmp_gt (tgt := 26) hx hb dc_Ix_makeRoom_11 (by decide) (fun h11 => ?_) (fun h11 => ?_)
    · have hw := hw.1 h11
      exact k2 () hw _ _ _ ⟨hK.sub [0] rfl, hP.sub [0, 1] rfl, hD.sub [0, 1] (by decide) rfl, hS, lv_sub hl [0, 1] rfl, hkc, hks⟩
    · have hw := hw.2 h11
      refine lv_aload_n hx hb dc_Ix_makeRoom_14 rfl (lv_at hl 0 rfl) ?_
      refine va_get (D := (dC, dI)) (ci := 4) (v := .int size_) (C := "StrataBase$Indexes") (T := tb_Ix) (N := 9) hx hb hT in_Ix hown hK hP 0 rfl rfl 0 (by decide) (hT _ wd_352) (fun _ h9 => h9) rfl dc_Ix_makeRoom_15 ?_
      refine lv_bipush (v := 12) hx hb dc_Ix_makeRoom_18 (by decide) ?_
      refine lv_iadd hx hb dc_Ix_makeRoom_20 ?_
      refine lv_topi (fun y3 ey3 => ?_)
      have hw := hw y3 ey3
      refine lv_bipush (v := 64) hx hb dc_Ix_makeRoom_21 (by decide) ?_
      refine lv_icmp_le (tgt := 60) hx hb dc_Ix_makeRoom_23 (by decide) (fun h23 => ?_) (fun h23 => ?_)
      · have hw := hw.1 h23
        refine wk_know (fun hz0 hu0 => ?_)
        refine W.widen (k := mc) (n := ms) hkc hks ?_
        exact W.vret hx hb hr (fun t ht hW => ⟨⟨(size_, used_, pool_, k_pool, n_pool, F_pool, 0, 0), rfl, hw, by rw [ht]; exact hP, va_K.moved hW.alike hK, hD, by rw [ht]; exact hz0, by rw [ht]; exact hu0, hkc, hks⟩, hS.F ht⟩) hS.2.2 dc_Ix_makeRoom_60
      · have hw := hw.2 h23
        exact k2 () hw _ _ _ ⟨hK.sub [0] rfl, hP.sub [0, 1] rfl, hD.sub [0, 1] (by decide) rfl, hS, lv_sub hl [0, 1] rfl, hkc, hks⟩
  intro x9 hw H locs ls hI
  obtain ⟨hK, hP, hD, hS, hl, hkc, hks⟩ := hI
  unfold jw_met_Ix_makeRoom_26 at hw
  refine W.eq (g2 := F0 m 26 ls []) rfl ?_
  refine W.widen (k := 0) (n := 0) (Nat.le_refl _) (Nat.le_refl _) ?_
  refine lv_aload_n hx hb dc_Ix_makeRoom_26 rfl (lv_at hl 0 rfl) ?_
  have hPc := hP.sub (ws' := [(h0, .inr (4, [.int size_, .ref shapes_, .ref fixed_, .ref firsts_, .ref lasts_, .ref froms_, .ref tos_, .ref pool_, .int used_]))]) [0] rfl
  have hDc := hD.sub (ws' := [(h0, .inr (4, [.int size_, .ref shapes_, .ref fixed_, .ref firsts_, .ref lasts_, .ref froms_, .ref tos_, .ref pool_, .int used_]))]) [0] (by decide) rfl
  have hKc := hK.sub (tys' := []) [] rfl
  have hFc := va_free (wc := [(h0, .inr (4, [.int size_, .ref shapes_, .ref fixed_, .ref firsts_, .ref lasts_, .ref froms_, .ref tos_, .ref pool_, .int used_]))]) hD hS hA [0] rfl
  refine va_callv (va_runV (As := []) (rest := []) ⟨hx, hb, hml, hown, hT⟩ (met_Ix_clear l dC dI h0 shapes_ fixed_ firsts_ lasts_ froms_ tos_ pool_ size_ used_ H.size hw) (cwV 0 hT (gd_V wd_1135 wd_1030 wd_1031 wd_10 wd_1032) rfl rfl rfl (by decide +kernel) ⟨Nat.le_of_ble_eq_true rfl, Nat.le_of_ble_eq_true rfl⟩) ⟨fun a U g mk q => by obtain ⟨q0, q1, qP, qK, qD⟩ := q; exact ⟨q0, q1, qP, va_K.moved (u := U) (U := U.calling g mk a) (Vm.Alike.refl U.vm) qK, qD⟩, va_recv hK hP (q0 := 0) (ci := 4) rfl rfl, fun U hU hW => ⟨rfl, by rw [hU], by rw [hU]; exact hPc, va_K.moved hW.alike hKc, hDc.weaken (fun _ _ _ _ => trivial)⟩⟩ rfl rfl hl.1 rfl (lv_room (Nat.le_of_ble_eq_true rfl)) dc_Ix_makeRoom_27 ⟨hkc, hks⟩) hS (fun q _ h => hFc q h) hFc (fun u9 t H1 locs ht hvm hw hB hz1 hk1 hS => ?_)
  obtain ⟨o4, o5⟩ := u9
  obtain ⟨hP1, hK1, hD1⟩ := hB
  rw [ht] at hP1
  have hK1 := va_K.moved hvm.symm hK1
  obtain ⟨hP, hD⟩ := va_join (wr := [(pool_, .inl (k_pool, n_pool, .inr (.inl F_pool)))]) (w1 := [(h0, .inr (4, [.int o4, .ref shapes_, .ref fixed_, .ref firsts_, .ref lasts_, .ref froms_, .ref tos_, .ref pool_, .int o5]))]) hP hD [0] [1] rfl rfl (by decide) (by decide) hk1 hFc hP1 hD1
  have hK := (hK.sub (tys' := [(k_pool, .long)]) [0] rfl).app hK1
  generalize H1 = H at hP hS ⊢
  have hP : va_P (dC, dI) vwCl [(pool_, .inl (k_pool, n_pool, .inr (.inl F_pool))), (h0, .inr (4, [.int o4, .ref shapes_, .ref fixed_, .ref firsts_, .ref lasts_, .ref froms_, .ref tos_, .ref pool_, .int o5]))] H := hP
  have hD : va_D A [(pool_, .inl (k_pool, n_pool, .inr (.inl F_pool))), (h0, .inr (4, [.int o4, .ref shapes_, .ref fixed_, .ref firsts_, .ref lasts_, .ref froms_, .ref tos_, .ref pool_, .int o5]))] := hD
  have hK : va_K (dC, dI) vwCl [(k_pool, .long)] s := hK
  refine W.widen (k := 0) (n := 0) (Nat.le_refl _) (Nat.le_refl _) ?_
  refine lv_iconst (v := 2) hx hb dc_Ix_makeRoom_30 (by decide) ?_
  refine lv_iload_n hx hb dc_Ix_makeRoom_31 rfl (lv_at hl 1 rfl) ?_
  refine lv_imul hx hb dc_Ix_makeRoom_32 ?_
  refine lv_topi (fun y7 ey7 => ?_)
  have hw := hw y7 ey7
  refine lv_aload_n hx hb dc_Ix_makeRoom_33 rfl (lv_at hl 0 rfl) ?_
  refine va_get (D := (dC, dI)) (ci := 4) (v := .ref pool_) (C := "StrataBase$Indexes") (T := tb_Ix) (N := 9) hx hb hT in_Ix hown hK hP 1 rfl rfl 7 (by decide) (hT _ wd_359) (fun _ h9 => h9) rfl dc_Ix_makeRoom_34 ?_
  refine va_alen (v := nI n_pool) hx hb hK hP 0 0 rfl rfl rfl dc_Ix_makeRoom_37 ?_
  refine lv_icmp_le (tgt := 60) hx hb dc_Ix_makeRoom_38 (by decide) (fun h38 => ?_) (fun h38 => ?_)
  · have hw := hw.1 h38
    have hP := hP.sub (ws' := [(h0, .inr (4, [.int o4, .ref shapes_, .ref fixed_, .ref firsts_, .ref lasts_, .ref froms_, .ref tos_, .ref pool_, .int o5])), (pool_, .inl (k_pool, n_pool, .inr (.inl F_pool)))]) [1, 0] rfl
    have hD := hD.sub (ws' := [(h0, .inr (4, [.int o4, .ref shapes_, .ref fixed_, .ref firsts_, .ref lasts_, .ref froms_, .ref tos_, .ref pool_, .int o5])), (pool_, .inl (k_pool, n_pool, .inr (.inl F_pool)))]) [1, 0] (by decide) rfl
    have hK := hK.sub (tys' := [(k_pool, .long)]) [0] rfl
    refine wk_know (fun hz0 hu0 => ?_)
    refine W.widen (k := mc) (n := ms) hkc hks ?_
    exact W.vret hx hb hr (fun t ht hW => ⟨⟨(o4, o5, pool_, k_pool, n_pool, F_pool, 0, 0), rfl, hw, by rw [ht]; exact hP, va_K.moved hW.alike hK, hD, by rw [ht]; exact hz0, by rw [ht]; exact hu0, hkc, hks⟩, hS.F ht⟩) hS.2.2 dc_Ix_makeRoom_60
  · have hw := hw.2 h38
    refine lv_aload_n hx hb dc_Ix_makeRoom_41 rfl (lv_at hl 0 rfl) ?_
    refine lv_iconst (v := 2) hx hb dc_Ix_makeRoom_42 (by decide) ?_
    refine lv_iload_n hx hb dc_Ix_makeRoom_43 rfl (lv_at hl 1 rfl) ?_
    refine lv_imul hx hb dc_Ix_makeRoom_44 ?_
    refine lv_topi (fun y8 ey8 => ?_)
    have hw := hw y8 ey8
    refine lv_iconst (v := 2) hx hb dc_Ix_makeRoom_45 (by decide) ?_
    refine lv_aload_n hx hb dc_Ix_makeRoom_46 rfl (lv_at hl 0 rfl) ?_
    refine va_get (D := (dC, dI)) (ci := 4) (v := .ref pool_) (C := "StrataBase$Indexes") (T := tb_Ix) (N := 9) hx hb hT in_Ix hown hK hP 1 rfl rfl 7 (by decide) (hT _ wd_359) (fun _ h9 => h9) rfl dc_Ix_makeRoom_47 ?_
    refine va_alen (v := nI n_pool) hx hb hK hP 0 0 rfl rfl rfl dc_Ix_makeRoom_50 ?_
    refine lv_imul hx hb dc_Ix_makeRoom_51 ?_
    refine lv_topi (fun y9 ey9 => ?_)
    have hw := hw y9 ey9
    refine va_mmax hx hb (by rw [hml]; exact hl.1.symm) hown (hT _ wd_1136) (hT _ wd_692) (hT _ wd_20) (hT _ wd_693) (Nat.le_of_ble_eq_true rfl) (Nat.le_of_ble_eq_true rfl) hkc hks dc_Ix_makeRoom_52 ?_
    refine lv_topi (fun y10 ey10 => ?_)
    have hw := hw y10 ey10
    obtain ⟨hn55, hby55, hw⟩ := hw
    obtain ⟨hkc, hks, hw⟩ := hw
    refine va_newa (atype := .long) (N' := y10.toNatClampNeg) (a0 := (y10.toNatClampNeg, .inr (.inl (fun _ => 0)))) (ty := .long) (n := y10) hx hb (hT _ wd_177) rfl hK hP hD hS hA (fun _ => rfl) hn55 rfl hby55 hkc hks dc_Ix_makeRoom_55 (fun q55 k55 H hK hP hD hS => ?_)
    have hw := hw q55 k55
    have hP : va_P (dC, dI) vwCl [(pool_, .inl (k_pool, n_pool, .inr (.inl F_pool))), (h0, .inr (4, [.int o4, .ref shapes_, .ref fixed_, .ref firsts_, .ref lasts_, .ref froms_, .ref tos_, .ref pool_, .int o5])), (q55, .inl (k55, y10.toNatClampNeg, .inr (.inl (fun _ => 0))))] H := hP
    have hD : va_D A [(pool_, .inl (k_pool, n_pool, .inr (.inl F_pool))), (h0, .inr (4, [.int o4, .ref shapes_, .ref fixed_, .ref firsts_, .ref lasts_, .ref froms_, .ref tos_, .ref pool_, .int o5])), (q55, .inl (k55, y10.toNatClampNeg, .inr (.inl (fun _ => 0))))] := hD
    have hK : va_K (dC, dI) vwCl [(k_pool, .long), (k55, .long)] s := hK
    obtain ⟨g11, eg11⟩ : ∃ z9 : Nat → Int64, z9 = (fun _ => 0) := ⟨_, rfl⟩
    rw [← eg11] at hP hD
    have hw := hw g11 eg11
    have hP : va_P (dC, dI) vwCl [(pool_, .inl (k_pool, n_pool, .inr (.inl F_pool))), (h0, .inr (4, [.int o4, .ref shapes_, .ref fixed_, .ref firsts_, .ref lasts_, .ref froms_, .ref tos_, .ref pool_, .int o5])), (q55, .inl (k55, y10.toNatClampNeg, .inr (.inl g11)))] H := hP
    have hD : va_D A [(pool_, .inl (k_pool, n_pool, .inr (.inl F_pool))), (h0, .inr (4, [.int o4, .ref shapes_, .ref fixed_, .ref firsts_, .ref lasts_, .ref froms_, .ref tos_, .ref pool_, .int o5])), (q55, .inl (k55, y10.toNatClampNeg, .inr (.inl g11)))] := hD
    refine va_put (D := (dC, dI)) (ci := 4) (v := .ref q55) (ty := .array .long) (C := "StrataBase$Indexes") (T := tb_Ix) (N := 9) hx hb hT in_Ix ty_Ix tk_Ix nm_Ix hown hK hP hD hS 1 rfl rfl 7 (by decide) (hT _ wd_359) (fun _ h9 => h9) rfl (by decide +kernel) rfl rfl (Nat.le_of_ble_eq_true rfl) dc_Ix_makeRoom_57 (fun H locs hP hD hS => ?_)
    have hP : va_P (dC, dI) vwCl [(pool_, .inl (k_pool, n_pool, .inr (.inl F_pool))), (h0, .inr (4, [.int o4, .ref shapes_, .ref fixed_, .ref firsts_, .ref lasts_, .ref froms_, .ref tos_, .ref q55, .int o5])), (q55, .inl (k55, y10.toNatClampNeg, .inr (.inl g11)))] H := hP
    have hD : va_D A [(pool_, .inl (k_pool, n_pool, .inr (.inl F_pool))), (h0, .inr (4, [.int o4, .ref shapes_, .ref fixed_, .ref firsts_, .ref lasts_, .ref froms_, .ref tos_, .ref q55, .int o5])), (q55, .inl (k55, y10.toNatClampNeg, .inr (.inl g11)))] := hD
    have hP := hP.sub (ws' := [(h0, .inr (4, [.int o4, .ref shapes_, .ref fixed_, .ref firsts_, .ref lasts_, .ref froms_, .ref tos_, .ref q55, .int o5])), (q55, .inl (k55, y10.toNatClampNeg, .inr (.inl g11)))]) [1, 2] rfl
    have hD := hD.sub (ws' := [(h0, .inr (4, [.int o4, .ref shapes_, .ref fixed_, .ref firsts_, .ref lasts_, .ref froms_, .ref tos_, .ref q55, .int o5])), (q55, .inl (k55, y10.toNatClampNeg, .inr (.inl g11)))]) [1, 2] (by decide) rfl
    have hK := hK.sub (tys' := [(k55, .long)]) [1] rfl
    refine wk_know (fun hz0 hu0 => ?_)
    refine W.widen (k := mc) (n := ms) hkc hks ?_
    exact W.vret hx hb hr (fun t ht hW => ⟨⟨(o4, o5, q55, k55, y10.toNatClampNeg, g11, (0 + 1), (0 + y10.toNatClampNeg)), rfl, hw, by rw [ht]; exact hP, va_K.moved hW.alike hK, hD, by rw [ht]; exact hz0, by rw [ht]; exact hu0, hkc, hks⟩, hS.F ht⟩) hS.2.2 dc_Ix_makeRoom_60

def jw_met_Ix_sort_102 (post : (Nat → Int64) → Prop) (J_lw_met_Ix_sort_28 : (Int32 × (Nat → Int64)) → Prop) (v13 : Int32) (n_pool : Nat) (v14 : Nat → Int64) (y11 : Int64) (v8 : Int32) : (Unit) → Prop
  | _ => vp_in v13 n_pool ∧ (∀ g27 : Nat → Int64, g27 = vp_updL v14 v13.toNatClampNeg y11 → (J_lw_met_Ix_sort_28 ((v8 + 1), g27)))
def lw_met_Ix_sort_50 (post : (Nat → Int64) → Prop) (J_lw_met_Ix_sort_28 : (Int32 × (Nat → Int64)) → Prop) (a0 : Int32) (y5 : Int32) (n_pool : Nat) (y11 : Int64) (v8 : Int32) : Nat → (Int32 × (Nat → Int64)) → Prop
  | 0, _ => False
  | n12_ + 1, (v13, v14) => ∀ y15 : Int32, y15 = a0 + y5 → (((v13 < y15 → (jw_met_Ix_sort_102 post J_lw_met_Ix_sort_28 v13 n_pool v14 y11 v8 ())) ∧ (¬ (v13 < y15) → (∀ y17 : Int32, y17 = v13 - y5 → (vp_in y17 n_pool ∧ (∀ y19 : Int64, y19 = v14 y17.toNatClampNeg → (((y19 ≤ y11 → (jw_met_Ix_sort_102 post J_lw_met_Ix_sort_28 v13 n_pool v14 y11 v8 ())) ∧ (¬ (y19 ≤ y11) → (∀ y20 : Int32, y20 = v13 - y5 → (vp_in y20 n_pool ∧ (∀ y22 : Int64, y22 = v14 y20.toNatClampNeg → (vp_in v13 n_pool ∧ (∀ g24 : Nat → Int64, g24 = vp_updL v14 v13.toNatClampNeg y22 → (∀ y25 : Int32, y25 = v13 - y5 → (lw_met_Ix_sort_50 post J_lw_met_Ix_sort_28 a0 y5 n_pool y11 v8 n12_ (y25, g24)))))))))))))))))
def lw_met_Ix_sort_28 (post : (Nat → Int64) → Prop) (J_lw_met_Ix_sort_10 : (Int32 × (Nat → Int64)) → Prop) (used_ : Int32) (v2 : Int32) (n_pool : Nat) (a0 : Int32) (y5 : Int32) : Nat → (Int32 × (Nat → Int64)) → Prop
  | 0, _ => False
  | n7_ + 1, (v8, v9) => ((used_ ≤ v8 → (J_lw_met_Ix_sort_10 ((v2 + 1), v9))) ∧ (¬ (used_ ≤ v8) → (vp_in v8 n_pool ∧ (∀ y11 : Int64, y11 = v9 v8.toNatClampNeg → (∃ n9 : Nat, lw_met_Ix_sort_50 post (fun x9 => lw_met_Ix_sort_28 post J_lw_met_Ix_sort_10 used_ v2 n_pool a0 y5 n7_ x9) a0 y5 n_pool y11 v8 n9 (v8, v9))))))
def lw_met_Ix_sort_10 (post : (Nat → Int64) → Prop) (F_gaps_Ix : Nat → Int32) (a0 : Int32) (used_ : Int32) (n_pool : Nat) : Nat → (Int32 × (Nat → Int64)) → Prop
  | 0, _ => False
  | n1_ + 1, (v2, v3) => (((11 : Int32) ≤ v2 → (post v3)) ∧ (¬ ((11 : Int32) ≤ v2) → (vp_in v2 11 ∧ (∀ y5 : Int32, y5 = F_gaps_Ix v2.toNatClampNeg → (∀ y6 : Int32, y6 = a0 + y5 → (∃ n9 : Nat, lw_met_Ix_sort_28 post (fun x9 => lw_met_Ix_sort_10 post F_gaps_Ix a0 used_ n_pool n1_ x9) used_ v2 n_pool a0 y5 n9 (y6, v3)))))))
def wp_met_Ix_sort (post : (Nat → Int64) → Prop) (n_pool : Nat) (a0 : Int32) (used_ : Int32) (F_pool : Nat → Int64) (F_gaps_Ix : Nat → Int32) : Prop := ∃ n9 : Nat, lw_met_Ix_sort_10 post F_gaps_Ix a0 used_ n_pool n9 ((0 : Int32), F_pool)
set_option maxHeartbeats 4000000 in
set_option maxRecDepth 100000 in
theorem met_Ix_sort (l : Launch) (dC : Nat → ClassId) (dI : Nat → Nat → Nat) (n_pool : Nat) (h0 : Nat) (shapes_ : Nat) (fixed_ : Nat) (firsts_ : Nat) (lasts_ : Nat) (froms_ : Nat) (tos_ : Nat) (pool_ : Nat) (a0 : Int32) (size_ : Int32) (used_ : Int32) (F_pool : Nat → Int64) (k_pool : ClassId) (gaps_Ix : Nat) (F_gaps_Ix : Nat → Int32) (sz : Nat) {post : (Nat → Int64) → Prop} (hw : wp_met_Ix_sort post n_pool a0 used_ F_pool F_gaps_Ix) : Met l my_Ix_sort (Cond.code my_Ix_sort cd_Ix_sort 10 none :: tblG) ({ frames := 0, cells := 0, slots := 0, locals := 0 }) (va_Pc [.ref h0, .int a0] (fun U => U.heap.size = sz ∧ va_P (dC, dI) vwCl [(h0, .inr (4, [.int size_, .ref shapes_, .ref fixed_, .ref firsts_, .ref lasts_, .ref froms_, .ref tos_, .ref pool_, .int used_])), (pool_, .inl (k_pool, n_pool, .inr (.inl F_pool)))] U.heap ∧ va_K (dC, dI) vwCl [(k_pool, .long)] U ∧ va_D (fun _ => True) [(h0, .inr (4, [.int size_, .ref shapes_, .ref fixed_, .ref firsts_, .ref lasts_, .ref froms_, .ref tos_, .ref pool_, .int used_])), (pool_, .inl (k_pool, n_pool, .inr (.inl F_pool)))] ∧ va_Z "StrataBase$Indexes" "GAPS" "[I" (.ref gaps_Ix) (va_A [(h0, .inr (4, [.int size_, .ref shapes_, .ref fixed_, .ref firsts_, .ref lasts_, .ref froms_, .ref tos_, .ref pool_, .int used_])), (pool_, .inl (k_pool, n_pool, .inr (.inl F_pool)))] sz) U U.heap ∧ va_T .int gaps_Ix 11 (fun j => .int (F_gaps_Ix j)) (va_A [(h0, .inr (4, [.int size_, .ref shapes_, .ref fixed_, .ref firsts_, .ref lasts_, .ref froms_, .ref tos_, .ref pool_, .int used_])), (pool_, .inl (k_pool, n_pool, .inr (.inl F_pool)))] sz) U U.heap)) (va_Qv post (fun (u : (Nat → Int64)) (t : State) => match u with | o0 => va_P (dC, dI) vwCl [(h0, .inr (4, [.int size_, .ref shapes_, .ref fixed_, .ref firsts_, .ref lasts_, .ref froms_, .ref tos_, .ref pool_, .int used_])), (pool_, .inl (k_pool, n_pool, .inr (.inl o0)))] t.heap ∧ va_K (dC, dI) vwCl [(k_pool, .long)] t ∧ va_D (va_A [(h0, .inr (4, [.int size_, .ref shapes_, .ref fixed_, .ref firsts_, .ref lasts_, .ref froms_, .ref tos_, .ref pool_, .int used_])), (pool_, .inl (k_pool, n_pool, .inr (.inl F_pool)))] sz) [(h0, .inr (4, [.int size_, .ref shapes_, .ref fixed_, .ref firsts_, .ref lasts_, .ref froms_, .ref tos_, .ref pool_, .int used_])), (pool_, .inl (k_pool, n_pool, .inr (.inl o0)))]) (va_A [(h0, .inr (4, [.int size_, .ref shapes_, .ref fixed_, .ref firsts_, .ref lasts_, .ref froms_, .ref tos_, .ref pool_, .int used_])), (pool_, .inl (k_pool, n_pool, .inr (.inl F_pool)))] sz)) 0 0 (va_A [(h0, .inr (4, [.int size_, .ref shapes_, .ref fixed_, .ref firsts_, .ref lasts_, .ref froms_, .ref tos_, .ref pool_, .int used_])), (pool_, .inl (k_pool, n_pool, .inr (.inl F_pool)))] sz) := by
  refine Met.ofW (cc := cd_Ix_sort) (maxL := 10) (ret := none) (by decide) rfl ?_
  intro p e s m args below meth c s₁ B hml hv
  obtain ⟨rfl, hsz, hP, hK, hD0, hZ_Ix, hG_Ix⟩ := hv
  have hx := B.exec
  have hb := B.bytes
  have hr := B.returns
  have hT : ∀ w ∈ tblG, w.before _ s = true := fun w h => atoms_spec (ws := (Cond.code my_Ix_sort cd_Ix_sort 10 none :: tblG)) B.pre w (List.mem_cons_of_mem _ h)
  have hown : s.vm.findClass "StrataBase$Indexes" = some m.cls := findClass_of_methodNamed B.named
  have hlocks := B.notSynchronized
  subst hsz
  have hD := hD0.self (sz := s.heap.size)
  generalize hAe : va_A [(h0, .inr (4, [.int size_, .ref shapes_, .ref fixed_, .ref firsts_, .ref lasts_, .ref froms_, .ref tos_, .ref pool_, .int used_])), (pool_, .inl (k_pool, n_pool, .inr (.inl F_pool)))] s.heap.size = A at hD hZ_Ix hG_Ix ⊢
  have hA : ∀ q : Nat, s.heap.size ≤ q → A q := fun q h => by rw [← hAe]; exact Or.inr h
  have hS : va_S A s.heap s.heap [] := va_S.rf
  have hl := lv_entry ([.ref h0, .int a0]) (n := 10) (Nat.le_of_ble_eq_true rfl)
  rw [lg_entry_eq]
  generalize (lg_sl ([.ref h0, .int a0]) ++ List.replicate (10 - (lg_sl ([.ref h0, .int a0])).length) Slot.unset).toArray = ls at hl ⊢
  have hl : lv_has ls 10 [(0, .ref h0), (1, .int a0)] := hl
  unfold wp_met_Ix_sort at hw
  refine va_gets hx hb hZ_Ix hS hown (hT _ wd_1170) (fun _ h9 => h9) dc_Ix_sort_0 ?_
  refine lv_astore_n (lv' := [(2, .ref gaps_Ix), (0, .ref h0), (1, .int a0)]) hx hb dc_Ix_sort_3 rfl hl (by decide) rfl (fun ls hl => ?_)
  refine lv_aload_n hx hb dc_Ix_sort_4 rfl (lv_at hl 0 rfl) ?_
  refine va_tlen (v := 11) hx hb hG_Ix hS rfl dc_Ix_sort_5 ?_
  refine lv_istore_n (lv' := [(3, .int 11), (2, .ref gaps_Ix), (0, .ref h0), (1, .int a0)]) hx hb dc_Ix_sort_6 rfl hl (by decide) rfl (fun ls hl => ?_)
  refine lv_iconst (v := 0) hx hb dc_Ix_sort_7 (by decide) ?_
  refine lv_istore (lv' := [(4, .int 0), (3, .int 11), (2, .ref gaps_Ix), (0, .ref h0), (1, .int a0)]) hx hb dc_Ix_sort_8 hl (by decide) rfl (fun ls hl => ?_)
  obtain ⟨n9, hw⟩ := hw
  refine lp_fuel (σ := Int32 × (Nat → Int64)) _ (fun x9 H locs ls => match x9 with | (v2, v3) => va_K (dC, dI) vwCl [(k_pool, .long)] s ∧ va_P (dC, dI) vwCl [(h0, .inr (4, [.int size_, .ref shapes_, .ref fixed_, .ref firsts_, .ref lasts_, .ref froms_, .ref tos_, .ref pool_, .int used_])), (pool_, .inl (k_pool, n_pool, .inr (.inl v3)))] H ∧ va_D A [(h0, .inr (4, [.int size_, .ref shapes_, .ref fixed_, .ref firsts_, .ref lasts_, .ref froms_, .ref tos_, .ref pool_, .int used_])), (pool_, .inl (k_pool, n_pool, .inr (.inl v3)))] ∧ va_S A s.heap H locs ∧ lv_has ls 10 [(4, .int v2), (3, .int 11), (2, .ref gaps_Ix), (0, .ref h0), (1, .int a0)]) (fun x9 h9 => by simp only [lw_met_Ix_sort_10] at h9) ?_ hw ⟨hK.sub [0] rfl, hP.sub [0, 1] rfl, hD.sub [0, 1] (by decide) rfl, hS, lv_sub hl [0, 1, 2, 3, 4] rfl⟩
  intro n1_ x9 hw ih1 H locs ls hI
  obtain ⟨v2, v3⟩ := x9
  obtain ⟨hK, hP, hD, hS, hl⟩ := hI
  unfold lw_met_Ix_sort_10 at hw
  refine lv_iload hx hb dc_Ix_sort_10 (lv_at hl 0 rfl) ?_
  refine lv_iload_n hx hb dc_Ix_sort_12 rfl (lv_at hl 1 rfl) ?_
  refine lv_icmp_ge (tgt := 123) hx hb dc_Ix_sort_13 (by decide) (fun h13 => ?_) (fun h13 => ?_)
  · have hw := hw.1 h13
    refine W.widen (k := 0) (n := 0) (Nat.le_of_ble_eq_true rfl) (Nat.le_of_ble_eq_true rfl) ?_
    exact W.vret hx hb hr (fun t ht hW => ⟨⟨v3, rfl, hw, by rw [ht]; exact hP, va_K.moved hW.alike hK, hD⟩, hS.F ht⟩) hS.2.2 dc_Ix_sort_123
  · have hw := hw.2 h13
    refine lv_aload_n hx hb dc_Ix_sort_16 rfl (lv_at hl 2 rfl) ?_
    refine lv_iload hx hb dc_Ix_sort_17 (lv_at hl 0 rfl) ?_
    obtain ⟨hv4, hw⟩ := hw
    refine va_ti (v := .int (F_gaps_Ix v2.toNatClampNeg)) hx hb hG_Ix hS hv4 rfl dc_Ix_sort_19 ?_
    refine lv_topi (fun y5 ey5 => ?_)
    have hw := hw y5 ey5
    refine lv_istore (lv' := [(5, .int y5), (4, .int v2), (3, .int 11), (2, .ref gaps_Ix), (0, .ref h0), (1, .int a0)]) hx hb dc_Ix_sort_20 hl (by decide) rfl (fun ls hl => ?_)
    refine lv_iload_n hx hb dc_Ix_sort_22 rfl (lv_at hl 5 rfl) ?_
    refine lv_iload hx hb dc_Ix_sort_23 (lv_at hl 0 rfl) ?_
    refine lv_iadd hx hb dc_Ix_sort_25 ?_
    refine lv_topi (fun y6 ey6 => ?_)
    have hw := hw y6 ey6
    refine lv_istore (lv' := [(6, .int y6), (5, .int y5), (4, .int v2), (3, .int 11), (2, .ref gaps_Ix), (0, .ref h0), (1, .int a0)]) hx hb dc_Ix_sort_26 hl (by decide) rfl (fun ls hl => ?_)
    obtain ⟨n9, hw⟩ := hw
    refine lp_fuel (σ := Int32 × (Nat → Int64)) _ (fun x9 H locs ls => match x9 with | (v8, v9) => va_K (dC, dI) vwCl [(k_pool, .long)] s ∧ va_P (dC, dI) vwCl [(h0, .inr (4, [.int size_, .ref shapes_, .ref fixed_, .ref firsts_, .ref lasts_, .ref froms_, .ref tos_, .ref pool_, .int used_])), (pool_, .inl (k_pool, n_pool, .inr (.inl v9)))] H ∧ va_D A [(h0, .inr (4, [.int size_, .ref shapes_, .ref fixed_, .ref firsts_, .ref lasts_, .ref froms_, .ref tos_, .ref pool_, .int used_])), (pool_, .inl (k_pool, n_pool, .inr (.inl v9)))] ∧ va_S A s.heap H locs ∧ lv_has ls 10 [(6, .int v8), (5, .int y5), (4, .int v2), (3, .int 11), (2, .ref gaps_Ix), (0, .ref h0), (1, .int a0)]) (fun x9 h9 => by simp only [lw_met_Ix_sort_28] at h9) ?_ hw ⟨hK.sub [0] rfl, hP.sub [0, 1] rfl, hD.sub [0, 1] (by decide) rfl, hS, lv_sub hl [0, 1, 2, 3, 4, 5, 6] rfl⟩
    intro n7_ x9 hw ih7 H locs ls hI
    obtain ⟨v8, v9⟩ := x9
    obtain ⟨hK, hP, hD, hS, hl⟩ := hI
    unfold lw_met_Ix_sort_28 at hw
    refine lv_iload hx hb dc_Ix_sort_28 (lv_at hl 0 rfl) ?_
    refine lv_aload_n hx hb dc_Ix_sort_30 rfl (lv_at hl 5 rfl) ?_
    refine va_get (D := (dC, dI)) (ci := 4) (v := .int used_) (C := "StrataBase$Indexes") (T := tb_Ix) (N := 9) hx hb hT in_Ix hown hK hP 0 rfl rfl 8 (by decide) (hT _ wd_360) (fun _ h9 => h9) rfl dc_Ix_sort_31 ?_
    refine lv_icmp_ge (tgt := 117) hx hb dc_Ix_sort_34 (by decide) (fun h34 => ?_) (fun h34 => ?_)
    · have hw := hw.1 h34
      refine lv_iinc (k := 2) (v := v2 + 1) (lv' := [(4, .int (v2 + 1)), (6, .int v8), (5, .int y5), (3, .int 11), (2, .ref gaps_Ix), (0, .ref h0), (1, .int a0)]) hx hb dc_Ix_sort_117 hl rfl rfl (by decide) rfl (fun ls hl => ?_)
      refine lv_goto (tgt := 10) hx hb dc_Ix_sort_120 (by decide) ?_
      exact ih1 ((v2 + 1), v9) hw _ _ _ ⟨hK.sub [0] rfl, hP.sub [0, 1] rfl, hD.sub [0, 1] (by decide) rfl, hS, lv_sub hl [0, 3, 4, 5, 6] rfl⟩
    · have hw := hw.2 h34
      refine lv_aload_n hx hb dc_Ix_sort_37 rfl (lv_at hl 5 rfl) ?_
      refine va_get (D := (dC, dI)) (ci := 4) (v := .ref pool_) (C := "StrataBase$Indexes") (T := tb_Ix) (N := 9) hx hb hT in_Ix hown hK hP 0 rfl rfl 7 (by decide) (hT _ wd_359) (fun _ h9 => h9) rfl dc_Ix_sort_38 ?_
      refine lv_iload hx hb dc_Ix_sort_41 (lv_at hl 0 rfl) ?_
      obtain ⟨hv10, hw⟩ := hw
      refine va_lald hx hb hK hP 1 0 rfl rfl hv10 dc_Ix_sort_43 ?_
      refine lv_topl (fun y11 ey11 => ?_)
      have hw := hw y11 ey11
      refine lv_lstore (lv' := [(7, .long y11), (6, .int v8), (5, .int y5), (4, .int v2), (3, .int 11), (2, .ref gaps_Ix), (0, .ref h0), (1, .int a0)]) hx hb dc_Ix_sort_44 hl (by decide) rfl (fun ls hl => ?_)
      refine lv_iload hx hb dc_Ix_sort_46 (lv_at hl 1 rfl) ?_
      refine lv_istore (lv' := [(9, .int v8), (7, .long y11), (6, .int v8), (5, .int y5), (4, .int v2), (3, .int 11), (2, .ref gaps_Ix), (0, .ref h0), (1, .int a0)]) hx hb dc_Ix_sort_48 hl (by decide) rfl (fun ls hl => ?_)
      obtain ⟨n9, hw⟩ := hw
      refine lp_fuel (σ := Int32 × (Nat → Int64)) _ (fun x9 H locs ls => match x9 with | (v13, v14) => va_K (dC, dI) vwCl [(k_pool, .long)] s ∧ va_P (dC, dI) vwCl [(h0, .inr (4, [.int size_, .ref shapes_, .ref fixed_, .ref firsts_, .ref lasts_, .ref froms_, .ref tos_, .ref pool_, .int used_])), (pool_, .inl (k_pool, n_pool, .inr (.inl v14)))] H ∧ va_D A [(h0, .inr (4, [.int size_, .ref shapes_, .ref fixed_, .ref firsts_, .ref lasts_, .ref froms_, .ref tos_, .ref pool_, .int used_])), (pool_, .inl (k_pool, n_pool, .inr (.inl v14)))] ∧ va_S A s.heap H locs ∧ lv_has ls 10 [(9, .int v13), (7, .long y11), (6, .int v8), (5, .int y5), (4, .int v2), (3, .int 11), (2, .ref gaps_Ix), (0, .ref h0), (1, .int a0)]) (fun x9 h9 => by simp only [lw_met_Ix_sort_50] at h9) ?_ hw ⟨hK.sub [0] rfl, hP.sub [0, 1] rfl, hD.sub [0, 1] (by decide) rfl, hS, lv_sub hl [0, 1, 2, 3, 4, 5, 6, 7, 8] rfl⟩
      intro n12_ x9 hw ih12 H locs ls hI
      obtain ⟨v13, v14⟩ := x9
      obtain ⟨hK, hP, hD, hS, hl⟩ := hI
      unfold lw_met_Ix_sort_50 at hw
      refine lv_iload hx hb dc_Ix_sort_50 (lv_at hl 0 rfl) ?_
      refine lv_iload_n hx hb dc_Ix_sort_52 rfl (lv_at hl 8 rfl) ?_
      refine lv_iload hx hb dc_Ix_sort_53 (lv_at hl 3 rfl) ?_
      refine lv_iadd hx hb dc_Ix_sort_55 ?_
      refine lv_topi (fun y15 ey15 => ?_)
      have hw := hw y15 ey15
      refine jn_st (σ := Unit) (pc2 := 102) (fun x9 => jw_met_Ix_sort_102 post (fun x9 => lw_met_Ix_sort_28 post (fun x9 => lw_met_Ix_sort_10 post F_gaps_Ix a0 used_ n_pool n1_ x9) used_ v2 n_pool a0 y5 n7_ x9) v13 n_pool v14 y11 v8 x9) (fun _ => []) (fun _ H locs ls => va_K (dC, dI) vwCl [(k_pool, .long)] s ∧ va_P (dC, dI) vwCl [(h0, .inr (4, [.int size_, .ref shapes_, .ref fixed_, .ref firsts_, .ref lasts_, .ref froms_, .ref tos_, .ref pool_, .int used_])), (pool_, .inl (k_pool, n_pool, .inr (.inl v14)))] H ∧ va_D A [(h0, .inr (4, [.int size_, .ref shapes_, .ref fixed_, .ref firsts_, .ref lasts_, .ref froms_, .ref tos_, .ref pool_, .int used_])), (pool_, .inl (k_pool, n_pool, .inr (.inl v14)))] ∧ va_S A s.heap H locs ∧ lv_has ls 10 [(0, .ref h0), (1, .int a0), (2, .ref gaps_Ix), (3, .int 11), (4, .int v2), (5, .int y5), (6, .int v8), (7, .long y11), (9, .int v13)]) ?_ (fun k16 => ?_)
      rotate_left
      · refine lv_icmp_lt (tgt := 102) hx hb dc_Ix_sort_56 (by decide) (fun h56 => ?_) (fun h56 => ?_)
        · have hw := hw.1 h56
          exact k16 () hw _ _ _ ⟨hK.sub [0] rfl, hP.sub [0, 1] rfl, hD.sub [0, 1] (by decide) rfl, hS, lv_sub hl [7, 8, 6, 5, 4, 3, 2, 1, 0] rfl⟩
        · have hw := hw.2 h56
          refine lv_aload_n hx hb dc_Ix_sort_59 rfl (lv_at hl 7 rfl) ?_
          refine va_get (D := (dC, dI)) (ci := 4) (v := .ref pool_) (C := "StrataBase$Indexes") (T := tb_Ix) (N := 9) hx hb hT in_Ix hown hK hP 0 rfl rfl 7 (by decide) (hT _ wd_359) (fun _ h9 => h9) rfl dc_Ix_sort_60 ?_
          refine lv_iload hx hb dc_Ix_sort_63 (lv_at hl 0 rfl) ?_
          refine lv_iload hx hb dc_Ix_sort_65 (lv_at hl 3 rfl) ?_
          refine lv_isub hx hb dc_Ix_sort_67 ?_
          refine lv_topi (fun y17 ey17 => ?_)
          have hw := hw y17 ey17
          obtain ⟨hv18, hw⟩ := hw
          refine va_lald hx hb hK hP 1 0 rfl rfl hv18 dc_Ix_sort_68 ?_
          refine lv_topl (fun y19 ey19 => ?_)
          have hw := hw y19 ey19
          refine lv_lload hx hb dc_Ix_sort_69 (lv_at hl 1 rfl) ?_
          refine W.lcmp hx hb dc_Ix_sort_71 ?_
          refine lv_if_le (tgt := 102) hx hb dc_Ix_sort_72 (by decide) (fun h72 => ?_) (fun h72 => ?_)
          · have h72 : y19 ≤ y11 := (lg_cmp_le _ _).mp h72
            have hw := hw.1 h72
            exact k16 () hw _ _ _ ⟨hK.sub [0] rfl, hP.sub [0, 1] rfl, hD.sub [0, 1] (by decide) rfl, hS, lv_sub hl [7, 8, 6, 5, 4, 3, 2, 1, 0] rfl⟩
          · have h72 : ¬ (y19 ≤ y11) := fun z9 => h72 ((lg_cmp_le _ _).mpr z9)
            have hw := hw.2 h72
            refine lv_aload_n hx hb dc_Ix_sort_75 rfl (lv_at hl 7 rfl) ?_
            refine va_get (D := (dC, dI)) (ci := 4) (v := .ref pool_) (C := "StrataBase$Indexes") (T := tb_Ix) (N := 9) hx hb hT in_Ix hown hK hP 0 rfl rfl 7 (by decide) (hT _ wd_359) (fun _ h9 => h9) rfl dc_Ix_sort_76 ?_
            refine lv_iload hx hb dc_Ix_sort_79 (lv_at hl 0 rfl) ?_
            refine lv_aload_n hx hb dc_Ix_sort_81 rfl (lv_at hl 7 rfl) ?_
            refine va_get (D := (dC, dI)) (ci := 4) (v := .ref pool_) (C := "StrataBase$Indexes") (T := tb_Ix) (N := 9) hx hb hT in_Ix hown hK hP 0 rfl rfl 7 (by decide) (hT _ wd_359) (fun _ h9 => h9) rfl dc_Ix_sort_82 ?_
            refine lv_iload hx hb dc_Ix_sort_85 (lv_at hl 0 rfl) ?_
            refine lv_iload hx hb dc_Ix_sort_87 (lv_at hl 3 rfl) ?_
            refine lv_isub hx hb dc_Ix_sort_89 ?_
            refine lv_topi (fun y20 ey20 => ?_)
            have hw := hw y20 ey20
            obtain ⟨hv21, hw⟩ := hw
            refine va_lald hx hb hK hP 1 0 rfl rfl hv21 dc_Ix_sort_90 ?_
            refine lv_topl (fun y22 ey22 => ?_)
            have hw := hw y22 ey22
            obtain ⟨hv23, hw⟩ := hw
            refine va_last hx hb hK hP hD hS 1 0 rfl rfl hv23 dc_Ix_sort_91 (fun H locs hP hD hS => ?_)
            have hP : va_P (dC, dI) vwCl [(h0, .inr (4, [.int size_, .ref shapes_, .ref fixed_, .ref firsts_, .ref lasts_, .ref froms_, .ref tos_, .ref pool_, .int used_])), (pool_, .inl (k_pool, n_pool, .inr (.inl (vp_updL v14 v13.toNatClampNeg y22))))] H := hP
            have hD : va_D A [(h0, .inr (4, [.int size_, .ref shapes_, .ref fixed_, .ref firsts_, .ref lasts_, .ref froms_, .ref tos_, .ref pool_, .int used_])), (pool_, .inl (k_pool, n_pool, .inr (.inl (vp_updL v14 v13.toNatClampNeg y22))))] := hD
            obtain ⟨g24, eg24⟩ : ∃ z9 : Nat → Int64, z9 = vp_updL v14 v13.toNatClampNeg y22 := ⟨_, rfl⟩
            rw [← eg24] at hP hD
            have hw := hw g24 eg24
            refine lv_iload hx hb dc_Ix_sort_92 (lv_at hl 0 rfl) ?_
            refine lv_iload hx hb dc_Ix_sort_94 (lv_at hl 3 rfl) ?_
            refine lv_isub hx hb dc_Ix_sort_96 ?_
            refine lv_topi (fun y25 ey25 => ?_)
            have hw := hw y25 ey25
            refine lv_istore (lv' := [(9, .int y25), (7, .long y11), (6, .int v8), (5, .int y5), (4, .int v2), (3, .int 11), (2, .ref gaps_Ix), (0, .ref h0), (1, .int a0)]) hx hb dc_Ix_sort_97 hl (by decide) rfl (fun ls hl => ?_)
            refine lv_goto (tgt := 50) hx hb dc_Ix_sort_99 (by decide) ?_
            exact ih12 (y25, g24) hw _ _ _ ⟨hK.sub [0] rfl, hP.sub [0, 1] rfl, hD.sub [0, 1] (by decide) rfl, hS, lv_sub hl [0, 1, 2, 3, 4, 5, 6, 7, 8] rfl⟩
      intro x9 hw H locs ls hI
      obtain ⟨hK, hP, hD, hS, hl⟩ := hI
      unfold jw_met_Ix_sort_102 at hw
      refine W.eq (g2 := F0 m 102 ls []) rfl ?_
      refine lv_aload_n hx hb dc_Ix_sort_102 rfl (lv_at hl 0 rfl) ?_
      refine va_get (D := (dC, dI)) (ci := 4) (v := .ref pool_) (C := "StrataBase$Indexes") (T := tb_Ix) (N := 9) hx hb hT in_Ix hown hK hP 0 rfl rfl 7 (by decide) (hT _ wd_359) (fun _ h9 => h9) rfl dc_Ix_sort_103 ?_
      refine lv_iload hx hb dc_Ix_sort_106 (lv_at hl 8 rfl) ?_
      refine lv_lload hx hb dc_Ix_sort_108 (lv_at hl 7 rfl) ?_
      obtain ⟨hv26, hw⟩ := hw
      refine va_last hx hb hK hP hD hS 1 0 rfl rfl hv26 dc_Ix_sort_110 (fun H locs hP hD hS => ?_)
      have hP : va_P (dC, dI) vwCl [(h0, .inr (4, [.int size_, .ref shapes_, .ref fixed_, .ref firsts_, .ref lasts_, .ref froms_, .ref tos_, .ref pool_, .int used_])), (pool_, .inl (k_pool, n_pool, .inr (.inl (vp_updL v14 v13.toNatClampNeg y11))))] H := hP
      have hD : va_D A [(h0, .inr (4, [.int size_, .ref shapes_, .ref fixed_, .ref firsts_, .ref lasts_, .ref froms_, .ref tos_, .ref pool_, .int used_])), (pool_, .inl (k_pool, n_pool, .inr (.inl (vp_updL v14 v13.toNatClampNeg y11))))] := hD
      obtain ⟨g27, eg27⟩ : ∃ z9 : Nat → Int64, z9 = vp_updL v14 v13.toNatClampNeg y11 := ⟨_, rfl⟩
      rw [← eg27] at hP hD
      have hw := hw g27 eg27
      refine lv_iinc (k := 6) (v := v8 + 1) (lv' := [(6, .int (v8 + 1)), (0, .ref h0), (1, .int a0), (2, .ref gaps_Ix), (3, .int 11), (4, .int v2), (5, .int y5), (7, .long y11), (9, .int v13)]) hx hb dc_Ix_sort_111 hl rfl rfl (by decide) rfl (fun ls hl => ?_)
      refine lv_goto (tgt := 28) hx hb dc_Ix_sort_114 (by decide) ?_
      exact ih7 ((v8 + 1), g27) hw _ _ _ ⟨hK.sub [0] rfl, hP.sub [0, 1] rfl, hD.sub [0, 1] (by decide) rfl, hS, lv_sub hl [0, 6, 5, 4, 3, 1, 2] rfl⟩

def jw_met_Ix_dropEquals_35 (post : (Int32 × (Nat → Int64)) → Prop) (J_lw_met_Ix_dropEquals_4 : (Int32 × Int32 × (Nat → Int64)) → Prop) (v2 : Int32) (n_pool : Nat) (v4 : Nat → Int64) (v3 : Int32) : (Unit) → Prop
  | _ => vp_in v2 n_pool ∧ (∀ y13 : Int64, y13 = v4 v2.toNatClampNeg → (vp_in v3 n_pool ∧ (∀ g15 : Nat → Int64, g15 = vp_updL v4 v3.toNatClampNeg y13 → (J_lw_met_Ix_dropEquals_4 ((v2 + 1), (v3 + 1), g15)))))
def jw_met_Ix_dropEquals_56 (post : (Int32 × (Nat → Int64)) → Prop) (v3 : Int32) (v4 : Nat → Int64) : (Unit) → Prop
  | _ => post (v3, v4)
def lw_met_Ix_dropEquals_4 (post : (Int32 × (Nat → Int64)) → Prop) (used_ : Int32) (a0 : Int32) (n_pool : Nat) : Nat → (Int32 × Int32 × (Nat → Int64)) → Prop
  | 0, _ => False
  | n1_ + 1, (v2, v3, v4) => ((used_ ≤ v2 → (jw_met_Ix_dropEquals_56 post v3 v4 ())) ∧ (¬ (used_ ≤ v2) → (((v3 = a0 → (jw_met_Ix_dropEquals_35 post (fun x9 => lw_met_Ix_dropEquals_4 post used_ a0 n_pool n1_ x9) v2 n_pool v4 v3 ())) ∧ (¬ (v3 = a0) → (∀ y7 : Int32, y7 = v3 - (1 : Int32) → (vp_in y7 n_pool ∧ (∀ y9 : Int64, y9 = v4 y7.toNatClampNeg → (vp_in v2 n_pool ∧ (∀ y11 : Int64, y11 = v4 v2.toNatClampNeg → (((y9 = y11 → (lw_met_Ix_dropEquals_4 post used_ a0 n_pool n1_ ((v2 + 1), v3, v4))) ∧ (¬ (y9 = y11) → (jw_met_Ix_dropEquals_35 post (fun x9 => lw_met_Ix_dropEquals_4 post used_ a0 n_pool n1_ x9) v2 n_pool v4 v3 ()))))))))))))))
def wp_met_Ix_dropEquals (post : (Int32 × (Nat → Int64)) → Prop) (n_pool : Nat) (a0 : Int32) (used_ : Int32) (F_pool : Nat → Int64) : Prop := ∃ n9 : Nat, lw_met_Ix_dropEquals_4 post used_ a0 n_pool n9 (a0, a0, F_pool)
set_option maxHeartbeats 4000000 in
set_option maxRecDepth 100000 in
theorem met_Ix_dropEquals (l : Launch) (dC : Nat → ClassId) (dI : Nat → Nat → Nat) (n_pool : Nat) (h0 : Nat) (shapes_ : Nat) (fixed_ : Nat) (firsts_ : Nat) (lasts_ : Nat) (froms_ : Nat) (tos_ : Nat) (pool_ : Nat) (a0 : Int32) (size_ : Int32) (used_ : Int32) (F_pool : Nat → Int64) (k_pool : ClassId) (sz : Nat) {post : (Int32 × (Nat → Int64)) → Prop} (hw : wp_met_Ix_dropEquals post n_pool a0 used_ F_pool) : Met l my_Ix_dropEquals (Cond.code my_Ix_dropEquals cd_Ix_dropEquals 4 none :: tblG) ({ frames := 0, cells := 0, slots := 0, locals := 0 }) (va_Pc [.ref h0, .int a0] (fun U => U.heap.size = sz ∧ va_P (dC, dI) vwCl [(h0, .inr (4, [.int size_, .ref shapes_, .ref fixed_, .ref firsts_, .ref lasts_, .ref froms_, .ref tos_, .ref pool_, .int used_])), (pool_, .inl (k_pool, n_pool, .inr (.inl F_pool)))] U.heap ∧ va_K (dC, dI) vwCl [(k_pool, .long)] U ∧ va_D (fun _ => True) [(h0, .inr (4, [.int size_, .ref shapes_, .ref fixed_, .ref firsts_, .ref lasts_, .ref froms_, .ref tos_, .ref pool_, .int used_])), (pool_, .inl (k_pool, n_pool, .inr (.inl F_pool)))])) (va_Qv post (fun (u : Int32 × (Nat → Int64)) (t : State) => match u with | (o0, o1) => va_P (dC, dI) vwCl [(h0, .inr (4, [.int size_, .ref shapes_, .ref fixed_, .ref firsts_, .ref lasts_, .ref froms_, .ref tos_, .ref pool_, .int o0])), (pool_, .inl (k_pool, n_pool, .inr (.inl o1)))] t.heap ∧ va_K (dC, dI) vwCl [(k_pool, .long)] t ∧ va_D (va_A [(h0, .inr (4, [.int size_, .ref shapes_, .ref fixed_, .ref firsts_, .ref lasts_, .ref froms_, .ref tos_, .ref pool_, .int used_])), (pool_, .inl (k_pool, n_pool, .inr (.inl F_pool)))] sz) [(h0, .inr (4, [.int size_, .ref shapes_, .ref fixed_, .ref firsts_, .ref lasts_, .ref froms_, .ref tos_, .ref pool_, .int o0])), (pool_, .inl (k_pool, n_pool, .inr (.inl o1)))]) (va_A [(h0, .inr (4, [.int size_, .ref shapes_, .ref fixed_, .ref firsts_, .ref lasts_, .ref froms_, .ref tos_, .ref pool_, .int used_])), (pool_, .inl (k_pool, n_pool, .inr (.inl F_pool)))] sz)) 0 0 (va_A [(h0, .inr (4, [.int size_, .ref shapes_, .ref fixed_, .ref firsts_, .ref lasts_, .ref froms_, .ref tos_, .ref pool_, .int used_])), (pool_, .inl (k_pool, n_pool, .inr (.inl F_pool)))] sz) := by
  refine Met.ofW (cc := cd_Ix_dropEquals) (maxL := 4) (ret := none) (by decide) rfl ?_
  intro p e s m args below meth c s₁ B hml hv
  obtain ⟨rfl, hsz, hP, hK, hD0⟩ := hv
  have hx := B.exec
  have hb := B.bytes
  have hr := B.returns
  have hT : ∀ w ∈ tblG, w.before _ s = true := fun w h => atoms_spec (ws := (Cond.code my_Ix_dropEquals cd_Ix_dropEquals 4 none :: tblG)) B.pre w (List.mem_cons_of_mem _ h)
  have hown : s.vm.findClass "StrataBase$Indexes" = some m.cls := findClass_of_methodNamed B.named
  have hlocks := B.notSynchronized
  subst hsz
  have hD := hD0.self (sz := s.heap.size)
  generalize hAe : va_A [(h0, .inr (4, [.int size_, .ref shapes_, .ref fixed_, .ref firsts_, .ref lasts_, .ref froms_, .ref tos_, .ref pool_, .int used_])), (pool_, .inl (k_pool, n_pool, .inr (.inl F_pool)))] s.heap.size = A at hD ⊢
  have hA : ∀ q : Nat, s.heap.size ≤ q → A q := fun q h => by rw [← hAe]; exact Or.inr h
  have hS : va_S A s.heap s.heap [] := va_S.rf
  have hl := lv_entry ([.ref h0, .int a0]) (n := 4) (Nat.le_of_ble_eq_true rfl)
  rw [lg_entry_eq]
  generalize (lg_sl ([.ref h0, .int a0]) ++ List.replicate (4 - (lg_sl ([.ref h0, .int a0])).length) Slot.unset).toArray = ls at hl ⊢
  have hl : lv_has ls 4 [(0, .ref h0), (1, .int a0)] := hl
  unfold wp_met_Ix_dropEquals at hw
  refine lv_iload_n hx hb dc_Ix_dropEquals_0 rfl (lv_at hl 1 rfl) ?_
  refine lv_istore_n (lv' := [(2, .int a0), (0, .ref h0), (1, .int a0)]) hx hb dc_Ix_dropEquals_1 rfl hl (by decide) rfl (fun ls hl => ?_)
  refine lv_iload_n hx hb dc_Ix_dropEquals_2 rfl (lv_at hl 2 rfl) ?_
  refine lv_istore_n (lv' := [(3, .int a0), (2, .int a0), (0, .ref h0), (1, .int a0)]) hx hb dc_Ix_dropEquals_3 rfl hl (by decide) rfl (fun ls hl => ?_)
  obtain ⟨n9, hw⟩ := hw
  refine lp_fuel (σ := Int32 × Int32 × (Nat → Int64)) _ (fun x9 H locs ls => match x9 with | (v2, v3, v4) => va_K (dC, dI) vwCl [(k_pool, .long)] s ∧ va_P (dC, dI) vwCl [(h0, .inr (4, [.int size_, .ref shapes_, .ref fixed_, .ref firsts_, .ref lasts_, .ref froms_, .ref tos_, .ref pool_, .int used_])), (pool_, .inl (k_pool, n_pool, .inr (.inl v4)))] H ∧ va_D A [(h0, .inr (4, [.int size_, .ref shapes_, .ref fixed_, .ref firsts_, .ref lasts_, .ref froms_, .ref tos_, .ref pool_, .int used_])), (pool_, .inl (k_pool, n_pool, .inr (.inl v4)))] ∧ va_S A s.heap H locs ∧ lv_has ls 4 [(3, .int v2), (2, .int v3), (0, .ref h0), (1, .int a0)]) (fun x9 h9 => by simp only [lw_met_Ix_dropEquals_4] at h9) ?_ hw ⟨hK.sub [0] rfl, hP.sub [0, 1] rfl, hD.sub [0, 1] (by decide) rfl, hS, lv_sub hl [0, 1, 2, 3] rfl⟩
  intro n1_ x9 hw ih1 H locs ls hI
  obtain ⟨v2, v3, v4⟩ := x9
  obtain ⟨hK, hP, hD, hS, hl⟩ := hI
  unfold lw_met_Ix_dropEquals_4 at hw
  refine lv_iload_n hx hb dc_Ix_dropEquals_4 rfl (lv_at hl 0 rfl) ?_
  refine lv_aload_n hx hb dc_Ix_dropEquals_5 rfl (lv_at hl 2 rfl) ?_
  refine va_get (D := (dC, dI)) (ci := 4) (v := .int used_) (C := "StrataBase$Indexes") (T := tb_Ix) (N := 9) hx hb hT in_Ix hown hK hP 0 rfl rfl 8 (by decide) (hT _ wd_360) (fun _ h9 => h9) rfl dc_Ix_dropEquals_6 ?_
  refine jn_st (σ := Unit) (pc2 := 56) (fun x9 => jw_met_Ix_dropEquals_56 post v3 v4 x9) (fun _ => []) (fun _ H locs ls => va_K (dC, dI) vwCl [(k_pool, .long)] s ∧ va_P (dC, dI) vwCl [(h0, .inr (4, [.int size_, .ref shapes_, .ref fixed_, .ref firsts_, .ref lasts_, .ref froms_, .ref tos_, .ref pool_, .int used_])), (pool_, .inl (k_pool, n_pool, .inr (.inl v4)))] H ∧ va_D A [(h0, .inr (4, [.int size_, .ref shapes_, .ref fixed_, .ref firsts_, .ref lasts_, .ref froms_, .ref tos_, .ref pool_, .int used_])), (pool_, .inl (k_pool, n_pool, .inr (.inl v4)))] ∧ va_S A s.heap H locs ∧ lv_has ls 4 [(0, .ref h0), (2, .int v3)]) ?_ (fun k5 => ?_)
  rotate_left
  · refine lv_icmp_ge (tgt := 56) hx hb dc_Ix_dropEquals_9 (by decide) (fun h9 => ?_) (fun h9 => ?_)
    · have hw := hw.1 h9
      exact k5 () hw _ _ _ ⟨hK.sub [0] rfl, hP.sub [0, 1] rfl, hD.sub [0, 1] (by decide) rfl, hS, lv_sub hl [2, 1] rfl⟩
    · have hw := hw.2 h9
      refine lv_iload_n hx hb dc_Ix_dropEquals_12 rfl (lv_at hl 1 rfl) ?_
      refine lv_iload_n hx hb dc_Ix_dropEquals_13 rfl (lv_at hl 3 rfl) ?_
      refine jn_st (σ := Unit) (pc2 := 35) (fun x9 => jw_met_Ix_dropEquals_35 post (fun x9 => lw_met_Ix_dropEquals_4 post used_ a0 n_pool n1_ x9) v2 n_pool v4 v3 x9) (fun _ => []) (fun _ H locs ls => va_K (dC, dI) vwCl [(k_pool, .long)] s ∧ va_P (dC, dI) vwCl [(h0, .inr (4, [.int size_, .ref shapes_, .ref fixed_, .ref firsts_, .ref lasts_, .ref froms_, .ref tos_, .ref pool_, .int used_])), (pool_, .inl (k_pool, n_pool, .inr (.inl v4)))] H ∧ va_D A [(h0, .inr (4, [.int size_, .ref shapes_, .ref fixed_, .ref firsts_, .ref lasts_, .ref froms_, .ref tos_, .ref pool_, .int used_])), (pool_, .inl (k_pool, n_pool, .inr (.inl v4)))] ∧ va_S A s.heap H locs ∧ lv_has ls 4 [(0, .ref h0), (1, .int a0), (2, .int v3), (3, .int v2)]) ?_ (fun k6 => ?_)
      rotate_left
      · refine lv_icmp_eq (tgt := 35) hx hb dc_Ix_dropEquals_14 (by decide) (fun h14 => ?_) (fun h14 => ?_)
        · have hw := hw.1 h14
          exact k6 () hw _ _ _ ⟨hK.sub [0] rfl, hP.sub [0, 1] rfl, hD.sub [0, 1] (by decide) rfl, hS, lv_sub hl [2, 3, 1, 0] rfl⟩
        · have hw := hw.2 h14
          refine lv_aload_n hx hb dc_Ix_dropEquals_17 rfl (lv_at hl 2 rfl) ?_
          refine va_get (D := (dC, dI)) (ci := 4) (v := .ref pool_) (C := "StrataBase$Indexes") (T := tb_Ix) (N := 9) hx hb hT in_Ix hown hK hP 0 rfl rfl 7 (by decide) (hT _ wd_359) (fun _ h9 => h9) rfl dc_Ix_dropEquals_18 ?_
          refine lv_iload_n hx hb dc_Ix_dropEquals_21 rfl (lv_at hl 1 rfl) ?_
          refine lv_iconst (v := 1) hx hb dc_Ix_dropEquals_22 (by decide) ?_
          refine lv_isub hx hb dc_Ix_dropEquals_23 ?_
          refine lv_topi (fun y7 ey7 => ?_)
          have hw := hw y7 ey7
          obtain ⟨hv8, hw⟩ := hw
          refine va_lald hx hb hK hP 1 0 rfl rfl hv8 dc_Ix_dropEquals_24 ?_
          refine lv_topl (fun y9 ey9 => ?_)
          have hw := hw y9 ey9
          refine lv_aload_n hx hb dc_Ix_dropEquals_25 rfl (lv_at hl 2 rfl) ?_
          refine va_get (D := (dC, dI)) (ci := 4) (v := .ref pool_) (C := "StrataBase$Indexes") (T := tb_Ix) (N := 9) hx hb hT in_Ix hown hK hP 0 rfl rfl 7 (by decide) (hT _ wd_359) (fun _ h9 => h9) rfl dc_Ix_dropEquals_26 ?_
          refine lv_iload_n hx hb dc_Ix_dropEquals_29 rfl (lv_at hl 0 rfl) ?_
          obtain ⟨hv10, hw⟩ := hw
          refine va_lald hx hb hK hP 1 0 rfl rfl hv10 dc_Ix_dropEquals_30 ?_
          refine lv_topl (fun y11 ey11 => ?_)
          have hw := hw y11 ey11
          refine W.lcmp hx hb dc_Ix_dropEquals_31 ?_
          refine lv_if_eq (tgt := 50) hx hb dc_Ix_dropEquals_32 (by decide) (fun h32 => ?_) (fun h32 => ?_)
          · have h32 : y9 = y11 := (lg_cmp_eq _ _).mp h32
            have hw := hw.1 h32
            refine lv_iinc (k := 0) (v := v2 + 1) (lv' := [(3, .int (v2 + 1)), (2, .int v3), (0, .ref h0), (1, .int a0)]) hx hb dc_Ix_dropEquals_50 hl rfl rfl (by decide) rfl (fun ls hl => ?_)
            refine lv_goto (tgt := 4) hx hb dc_Ix_dropEquals_53 (by decide) ?_
            exact ih1 ((v2 + 1), v3, v4) hw _ _ _ ⟨hK.sub [0] rfl, hP.sub [0, 1] rfl, hD.sub [0, 1] (by decide) rfl, hS, lv_sub hl [0, 1, 2, 3] rfl⟩
          · have h32 : ¬ (y9 = y11) := fun z9 => h32 ((lg_cmp_eq _ _).mpr z9)
            have hw := hw.2 h32
            exact k6 () hw _ _ _ ⟨hK.sub [0] rfl, hP.sub [0, 1] rfl, hD.sub [0, 1] (by decide) rfl, hS, lv_sub hl [2, 3, 1, 0] rfl⟩
      intro x9 hw H locs ls hI
      obtain ⟨hK, hP, hD, hS, hl⟩ := hI
      unfold jw_met_Ix_dropEquals_35 at hw
      refine W.eq (g2 := F0 m 35 ls []) rfl ?_
      refine lv_aload_n hx hb dc_Ix_dropEquals_35 rfl (lv_at hl 0 rfl) ?_
      refine va_get (D := (dC, dI)) (ci := 4) (v := .ref pool_) (C := "StrataBase$Indexes") (T := tb_Ix) (N := 9) hx hb hT in_Ix hown hK hP 0 rfl rfl 7 (by decide) (hT _ wd_359) (fun _ h9 => h9) rfl dc_Ix_dropEquals_36 ?_
      refine lv_iload_n hx hb dc_Ix_dropEquals_39 rfl (lv_at hl 2 rfl) ?_
      refine lv_aload_n hx hb dc_Ix_dropEquals_40 rfl (lv_at hl 0 rfl) ?_
      refine va_get (D := (dC, dI)) (ci := 4) (v := .ref pool_) (C := "StrataBase$Indexes") (T := tb_Ix) (N := 9) hx hb hT in_Ix hown hK hP 0 rfl rfl 7 (by decide) (hT _ wd_359) (fun _ h9 => h9) rfl dc_Ix_dropEquals_41 ?_
      refine lv_iload_n hx hb dc_Ix_dropEquals_44 rfl (lv_at hl 3 rfl) ?_
      obtain ⟨hv12, hw⟩ := hw
      refine va_lald hx hb hK hP 1 0 rfl rfl hv12 dc_Ix_dropEquals_45 ?_
      refine lv_topl (fun y13 ey13 => ?_)
      have hw := hw y13 ey13
      obtain ⟨hv14, hw⟩ := hw
      refine va_last hx hb hK hP hD hS 1 0 rfl rfl hv14 dc_Ix_dropEquals_46 (fun H locs hP hD hS => ?_)
      have hP : va_P (dC, dI) vwCl [(h0, .inr (4, [.int size_, .ref shapes_, .ref fixed_, .ref firsts_, .ref lasts_, .ref froms_, .ref tos_, .ref pool_, .int used_])), (pool_, .inl (k_pool, n_pool, .inr (.inl (vp_updL v4 v3.toNatClampNeg y13))))] H := hP
      have hD : va_D A [(h0, .inr (4, [.int size_, .ref shapes_, .ref fixed_, .ref firsts_, .ref lasts_, .ref froms_, .ref tos_, .ref pool_, .int used_])), (pool_, .inl (k_pool, n_pool, .inr (.inl (vp_updL v4 v3.toNatClampNeg y13))))] := hD
      obtain ⟨g15, eg15⟩ : ∃ z9 : Nat → Int64, z9 = vp_updL v4 v3.toNatClampNeg y13 := ⟨_, rfl⟩
      rw [← eg15] at hP hD
      have hw := hw g15 eg15
      refine lv_iinc (k := 2) (v := v3 + 1) (lv' := [(2, .int (v3 + 1)), (0, .ref h0), (1, .int a0), (3, .int v2)]) hx hb dc_Ix_dropEquals_47 hl rfl rfl (by decide) rfl (fun ls hl => ?_)
      refine lv_iinc (k := 3) (v := v2 + 1) (lv' := [(3, .int (v2 + 1)), (2, .int (v3 + 1)), (0, .ref h0), (1, .int a0)]) hx hb dc_Ix_dropEquals_50 hl rfl rfl (by decide) rfl (fun ls hl => ?_)
      refine lv_goto (tgt := 4) hx hb dc_Ix_dropEquals_53 (by decide) ?_
      exact ih1 ((v2 + 1), (v3 + 1), g15) hw _ _ _ ⟨hK.sub [0] rfl, hP.sub [0, 1] rfl, hD.sub [0, 1] (by decide) rfl, hS, lv_sub hl [0, 1, 2, 3] rfl⟩
  intro x9 hw H locs ls hI
  obtain ⟨hK, hP, hD, hS, hl⟩ := hI
  unfold jw_met_Ix_dropEquals_56 at hw
  refine W.eq (g2 := F0 m 56 ls []) rfl ?_
  refine lv_aload_n hx hb dc_Ix_dropEquals_56 rfl (lv_at hl 0 rfl) ?_
  refine lv_iload_n hx hb dc_Ix_dropEquals_57 rfl (lv_at hl 1 rfl) ?_
  refine va_put (D := (dC, dI)) (ci := 4) (v := .int v3) (ty := .int) (C := "StrataBase$Indexes") (T := tb_Ix) (N := 9) hx hb hT in_Ix ty_Ix tk_Ix nm_Ix hown hK hP hD hS 0 rfl rfl 8 (by decide) (hT _ wd_360) (fun _ h9 => h9) rfl (by decide +kernel) rfl rfl (Nat.le_of_ble_eq_true rfl) dc_Ix_dropEquals_58 (fun H locs hP hD hS => ?_)
  have hP : va_P (dC, dI) vwCl [(h0, .inr (4, [.int size_, .ref shapes_, .ref fixed_, .ref firsts_, .ref lasts_, .ref froms_, .ref tos_, .ref pool_, .int v3])), (pool_, .inl (k_pool, n_pool, .inr (.inl v4)))] H := hP
  have hD : va_D A [(h0, .inr (4, [.int size_, .ref shapes_, .ref fixed_, .ref firsts_, .ref lasts_, .ref froms_, .ref tos_, .ref pool_, .int v3])), (pool_, .inl (k_pool, n_pool, .inr (.inl v4)))] := hD
  refine W.widen (k := 0) (n := 0) (Nat.le_of_ble_eq_true rfl) (Nat.le_of_ble_eq_true rfl) ?_
  exact W.vret hx hb hr (fun t ht hW => ⟨⟨(v3, v4), rfl, hw, by rw [ht]; exact hP, va_K.moved hW.alike hK, hD⟩, hS.F ht⟩) hS.2.2 dc_Ix_dropEquals_61

def jw_met_Ix_collect_122 (post : (Int32 × (Nat → Int64)) → Prop) (J_lw_met_Ix_collect_15 : (Int32 × Int32 × Int32 × Int32 × (Nat → Int64)) → Prop) (v3 : Int32) (a3 : Int32) (v2 : Int32) (F_a1_next : Nat → Int32) : (Int32 × (Nat → Int64) × Int32) → Prop
  | (v17, v18, v19) => ((v3 = a3 → (J_lw_met_Ix_collect_15 ((v2 + 1), ((-1) : Int32), v19, v17, v18))) ∧ (¬ (v3 = a3) → (wp_met_Fa_after (fun (r20 : Int32) (_ : Unit) => (J_lw_met_Ix_collect_15 ((v2 + 1), r20, v19, v17, v18))) v3 F_a1_next)))
def jw_met_Ix_collect_147 (post : (Int32 × (Nat → Int64)) → Prop) (st_ordered : Nat → Int32) (X0 : Nat) (v5 : Int32) (v6 : Nat → Int64) (v4 : Int32) (n_pool : Nat) (used_ : Int32) (F_gaps_Ix : Nat → Int32) : (Unit) → Prop
  | _ => ∀ y21 : Int32, y21 = st_ordered X0 → (((y21 = 0 → (post (v5, v6))) ∧ (¬ (y21 = 0) → (((v4 = 0 → (wp_met_Ix_sort (fun (o22 : Nat → Int64) => (wp_met_Ix_dropEquals (fun (u9 : Int32 × (Nat → Int64)) => match u9 with | (o24, o25) => (post (o24, o25))) n_pool used_ v5 o22)) n_pool used_ v5 v6 F_gaps_Ix)) ∧ (¬ (v4 = 0) → (post (v5, v6))))))))
def lw_met_Ix_collect_15 (post : (Int32 × (Nat → Int64)) → Prop) (F_a1_keys : Nat → Int64) (n_pool : Nat) (used_ : Int32) (st_fixed : Nat → Int64) (st_roles : Nat → Nat → Int32) (X0 : Nat) (a3 : Int32) (F_a1_next : Nat → Int32) (st_ordered : Nat → Int32) (F_gaps_Ix : Nat → Int32) : Nat → (Int32 × Int32 × Int32 × Int32 × (Nat → Int64)) → Prop
  | 0, _ => False
  | n1_ + 1, (v2, v3, v4, v5, v6) => (((20000 : Int32) ≤ v2 → (jw_met_Ix_collect_147 post st_ordered X0 v5 v6 v4 n_pool used_ F_gaps_Ix ())) ∧ (¬ ((20000 : Int32) ≤ v2) → (((v3 = ((-1) : Int32) → (jw_met_Ix_collect_147 post st_ordered X0 v5 v6 v4 n_pool used_ F_gaps_Ix ())) ∧ (¬ (v3 = ((-1) : Int32)) → (vp_in v3 20000 ∧ (∀ y9 : Int64, y9 = F_a1_keys v3.toNatClampNeg → (wp_met_St_project (fun (r10 : Int64) (_ : Unit) => (((r10 = ((-1) : Int64) → (jw_met_Ix_collect_122 post (fun x9 => lw_met_Ix_collect_15 post F_a1_keys n_pool used_ st_fixed st_roles X0 a3 F_a1_next st_ordered F_gaps_Ix n1_ x9) v3 a3 v2 F_a1_next (v5, v6, v4))) ∧ (¬ (r10 = ((-1) : Int64)) → ((((nI n_pool) ≤ v5 → (jw_met_Ix_collect_122 post (fun x9 => lw_met_Ix_collect_15 post F_a1_keys n_pool used_ st_fixed st_roles X0 a3 F_a1_next st_ordered F_gaps_Ix n1_ x9) v3 a3 v2 F_a1_next (v5, v6, v4))) ∧ (¬ ((nI n_pool) ≤ v5) → ((((v4 = 0 → (True)) ∧ (¬ (v4 = 0) → (((v5 = used_ → (True)) ∧ (¬ (v5 = used_) → (vp_in (v5 - (1 : Int32)) n_pool ∧ (True)))))))) ∧ (∀ y12 : Int32, y12 = (if v4 = 0 then (0 : Int32) else (if v5 = used_ then (1 : Int32) else (if r10 ≤ (v6 (v5 - (1 : Int32)).toNatClampNeg) then (0 : Int32) else (1 : Int32)))) → (vp_in v5 n_pool ∧ (∀ g15 : Nat → Int64, g15 = vp_updL v6 v5.toNatClampNeg r10 → (∀ y16 : Int32, y16 = v5 + (1 : Int32) → (jw_met_Ix_collect_122 post (fun x9 => lw_met_Ix_collect_15 post F_a1_keys n_pool used_ st_fixed st_roles X0 a3 F_a1_next st_ordered F_gaps_Ix n1_ x9) v3 a3 v2 F_a1_next (y16, g15, y12)))))))))))))) y9 st_fixed st_roles X0))))))))
def wp_met_Ix_collect (post : (Int32 × (Nat → Int64)) → Prop) (n_pool : Nat) (a2 : Int32) (a3 : Int32) (used_ : Int32) (F_pool : Nat → Int64) (F_a1_keys : Nat → Int64) (F_a1_next : Nat → Int32) (F_gaps_Ix : Nat → Int32) (st_ordered : Nat → Int32) (st_fixed : Nat → Int64) (st_roles : Nat → Nat → Int32) (X0 : Nat) : Prop := X0 < 12 ∧ (∃ n9 : Nat, lw_met_Ix_collect_15 post F_a1_keys n_pool used_ st_fixed st_roles X0 a3 F_a1_next st_ordered F_gaps_Ix n9 ((0 : Int32), a2, (1 : Int32), used_, F_pool))
set_option maxHeartbeats 4000000 in
set_option maxRecDepth 100000 in
theorem met_Ix_collect (l : Launch) (dC : Nat → ClassId) (dI : Nat → Nat → Nat) (n_pool : Nat) (h0 : Nat) (shapes_ : Nat) (fixed_ : Nat) (firsts_ : Nat) (lasts_ : Nat) (froms_ : Nat) (tos_ : Nat) (pool_ : Nat) (a1 : Nat) (a1_keys_ : Nat) (a1_stages_ : Nat) (a1_amounts_ : Nat) (a1_predicates_ : Nat) (a1_next_ : Nat) (a1_slots_ : Nat) (a1_oldest_ : Nat) (a1_newest_ : Nat) (a1_known_ : Nat) (a1_knownBefore_ : Nat) (a2 : Int32) (a3 : Int32) (size_ : Int32) (used_ : Int32) (F_pool : Nat → Int64) (a1_size_ : Int32) (a1_highest_ : Int32) (a1_full_ : Int32) (a1_visible_ : Int32) (F_a1_keys : Nat → Int64) (F_a1_next : Nat → Int32) (k_pool : ClassId) (k_a1_keys : ClassId) (k_a1_next : ClassId) (gaps_Ix : Nat) (F_gaps_Ix : Nat → Int32) (sa : Nat → Nat) (st_literal : Nat → Int32) (st_scans : Nat → Int32) (st_freshOnly : Nat → Int32) (st_bound : Nat → Int32) (st_live : Nat → Int32) (st_soughtMask : Nat → Int32) (st_givenMask : Nat → Int32) (st_sought : Nat → Int32) (st_width : Nat → Int32) (st_predicate : Nat → Int32) (st_ordered : Nat → Int32) (st_shape : Nat → Int32) (st_fixed : Nat → Int64) (st_from : Nat → Int32) (st_to : Nat → Int32) (st_a_roles : Nat → Nat) (st_a_variables : Nat → Nat) (st_k_roles : Nat → ClassId) (st_roles : Nat → Nat → Int32) (X0 : Nat) (sz : Nat) {post : (Int32 × (Nat → Int64)) → Prop} (hw : wp_met_Ix_collect post n_pool a2 a3 used_ F_pool F_a1_keys F_a1_next F_gaps_Ix st_ordered st_fixed st_roles X0) : Met l my_Ix_collect (Cond.code my_Ix_collect cd_Ix_collect 11 none :: tblG) ({ frames := 2, cells := 0, slots := 0, locals := 49 }) (va_Pc [.ref h0, .ref (sa X0), .ref a1, .int a2, .int a3] (fun U => U.heap.size = sz ∧ va_P (dC, dI) vwCl (([(h0, .inr (4, [.int size_, .ref shapes_, .ref fixed_, .ref firsts_, .ref lasts_, .ref froms_, .ref tos_, .ref pool_, .int used_])), (pool_, .inl (k_pool, n_pool, .inr (.inl F_pool)))] : va_W) ++ ((fm (fun i9 => ((sa i9, .inr (10, [.int (st_literal i9), .int (st_scans i9), .int (st_freshOnly i9), .int (st_bound i9), .int (st_live i9), .int (st_soughtMask i9), .int (st_givenMask i9), .int (st_sought i9), .int (st_width i9), .int (st_predicate i9), .int (st_ordered i9), .int (st_shape i9), .long (st_fixed i9), .int (st_from i9), .int (st_to i9), .ref (st_a_roles i9), .ref (st_a_variables i9)])) : Nat × va_E))) ++ ((fm (fun i9 => ((st_a_roles i9, .inl (st_k_roles i9, 6, .inl (st_roles i9))) : Nat × va_E))) ++ ([(a1, .inr (3, [.int a1_size_, .int a1_highest_, .int a1_full_, .ref a1_keys_, .ref a1_stages_, .ref a1_amounts_, .ref a1_predicates_, .ref a1_next_, .ref a1_slots_, .ref a1_oldest_, .ref a1_newest_, .ref a1_known_, .ref a1_knownBefore_, .int a1_visible_])), (a1_keys_, .inl (k_a1_keys, 20000, .inr (.inl F_a1_keys))), (a1_next_, .inl (k_a1_next, 20000, .inl F_a1_next))] : va_W)))) U.heap ∧ va_K (dC, dI) vwCl (([(k_pool, .long)] : List (ClassId × FieldType)) ++ ((fm (fun i9 => ((st_k_roles i9, .int) : ClassId × FieldType))) ++ ([(k_a1_keys, .long), (k_a1_next, .int)] : List (ClassId × FieldType)))) U ∧ va_D (fun _ => True) (([(h0, .inr (4, [.int size_, .ref shapes_, .ref fixed_, .ref firsts_, .ref lasts_, .ref froms_, .ref tos_, .ref pool_, .int used_])), (pool_, .inl (k_pool, n_pool, .inr (.inl F_pool)))] : va_W) ++ ((fm (fun i9 => ((sa i9, .inr (10, [.int (st_literal i9), .int (st_scans i9), .int (st_freshOnly i9), .int (st_bound i9), .int (st_live i9), .int (st_soughtMask i9), .int (st_givenMask i9), .int (st_sought i9), .int (st_width i9), .int (st_predicate i9), .int (st_ordered i9), .int (st_shape i9), .long (st_fixed i9), .int (st_from i9), .int (st_to i9), .ref (st_a_roles i9), .ref (st_a_variables i9)])) : Nat × va_E))) ++ ((fm (fun i9 => ((st_a_roles i9, .inl (st_k_roles i9, 6, .inl (st_roles i9))) : Nat × va_E))) ++ ([(a1, .inr (3, [.int a1_size_, .int a1_highest_, .int a1_full_, .ref a1_keys_, .ref a1_stages_, .ref a1_amounts_, .ref a1_predicates_, .ref a1_next_, .ref a1_slots_, .ref a1_oldest_, .ref a1_newest_, .ref a1_known_, .ref a1_knownBefore_, .int a1_visible_])), (a1_keys_, .inl (k_a1_keys, 20000, .inr (.inl F_a1_keys))), (a1_next_, .inl (k_a1_next, 20000, .inl F_a1_next))] : va_W)))) ∧ va_Z "StrataBase$Indexes" "GAPS" "[I" (.ref gaps_Ix) (va_A (([(h0, .inr (4, [.int size_, .ref shapes_, .ref fixed_, .ref firsts_, .ref lasts_, .ref froms_, .ref tos_, .ref pool_, .int used_])), (pool_, .inl (k_pool, n_pool, .inr (.inl F_pool)))] : va_W) ++ ((fm (fun i9 => ((sa i9, .inr (10, [.int (st_literal i9), .int (st_scans i9), .int (st_freshOnly i9), .int (st_bound i9), .int (st_live i9), .int (st_soughtMask i9), .int (st_givenMask i9), .int (st_sought i9), .int (st_width i9), .int (st_predicate i9), .int (st_ordered i9), .int (st_shape i9), .long (st_fixed i9), .int (st_from i9), .int (st_to i9), .ref (st_a_roles i9), .ref (st_a_variables i9)])) : Nat × va_E))) ++ ((fm (fun i9 => ((st_a_roles i9, .inl (st_k_roles i9, 6, .inl (st_roles i9))) : Nat × va_E))) ++ ([(a1, .inr (3, [.int a1_size_, .int a1_highest_, .int a1_full_, .ref a1_keys_, .ref a1_stages_, .ref a1_amounts_, .ref a1_predicates_, .ref a1_next_, .ref a1_slots_, .ref a1_oldest_, .ref a1_newest_, .ref a1_known_, .ref a1_knownBefore_, .int a1_visible_])), (a1_keys_, .inl (k_a1_keys, 20000, .inr (.inl F_a1_keys))), (a1_next_, .inl (k_a1_next, 20000, .inl F_a1_next))] : va_W)))) sz) U U.heap ∧ va_T .int gaps_Ix 11 (fun j => .int (F_gaps_Ix j)) (va_A (([(h0, .inr (4, [.int size_, .ref shapes_, .ref fixed_, .ref firsts_, .ref lasts_, .ref froms_, .ref tos_, .ref pool_, .int used_])), (pool_, .inl (k_pool, n_pool, .inr (.inl F_pool)))] : va_W) ++ ((fm (fun i9 => ((sa i9, .inr (10, [.int (st_literal i9), .int (st_scans i9), .int (st_freshOnly i9), .int (st_bound i9), .int (st_live i9), .int (st_soughtMask i9), .int (st_givenMask i9), .int (st_sought i9), .int (st_width i9), .int (st_predicate i9), .int (st_ordered i9), .int (st_shape i9), .long (st_fixed i9), .int (st_from i9), .int (st_to i9), .ref (st_a_roles i9), .ref (st_a_variables i9)])) : Nat × va_E))) ++ ((fm (fun i9 => ((st_a_roles i9, .inl (st_k_roles i9, 6, .inl (st_roles i9))) : Nat × va_E))) ++ ([(a1, .inr (3, [.int a1_size_, .int a1_highest_, .int a1_full_, .ref a1_keys_, .ref a1_stages_, .ref a1_amounts_, .ref a1_predicates_, .ref a1_next_, .ref a1_slots_, .ref a1_oldest_, .ref a1_newest_, .ref a1_known_, .ref a1_knownBefore_, .int a1_visible_])), (a1_keys_, .inl (k_a1_keys, 20000, .inr (.inl F_a1_keys))), (a1_next_, .inl (k_a1_next, 20000, .inl F_a1_next))] : va_W)))) sz) U U.heap)) (va_Qv post (fun (u : Int32 × (Nat → Int64)) (t : State) => match u with | (o0, o1) => va_P (dC, dI) vwCl (([(h0, .inr (4, [.int size_, .ref shapes_, .ref fixed_, .ref firsts_, .ref lasts_, .ref froms_, .ref tos_, .ref pool_, .int o0])), (pool_, .inl (k_pool, n_pool, .inr (.inl o1)))] : va_W) ++ ((fm (fun i9 => ((sa i9, .inr (10, [.int (st_literal i9), .int (st_scans i9), .int (st_freshOnly i9), .int (st_bound i9), .int (st_live i9), .int (st_soughtMask i9), .int (st_givenMask i9), .int (st_sought i9), .int (st_width i9), .int (st_predicate i9), .int (st_ordered i9), .int (st_shape i9), .long (st_fixed i9), .int (st_from i9), .int (st_to i9), .ref (st_a_roles i9), .ref (st_a_variables i9)])) : Nat × va_E))) ++ ((fm (fun i9 => ((st_a_roles i9, .inl (st_k_roles i9, 6, .inl (st_roles i9))) : Nat × va_E))) ++ ([(a1, .inr (3, [.int a1_size_, .int a1_highest_, .int a1_full_, .ref a1_keys_, .ref a1_stages_, .ref a1_amounts_, .ref a1_predicates_, .ref a1_next_, .ref a1_slots_, .ref a1_oldest_, .ref a1_newest_, .ref a1_known_, .ref a1_knownBefore_, .int a1_visible_])), (a1_keys_, .inl (k_a1_keys, 20000, .inr (.inl F_a1_keys))), (a1_next_, .inl (k_a1_next, 20000, .inl F_a1_next))] : va_W)))) t.heap ∧ va_K (dC, dI) vwCl (([(k_pool, .long)] : List (ClassId × FieldType)) ++ ((fm (fun i9 => ((st_k_roles i9, .int) : ClassId × FieldType))) ++ ([(k_a1_keys, .long), (k_a1_next, .int)] : List (ClassId × FieldType)))) t ∧ va_D (va_A (([(h0, .inr (4, [.int size_, .ref shapes_, .ref fixed_, .ref firsts_, .ref lasts_, .ref froms_, .ref tos_, .ref pool_, .int used_])), (pool_, .inl (k_pool, n_pool, .inr (.inl F_pool)))] : va_W) ++ ((fm (fun i9 => ((sa i9, .inr (10, [.int (st_literal i9), .int (st_scans i9), .int (st_freshOnly i9), .int (st_bound i9), .int (st_live i9), .int (st_soughtMask i9), .int (st_givenMask i9), .int (st_sought i9), .int (st_width i9), .int (st_predicate i9), .int (st_ordered i9), .int (st_shape i9), .long (st_fixed i9), .int (st_from i9), .int (st_to i9), .ref (st_a_roles i9), .ref (st_a_variables i9)])) : Nat × va_E))) ++ ((fm (fun i9 => ((st_a_roles i9, .inl (st_k_roles i9, 6, .inl (st_roles i9))) : Nat × va_E))) ++ ([(a1, .inr (3, [.int a1_size_, .int a1_highest_, .int a1_full_, .ref a1_keys_, .ref a1_stages_, .ref a1_amounts_, .ref a1_predicates_, .ref a1_next_, .ref a1_slots_, .ref a1_oldest_, .ref a1_newest_, .ref a1_known_, .ref a1_knownBefore_, .int a1_visible_])), (a1_keys_, .inl (k_a1_keys, 20000, .inr (.inl F_a1_keys))), (a1_next_, .inl (k_a1_next, 20000, .inl F_a1_next))] : va_W)))) sz) (([(h0, .inr (4, [.int size_, .ref shapes_, .ref fixed_, .ref firsts_, .ref lasts_, .ref froms_, .ref tos_, .ref pool_, .int o0])), (pool_, .inl (k_pool, n_pool, .inr (.inl o1)))] : va_W) ++ ((fm (fun i9 => ((sa i9, .inr (10, [.int (st_literal i9), .int (st_scans i9), .int (st_freshOnly i9), .int (st_bound i9), .int (st_live i9), .int (st_soughtMask i9), .int (st_givenMask i9), .int (st_sought i9), .int (st_width i9), .int (st_predicate i9), .int (st_ordered i9), .int (st_shape i9), .long (st_fixed i9), .int (st_from i9), .int (st_to i9), .ref (st_a_roles i9), .ref (st_a_variables i9)])) : Nat × va_E))) ++ ((fm (fun i9 => ((st_a_roles i9, .inl (st_k_roles i9, 6, .inl (st_roles i9))) : Nat × va_E))) ++ ([(a1, .inr (3, [.int a1_size_, .int a1_highest_, .int a1_full_, .ref a1_keys_, .ref a1_stages_, .ref a1_amounts_, .ref a1_predicates_, .ref a1_next_, .ref a1_slots_, .ref a1_oldest_, .ref a1_newest_, .ref a1_known_, .ref a1_knownBefore_, .int a1_visible_])), (a1_keys_, .inl (k_a1_keys, 20000, .inr (.inl F_a1_keys))), (a1_next_, .inl (k_a1_next, 20000, .inl F_a1_next))] : va_W))))) (va_A (([(h0, .inr (4, [.int size_, .ref shapes_, .ref fixed_, .ref firsts_, .ref lasts_, .ref froms_, .ref tos_, .ref pool_, .int used_])), (pool_, .inl (k_pool, n_pool, .inr (.inl F_pool)))] : va_W) ++ ((fm (fun i9 => ((sa i9, .inr (10, [.int (st_literal i9), .int (st_scans i9), .int (st_freshOnly i9), .int (st_bound i9), .int (st_live i9), .int (st_soughtMask i9), .int (st_givenMask i9), .int (st_sought i9), .int (st_width i9), .int (st_predicate i9), .int (st_ordered i9), .int (st_shape i9), .long (st_fixed i9), .int (st_from i9), .int (st_to i9), .ref (st_a_roles i9), .ref (st_a_variables i9)])) : Nat × va_E))) ++ ((fm (fun i9 => ((st_a_roles i9, .inl (st_k_roles i9, 6, .inl (st_roles i9))) : Nat × va_E))) ++ ([(a1, .inr (3, [.int a1_size_, .int a1_highest_, .int a1_full_, .ref a1_keys_, .ref a1_stages_, .ref a1_amounts_, .ref a1_predicates_, .ref a1_next_, .ref a1_slots_, .ref a1_oldest_, .ref a1_newest_, .ref a1_known_, .ref a1_knownBefore_, .int a1_visible_])), (a1_keys_, .inl (k_a1_keys, 20000, .inr (.inl F_a1_keys))), (a1_next_, .inl (k_a1_next, 20000, .inl F_a1_next))] : va_W)))) sz)) 0 0 (va_A (([(h0, .inr (4, [.int size_, .ref shapes_, .ref fixed_, .ref firsts_, .ref lasts_, .ref froms_, .ref tos_, .ref pool_, .int used_])), (pool_, .inl (k_pool, n_pool, .inr (.inl F_pool)))] : va_W) ++ ((fm (fun i9 => ((sa i9, .inr (10, [.int (st_literal i9), .int (st_scans i9), .int (st_freshOnly i9), .int (st_bound i9), .int (st_live i9), .int (st_soughtMask i9), .int (st_givenMask i9), .int (st_sought i9), .int (st_width i9), .int (st_predicate i9), .int (st_ordered i9), .int (st_shape i9), .long (st_fixed i9), .int (st_from i9), .int (st_to i9), .ref (st_a_roles i9), .ref (st_a_variables i9)])) : Nat × va_E))) ++ ((fm (fun i9 => ((st_a_roles i9, .inl (st_k_roles i9, 6, .inl (st_roles i9))) : Nat × va_E))) ++ ([(a1, .inr (3, [.int a1_size_, .int a1_highest_, .int a1_full_, .ref a1_keys_, .ref a1_stages_, .ref a1_amounts_, .ref a1_predicates_, .ref a1_next_, .ref a1_slots_, .ref a1_oldest_, .ref a1_newest_, .ref a1_known_, .ref a1_knownBefore_, .int a1_visible_])), (a1_keys_, .inl (k_a1_keys, 20000, .inr (.inl F_a1_keys))), (a1_next_, .inl (k_a1_next, 20000, .inl F_a1_next))] : va_W)))) sz) := by
  refine Met.ofW (cc := cd_Ix_collect) (maxL := 11) (ret := none) (by decide) rfl ?_
  intro p e s m args below meth c s₁ B hml hv
  obtain ⟨rfl, hsz, hP, hK, hD0, hZ_Ix, hG_Ix⟩ := hv
  have hx := B.exec
  have hb := B.bytes
  have hr := B.returns
  have hT : ∀ w ∈ tblG, w.before _ s = true := fun w h => atoms_spec (ws := (Cond.code my_Ix_collect cd_Ix_collect 11 none :: tblG)) B.pre w (List.mem_cons_of_mem _ h)
  have hown : s.vm.findClass "StrataBase$Indexes" = some m.cls := findClass_of_methodNamed B.named
  have hlocks := B.notSynchronized
  subst hsz
  have hD := hD0.self (sz := s.heap.size)
  generalize hAe : va_A (([(h0, .inr (4, [.int size_, .ref shapes_, .ref fixed_, .ref firsts_, .ref lasts_, .ref froms_, .ref tos_, .ref pool_, .int used_])), (pool_, .inl (k_pool, n_pool, .inr (.inl F_pool)))] : va_W) ++ ((fm (fun i9 => ((sa i9, .inr (10, [.int (st_literal i9), .int (st_scans i9), .int (st_freshOnly i9), .int (st_bound i9), .int (st_live i9), .int (st_soughtMask i9), .int (st_givenMask i9), .int (st_sought i9), .int (st_width i9), .int (st_predicate i9), .int (st_ordered i9), .int (st_shape i9), .long (st_fixed i9), .int (st_from i9), .int (st_to i9), .ref (st_a_roles i9), .ref (st_a_variables i9)])) : Nat × va_E))) ++ ((fm (fun i9 => ((st_a_roles i9, .inl (st_k_roles i9, 6, .inl (st_roles i9))) : Nat × va_E))) ++ ([(a1, .inr (3, [.int a1_size_, .int a1_highest_, .int a1_full_, .ref a1_keys_, .ref a1_stages_, .ref a1_amounts_, .ref a1_predicates_, .ref a1_next_, .ref a1_slots_, .ref a1_oldest_, .ref a1_newest_, .ref a1_known_, .ref a1_knownBefore_, .int a1_visible_])), (a1_keys_, .inl (k_a1_keys, 20000, .inr (.inl F_a1_keys))), (a1_next_, .inl (k_a1_next, 20000, .inl F_a1_next))] : va_W)))) s.heap.size = A at hD hZ_Ix hG_Ix ⊢
  have hA : ∀ q : Nat, s.heap.size ≤ q → A q := fun q h => by rw [← hAe]; exact Or.inr h
  have hS : va_S A s.heap s.heap [] := va_S.rf
  have hl := lv_entry ([.ref h0, .ref (sa X0), .ref a1, .int a2, .int a3]) (n := 11) (Nat.le_of_ble_eq_true rfl)
  rw [lg_entry_eq]
  generalize (lg_sl ([.ref h0, .ref (sa X0), .ref a1, .int a2, .int a3]) ++ List.replicate (11 - (lg_sl ([.ref h0, .ref (sa X0), .ref a1, .int a2, .int a3])).length) Slot.unset).toArray = ls at hl ⊢
  have hl : lv_has ls 11 [(0, .ref h0), (1, .ref (sa X0)), (2, .ref a1), (3, .int a2), (4, .int a3)] := hl
  unfold wp_met_Ix_collect at hw
  obtain ⟨hX_X0, hw⟩ := hw
  refine lv_aload_n hx hb dc_Ix_collect_0 rfl (lv_at hl 0 rfl) ?_
  refine va_get (D := (dC, dI)) (ci := 4) (v := .int used_) (C := "StrataBase$Indexes") (T := tb_Ix) (N := 9) hx hb hT in_Ix hown hK hP 0 rfl rfl 8 (by decide) (hT _ wd_360) (fun _ h9 => h9) rfl dc_Ix_collect_1 ?_
  refine lv_istore (lv' := [(5, .int used_), (0, .ref h0), (1, .ref (sa X0)), (2, .ref a1), (3, .int a2), (4, .int a3)]) hx hb dc_Ix_collect_4 hl (by decide) rfl (fun ls hl => ?_)
  refine lv_iconst (v := 1) hx hb dc_Ix_collect_6 (by decide) ?_
  refine lv_istore (lv' := [(6, .int 1), (5, .int used_), (0, .ref h0), (1, .ref (sa X0)), (2, .ref a1), (3, .int a2), (4, .int a3)]) hx hb dc_Ix_collect_7 hl (by decide) rfl (fun ls hl => ?_)
  refine lv_iload_n hx hb dc_Ix_collect_9 rfl (lv_at hl 5 rfl) ?_
  refine lv_istore (lv' := [(7, .int a2), (6, .int 1), (5, .int used_), (0, .ref h0), (1, .ref (sa X0)), (2, .ref a1), (3, .int a2), (4, .int a3)]) hx hb dc_Ix_collect_10 hl (by decide) rfl (fun ls hl => ?_)
  refine lv_iconst (v := 0) hx hb dc_Ix_collect_12 (by decide) ?_
  refine lv_istore (lv' := [(8, .int 0), (7, .int a2), (6, .int 1), (5, .int used_), (0, .ref h0), (1, .ref (sa X0)), (2, .ref a1), (3, .int a2), (4, .int a3)]) hx hb dc_Ix_collect_13 hl (by decide) rfl (fun ls hl => ?_)
  obtain ⟨n9, hw⟩ := hw
  refine lp_fuel (σ := Int32 × Int32 × Int32 × Int32 × (Nat → Int64)) _ (fun x9 H locs ls => match x9 with | (v2, v3, v4, v5, v6) => va_K (dC, dI) vwCl (([(k_pool, .long)] : List (ClassId × FieldType)) ++ ((fm (fun i9 => ((st_k_roles i9, .int) : ClassId × FieldType))) ++ ([(k_a1_keys, .long), (k_a1_next, .int)] : List (ClassId × FieldType)))) s ∧ va_P (dC, dI) vwCl (([(h0, .inr (4, [.int size_, .ref shapes_, .ref fixed_, .ref firsts_, .ref lasts_, .ref froms_, .ref tos_, .ref pool_, .int v5])), (pool_, .inl (k_pool, n_pool, .inr (.inl v6)))] : va_W) ++ ((fm (fun i9 => ((sa i9, .inr (10, [.int (st_literal i9), .int (st_scans i9), .int (st_freshOnly i9), .int (st_bound i9), .int (st_live i9), .int (st_soughtMask i9), .int (st_givenMask i9), .int (st_sought i9), .int (st_width i9), .int (st_predicate i9), .int (st_ordered i9), .int (st_shape i9), .long (st_fixed i9), .int (st_from i9), .int (st_to i9), .ref (st_a_roles i9), .ref (st_a_variables i9)])) : Nat × va_E))) ++ ((fm (fun i9 => ((st_a_roles i9, .inl (st_k_roles i9, 6, .inl (st_roles i9))) : Nat × va_E))) ++ ([(a1, .inr (3, [.int a1_size_, .int a1_highest_, .int a1_full_, .ref a1_keys_, .ref a1_stages_, .ref a1_amounts_, .ref a1_predicates_, .ref a1_next_, .ref a1_slots_, .ref a1_oldest_, .ref a1_newest_, .ref a1_known_, .ref a1_knownBefore_, .int a1_visible_])), (a1_keys_, .inl (k_a1_keys, 20000, .inr (.inl F_a1_keys))), (a1_next_, .inl (k_a1_next, 20000, .inl F_a1_next))] : va_W)))) H ∧ va_D A (([(h0, .inr (4, [.int size_, .ref shapes_, .ref fixed_, .ref firsts_, .ref lasts_, .ref froms_, .ref tos_, .ref pool_, .int v5])), (pool_, .inl (k_pool, n_pool, .inr (.inl v6)))] : va_W) ++ ((fm (fun i9 => ((sa i9, .inr (10, [.int (st_literal i9), .int (st_scans i9), .int (st_freshOnly i9), .int (st_bound i9), .int (st_live i9), .int (st_soughtMask i9), .int (st_givenMask i9), .int (st_sought i9), .int (st_width i9), .int (st_predicate i9), .int (st_ordered i9), .int (st_shape i9), .long (st_fixed i9), .int (st_from i9), .int (st_to i9), .ref (st_a_roles i9), .ref (st_a_variables i9)])) : Nat × va_E))) ++ ((fm (fun i9 => ((st_a_roles i9, .inl (st_k_roles i9, 6, .inl (st_roles i9))) : Nat × va_E))) ++ ([(a1, .inr (3, [.int a1_size_, .int a1_highest_, .int a1_full_, .ref a1_keys_, .ref a1_stages_, .ref a1_amounts_, .ref a1_predicates_, .ref a1_next_, .ref a1_slots_, .ref a1_oldest_, .ref a1_newest_, .ref a1_known_, .ref a1_knownBefore_, .int a1_visible_])), (a1_keys_, .inl (k_a1_keys, 20000, .inr (.inl F_a1_keys))), (a1_next_, .inl (k_a1_next, 20000, .inl F_a1_next))] : va_W)))) ∧ va_S A s.heap H locs ∧ lv_has ls 11 [(8, .int v2), (7, .int v3), (6, .int v4), (5, .int used_), (0, .ref h0), (1, .ref (sa X0)), (2, .ref a1), (4, .int a3)]) (fun x9 h9 => by simp only [lw_met_Ix_collect_15] at h9) ?_ hw ⟨hK.sub [0, 1, 2, 3, 4, 5, 6, 7, 8, 9, 10, 11, 12, 13, 14] rfl, hP.sub [0, 1, 2, 3, 4, 5, 6, 7, 8, 9, 10, 11, 12, 13, 14, 15, 16, 17, 18, 19, 20, 21, 22, 23, 24, 25, 26, 27, 28] rfl, hD.sub [0, 1, 2, 3, 4, 5, 6, 7, 8, 9, 10, 11, 12, 13, 14, 15, 16, 17, 18, 19, 20, 21, 22, 23, 24, 25, 26, 27, 28] (by decide) rfl, hS, lv_sub hl [0, 1, 2, 3, 4, 5, 6, 8] rfl⟩
  intro n1_ x9 hw ih1 H locs ls hI
  obtain ⟨v2, v3, v4, v5, v6⟩ := x9
  obtain ⟨hK, hP, hD, hS, hl⟩ := hI
  unfold lw_met_Ix_collect_15 at hw
  refine lv_iload hx hb dc_Ix_collect_15 (lv_at hl 0 rfl) ?_
  refine lv_sipush (v := 20000) hx hb dc_Ix_collect_17 (by decide) ?_
  refine jn_st (σ := Unit) (pc2 := 147) (fun x9 => jw_met_Ix_collect_147 post st_ordered X0 v5 v6 v4 n_pool used_ F_gaps_Ix x9) (fun _ => []) (fun _ H locs ls => va_K (dC, dI) vwCl (([(k_pool, .long)] : List (ClassId × FieldType)) ++ ((fm (fun i9 => ((st_k_roles i9, .int) : ClassId × FieldType))) ++ ([(k_a1_keys, .long), (k_a1_next, .int)] : List (ClassId × FieldType)))) s ∧ va_P (dC, dI) vwCl (([(h0, .inr (4, [.int size_, .ref shapes_, .ref fixed_, .ref firsts_, .ref lasts_, .ref froms_, .ref tos_, .ref pool_, .int v5])), (pool_, .inl (k_pool, n_pool, .inr (.inl v6)))] : va_W) ++ ((fm (fun i9 => ((sa i9, .inr (10, [.int (st_literal i9), .int (st_scans i9), .int (st_freshOnly i9), .int (st_bound i9), .int (st_live i9), .int (st_soughtMask i9), .int (st_givenMask i9), .int (st_sought i9), .int (st_width i9), .int (st_predicate i9), .int (st_ordered i9), .int (st_shape i9), .long (st_fixed i9), .int (st_from i9), .int (st_to i9), .ref (st_a_roles i9), .ref (st_a_variables i9)])) : Nat × va_E))) ++ ((fm (fun i9 => ((st_a_roles i9, .inl (st_k_roles i9, 6, .inl (st_roles i9))) : Nat × va_E))) ++ ([(a1, .inr (3, [.int a1_size_, .int a1_highest_, .int a1_full_, .ref a1_keys_, .ref a1_stages_, .ref a1_amounts_, .ref a1_predicates_, .ref a1_next_, .ref a1_slots_, .ref a1_oldest_, .ref a1_newest_, .ref a1_known_, .ref a1_knownBefore_, .int a1_visible_])), (a1_keys_, .inl (k_a1_keys, 20000, .inr (.inl F_a1_keys))), (a1_next_, .inl (k_a1_next, 20000, .inl F_a1_next))] : va_W)))) H ∧ va_D A (([(h0, .inr (4, [.int size_, .ref shapes_, .ref fixed_, .ref firsts_, .ref lasts_, .ref froms_, .ref tos_, .ref pool_, .int v5])), (pool_, .inl (k_pool, n_pool, .inr (.inl v6)))] : va_W) ++ ((fm (fun i9 => ((sa i9, .inr (10, [.int (st_literal i9), .int (st_scans i9), .int (st_freshOnly i9), .int (st_bound i9), .int (st_live i9), .int (st_soughtMask i9), .int (st_givenMask i9), .int (st_sought i9), .int (st_width i9), .int (st_predicate i9), .int (st_ordered i9), .int (st_shape i9), .long (st_fixed i9), .int (st_from i9), .int (st_to i9), .ref (st_a_roles i9), .ref (st_a_variables i9)])) : Nat × va_E))) ++ ((fm (fun i9 => ((st_a_roles i9, .inl (st_k_roles i9, 6, .inl (st_roles i9))) : Nat × va_E))) ++ ([(a1, .inr (3, [.int a1_size_, .int a1_highest_, .int a1_full_, .ref a1_keys_, .ref a1_stages_, .ref a1_amounts_, .ref a1_predicates_, .ref a1_next_, .ref a1_slots_, .ref a1_oldest_, .ref a1_newest_, .ref a1_known_, .ref a1_knownBefore_, .int a1_visible_])), (a1_keys_, .inl (k_a1_keys, 20000, .inr (.inl F_a1_keys))), (a1_next_, .inl (k_a1_next, 20000, .inl F_a1_next))] : va_W)))) ∧ va_S A s.heap H locs ∧ lv_has ls 11 [(0, .ref h0), (1, .ref (sa X0)), (5, .int used_), (6, .int v4)]) ?_ (fun k7 => ?_)
  rotate_left
  · refine lv_icmp_ge (tgt := 147) hx hb dc_Ix_collect_20 (by decide) (fun h20 => ?_) (fun h20 => ?_)
    · have hw := hw.1 h20
      exact k7 () hw _ _ _ ⟨hK.sub [0, 1, 2, 3, 4, 5, 6, 7, 8, 9, 10, 11, 12, 13, 14] rfl, hP.sub [0, 1, 2, 3, 4, 5, 6, 7, 8, 9, 10, 11, 12, 13, 14, 15, 16, 17, 18, 19, 20, 21, 22, 23, 24, 25, 26, 27, 28] rfl, hD.sub [0, 1, 2, 3, 4, 5, 6, 7, 8, 9, 10, 11, 12, 13, 14, 15, 16, 17, 18, 19, 20, 21, 22, 23, 24, 25, 26, 27, 28] (by decide) rfl, hS, lv_sub hl [4, 5, 3, 2] rfl⟩
    · have hw := hw.2 h20
      refine lv_iload hx hb dc_Ix_collect_23 (lv_at hl 1 rfl) ?_
      refine lv_iconst (v := (-1)) hx hb dc_Ix_collect_25 (by decide) ?_
      refine lv_icmp_eq (tgt := 147) hx hb dc_Ix_collect_26 (by decide) (fun h26 => ?_) (fun h26 => ?_)
      · have hw := hw.1 h26
        exact k7 () hw _ _ _ ⟨hK.sub [0, 1, 2, 3, 4, 5, 6, 7, 8, 9, 10, 11, 12, 13, 14] rfl, hP.sub [0, 1, 2, 3, 4, 5, 6, 7, 8, 9, 10, 11, 12, 13, 14, 15, 16, 17, 18, 19, 20, 21, 22, 23, 24, 25, 26, 27, 28] rfl, hD.sub [0, 1, 2, 3, 4, 5, 6, 7, 8, 9, 10, 11, 12, 13, 14, 15, 16, 17, 18, 19, 20, 21, 22, 23, 24, 25, 26, 27, 28] (by decide) rfl, hS, lv_sub hl [4, 5, 3, 2] rfl⟩
      · have hw := hw.2 h26
        refine lv_aload_n hx hb dc_Ix_collect_29 rfl (lv_at hl 5 rfl) ?_
        refine lv_aload_n hx hb dc_Ix_collect_30 rfl (lv_at hl 6 rfl) ?_
        refine va_get (D := (dC, dI)) (ci := 3) (v := .ref a1_keys_) (C := "StrataBase$Facts") (T := tb_Fa) (N := 14) hx hb hT in_Fa hown hK hP 26 rfl rfl 3 (by decide) (hT _ wd_298) (fun _ h9 => h9) rfl dc_Ix_collect_31 ?_
        refine lv_iload hx hb dc_Ix_collect_34 (lv_at hl 1 rfl) ?_
        obtain ⟨hv8, hw⟩ := hw
        refine va_lald hx hb hK hP 27 13 rfl rfl hv8 dc_Ix_collect_36 ?_
        refine lv_topl (fun y9 ey9 => ?_)
        have hw := hw y9 ey9
        have hPc := hP.sub (ws' := ((fm (fun i9 => ((sa i9, .inr (10, [.int (st_literal i9), .int (st_scans i9), .int (st_freshOnly i9), .int (st_bound i9), .int (st_live i9), .int (st_soughtMask i9), .int (st_givenMask i9), .int (st_sought i9), .int (st_width i9), .int (st_predicate i9), .int (st_ordered i9), .int (st_shape i9), .long (st_fixed i9), .int (st_from i9), .int (st_to i9), .ref (st_a_roles i9), .ref (st_a_variables i9)])) : Nat × va_E))) ++ (fm (fun i9 => ((st_a_roles i9, .inl (st_k_roles i9, 6, .inl (st_roles i9))) : Nat × va_E))))) [2, 3, 4, 5, 6, 7, 8, 9, 10, 11, 12, 13, 14, 15, 16, 17, 18, 19, 20, 21, 22, 23, 24, 25] rfl
        have hDc := hD.sub (ws' := ((fm (fun i9 => ((sa i9, .inr (10, [.int (st_literal i9), .int (st_scans i9), .int (st_freshOnly i9), .int (st_bound i9), .int (st_live i9), .int (st_soughtMask i9), .int (st_givenMask i9), .int (st_sought i9), .int (st_width i9), .int (st_predicate i9), .int (st_ordered i9), .int (st_shape i9), .long (st_fixed i9), .int (st_from i9), .int (st_to i9), .ref (st_a_roles i9), .ref (st_a_variables i9)])) : Nat × va_E))) ++ (fm (fun i9 => ((st_a_roles i9, .inl (st_k_roles i9, 6, .inl (st_roles i9))) : Nat × va_E))))) [2, 3, 4, 5, 6, 7, 8, 9, 10, 11, 12, 13, 14, 15, 16, 17, 18, 19, 20, 21, 22, 23, 24, 25] (by decide) rfl
        have hKc := hK.sub (tys' := (fm (fun i9 => ((st_k_roles i9, .int) : ClassId × FieldType)))) [1, 2, 3, 4, 5, 6, 7, 8, 9, 10, 11, 12] rfl
        have hFc := va_free (wc := ((fm (fun i9 => ((sa i9, .inr (10, [.int (st_literal i9), .int (st_scans i9), .int (st_freshOnly i9), .int (st_bound i9), .int (st_live i9), .int (st_soughtMask i9), .int (st_givenMask i9), .int (st_sought i9), .int (st_width i9), .int (st_predicate i9), .int (st_ordered i9), .int (st_shape i9), .long (st_fixed i9), .int (st_from i9), .int (st_to i9), .ref (st_a_roles i9), .ref (st_a_variables i9)])) : Nat × va_E))) ++ (fm (fun i9 => ((st_a_roles i9, .inl (st_k_roles i9, 6, .inl (st_roles i9))) : Nat × va_E))))) hD hS hA [2, 3, 4, 5, 6, 7, 8, 9, 10, 11, 12, 13, 14, 15, 16, 17, 18, 19, 20, 21, 22, 23, 24, 25] rfl
        refine va_calll (va_runV (As := [.long y9]) (rest := []) ⟨hx, hb, hml, hown, hT⟩ (met_St_project l dC dI y9 sa st_literal st_scans st_freshOnly st_bound st_live st_soughtMask st_givenMask st_sought st_width st_predicate st_ordered st_shape st_fixed st_from st_to st_a_roles st_a_variables st_k_roles st_roles X0 H.size hw) (cwV 1 hT (gd_V wd_1153 wd_1154 wd_1155 wd_11 wd_1156) rfl rfl rfl (by decide +kernel) ⟨Nat.le_of_ble_eq_true rfl, Nat.le_of_ble_eq_true rfl⟩) ⟨fun a U g mk q => by obtain ⟨q0, q1, qP, qK, qD⟩ := q; exact ⟨q0, q1, qP, va_K.moved (u := U) (U := U.calling g mk a) (Vm.Alike.refl U.vm) qK, qD⟩, va_recv hK hP (q0 := 2 + X0) (ci := 10) rfl (show ((([(h0, .inr (4, [.int size_, .ref shapes_, .ref fixed_, .ref firsts_, .ref lasts_, .ref froms_, .ref tos_, .ref pool_, .int v5])), (pool_, .inl (k_pool, n_pool, .inr (.inl v6)))] : va_W) ++ ((fm (fun i9 => ((sa i9, .inr (10, [.int (st_literal i9), .int (st_scans i9), .int (st_freshOnly i9), .int (st_bound i9), .int (st_live i9), .int (st_soughtMask i9), .int (st_givenMask i9), .int (st_sought i9), .int (st_width i9), .int (st_predicate i9), .int (st_ordered i9), .int (st_shape i9), .long (st_fixed i9), .int (st_from i9), .int (st_to i9), .ref (st_a_roles i9), .ref (st_a_variables i9)])) : Nat × va_E))) ++ ((fm (fun i9 => ((st_a_roles i9, .inl (st_k_roles i9, 6, .inl (st_roles i9))) : Nat × va_E))) ++ ([(a1, .inr (3, [.int a1_size_, .int a1_highest_, .int a1_full_, .ref a1_keys_, .ref a1_stages_, .ref a1_amounts_, .ref a1_predicates_, .ref a1_next_, .ref a1_slots_, .ref a1_oldest_, .ref a1_newest_, .ref a1_known_, .ref a1_knownBefore_, .int a1_visible_])), (a1_keys_, .inl (k_a1_keys, 20000, .inr (.inl F_a1_keys))), (a1_next_, .inl (k_a1_next, 20000, .inl F_a1_next))] : va_W)))) : va_W)[2 + X0]? = some (sa X0, .inr (10, [.int (st_literal X0), .int (st_scans X0), .int (st_freshOnly X0), .int (st_bound X0), .int (st_live X0), .int (st_soughtMask X0), .int (st_givenMask X0), .int (st_sought X0), .int (st_width X0), .int (st_predicate X0), .int (st_ordered X0), .int (st_shape X0), .long (st_fixed X0), .int (st_from X0), .int (st_to X0), .ref (st_a_roles X0), .ref (st_a_variables X0)])) from fm_get hX_X0 rfl), fun U hU hW => ⟨rfl, by rw [hU], by rw [hU]; exact hPc, va_K.moved hW.alike hKc, hDc.weaken (fun _ _ _ _ => trivial)⟩⟩ rfl rfl hl.1 rfl (lv_room (Nat.le_of_ble_eq_true rfl)) dc_Ix_collect_37 ⟨(Nat.le_of_ble_eq_true rfl), (Nat.le_of_ble_eq_true rfl)⟩) hS (fun q _ h => hFc q h) hFc (fun r10 _ t H1 locs ht hvm hw hB hz1 hk1 hS => ?_)
        obtain ⟨hP1, hK1, hD1⟩ := hB
        rw [ht] at hP1
        have hK1 := va_K.moved hvm.symm hK1
        obtain ⟨hP, hD⟩ := va_join (wr := [(h0, .inr (4, [.int size_, .ref shapes_, .ref fixed_, .ref firsts_, .ref lasts_, .ref froms_, .ref tos_, .ref pool_, .int v5])), (pool_, .inl (k_pool, n_pool, .inr (.inl v6))), (a1, .inr (3, [.int a1_size_, .int a1_highest_, .int a1_full_, .ref a1_keys_, .ref a1_stages_, .ref a1_amounts_, .ref a1_predicates_, .ref a1_next_, .ref a1_slots_, .ref a1_oldest_, .ref a1_newest_, .ref a1_known_, .ref a1_knownBefore_, .int a1_visible_])), (a1_keys_, .inl (k_a1_keys, 20000, .inr (.inl F_a1_keys))), (a1_next_, .inl (k_a1_next, 20000, .inl F_a1_next))]) (w1 := ((fm (fun i9 => ((sa i9, .inr (10, [.int (st_literal i9), .int (st_scans i9), .int (st_freshOnly i9), .int (st_bound i9), .int (st_live i9), .int (st_soughtMask i9), .int (st_givenMask i9), .int (st_sought i9), .int (st_width i9), .int (st_predicate i9), .int (st_ordered i9), .int (st_shape i9), .long (st_fixed i9), .int (st_from i9), .int (st_to i9), .ref (st_a_roles i9), .ref (st_a_variables i9)])) : Nat × va_E))) ++ (fm (fun i9 => ((st_a_roles i9, .inl (st_k_roles i9, 6, .inl (st_roles i9))) : Nat × va_E))))) hP hD [2, 3, 4, 5, 6, 7, 8, 9, 10, 11, 12, 13, 14, 15, 16, 17, 18, 19, 20, 21, 22, 23, 24, 25] [0, 1, 26, 27, 28] rfl rfl (by decide) (by decide) hk1 hFc hP1 hD1
        have hK := (hK.sub (tys' := [(k_pool, .long), (k_a1_keys, .long), (k_a1_next, .int)]) [0, 13, 14] rfl).app hK1
        generalize H1 = H at hP hS ⊢
        have hP : va_P (dC, dI) vwCl (([(h0, .inr (4, [.int size_, .ref shapes_, .ref fixed_, .ref firsts_, .ref lasts_, .ref froms_, .ref tos_, .ref pool_, .int v5])), (pool_, .inl (k_pool, n_pool, .inr (.inl v6))), (a1, .inr (3, [.int a1_size_, .int a1_highest_, .int a1_full_, .ref a1_keys_, .ref a1_stages_, .ref a1_amounts_, .ref a1_predicates_, .ref a1_next_, .ref a1_slots_, .ref a1_oldest_, .ref a1_newest_, .ref a1_known_, .ref a1_knownBefore_, .int a1_visible_])), (a1_keys_, .inl (k_a1_keys, 20000, .inr (.inl F_a1_keys))), (a1_next_, .inl (k_a1_next, 20000, .inl F_a1_next))] : va_W) ++ ((fm (fun i9 => ((sa i9, .inr (10, [.int (st_literal i9), .int (st_scans i9), .int (st_freshOnly i9), .int (st_bound i9), .int (st_live i9), .int (st_soughtMask i9), .int (st_givenMask i9), .int (st_sought i9), .int (st_width i9), .int (st_predicate i9), .int (st_ordered i9), .int (st_shape i9), .long (st_fixed i9), .int (st_from i9), .int (st_to i9), .ref (st_a_roles i9), .ref (st_a_variables i9)])) : Nat × va_E))) ++ (fm (fun i9 => ((st_a_roles i9, .inl (st_k_roles i9, 6, .inl (st_roles i9))) : Nat × va_E))))) H := hP
        have hD : va_D A (([(h0, .inr (4, [.int size_, .ref shapes_, .ref fixed_, .ref firsts_, .ref lasts_, .ref froms_, .ref tos_, .ref pool_, .int v5])), (pool_, .inl (k_pool, n_pool, .inr (.inl v6))), (a1, .inr (3, [.int a1_size_, .int a1_highest_, .int a1_full_, .ref a1_keys_, .ref a1_stages_, .ref a1_amounts_, .ref a1_predicates_, .ref a1_next_, .ref a1_slots_, .ref a1_oldest_, .ref a1_newest_, .ref a1_known_, .ref a1_knownBefore_, .int a1_visible_])), (a1_keys_, .inl (k_a1_keys, 20000, .inr (.inl F_a1_keys))), (a1_next_, .inl (k_a1_next, 20000, .inl F_a1_next))] : va_W) ++ ((fm (fun i9 => ((sa i9, .inr (10, [.int (st_literal i9), .int (st_scans i9), .int (st_freshOnly i9), .int (st_bound i9), .int (st_live i9), .int (st_soughtMask i9), .int (st_givenMask i9), .int (st_sought i9), .int (st_width i9), .int (st_predicate i9), .int (st_ordered i9), .int (st_shape i9), .long (st_fixed i9), .int (st_from i9), .int (st_to i9), .ref (st_a_roles i9), .ref (st_a_variables i9)])) : Nat × va_E))) ++ (fm (fun i9 => ((st_a_roles i9, .inl (st_k_roles i9, 6, .inl (st_roles i9))) : Nat × va_E))))) := hD
        have hK : va_K (dC, dI) vwCl (([(k_pool, .long), (k_a1_keys, .long), (k_a1_next, .int)] : List (ClassId × FieldType)) ++ (fm (fun i9 => ((st_k_roles i9, .int) : ClassId × FieldType)))) s := hK
        refine lv_lstore (lv' := [(9, .long r10), (8, .int v2), (7, .int v3), (6, .int v4), (5, .int used_), (0, .ref h0), (1, .ref (sa X0)), (2, .ref a1), (4, .int a3)]) hx hb dc_Ix_collect_40 hl (by decide) rfl (fun ls hl => ?_)
        refine lv_lload hx hb dc_Ix_collect_42 (lv_at hl 0 rfl) ?_
        refine lv_ldc2 (v := (-1)) hx hb hown (hT _ wd_1161) dc_Ix_collect_44 ?_
        refine W.lcmp hx hb dc_Ix_collect_47 ?_
        refine jn_st (σ := Int32 × (Nat → Int64) × Int32) (pc2 := 122) (fun x9 => jw_met_Ix_collect_122 post (fun x9 => lw_met_Ix_collect_15 post F_a1_keys n_pool used_ st_fixed st_roles X0 a3 F_a1_next st_ordered F_gaps_Ix n1_ x9) v3 a3 v2 F_a1_next x9) (fun x9 => match x9 with | (v17, v18, v19) => []) (fun x9 H locs ls => match x9 with | (v17, v18, v19) => va_K (dC, dI) vwCl (([(k_pool, .long)] : List (ClassId × FieldType)) ++ ((fm (fun i9 => ((st_k_roles i9, .int) : ClassId × FieldType))) ++ ([(k_a1_keys, .long), (k_a1_next, .int)] : List (ClassId × FieldType)))) s ∧ va_P (dC, dI) vwCl (([(h0, .inr (4, [.int size_, .ref shapes_, .ref fixed_, .ref firsts_, .ref lasts_, .ref froms_, .ref tos_, .ref pool_, .int v17])), (pool_, .inl (k_pool, n_pool, .inr (.inl v18)))] : va_W) ++ ((fm (fun i9 => ((sa i9, .inr (10, [.int (st_literal i9), .int (st_scans i9), .int (st_freshOnly i9), .int (st_bound i9), .int (st_live i9), .int (st_soughtMask i9), .int (st_givenMask i9), .int (st_sought i9), .int (st_width i9), .int (st_predicate i9), .int (st_ordered i9), .int (st_shape i9), .long (st_fixed i9), .int (st_from i9), .int (st_to i9), .ref (st_a_roles i9), .ref (st_a_variables i9)])) : Nat × va_E))) ++ ((fm (fun i9 => ((st_a_roles i9, .inl (st_k_roles i9, 6, .inl (st_roles i9))) : Nat × va_E))) ++ ([(a1, .inr (3, [.int a1_size_, .int a1_highest_, .int a1_full_, .ref a1_keys_, .ref a1_stages_, .ref a1_amounts_, .ref a1_predicates_, .ref a1_next_, .ref a1_slots_, .ref a1_oldest_, .ref a1_newest_, .ref a1_known_, .ref a1_knownBefore_, .int a1_visible_])), (a1_keys_, .inl (k_a1_keys, 20000, .inr (.inl F_a1_keys))), (a1_next_, .inl (k_a1_next, 20000, .inl F_a1_next))] : va_W)))) H ∧ va_D A (([(h0, .inr (4, [.int size_, .ref shapes_, .ref fixed_, .ref firsts_, .ref lasts_, .ref froms_, .ref tos_, .ref pool_, .int v17])), (pool_, .inl (k_pool, n_pool, .inr (.inl v18)))] : va_W) ++ ((fm (fun i9 => ((sa i9, .inr (10, [.int (st_literal i9), .int (st_scans i9), .int (st_freshOnly i9), .int (st_bound i9), .int (st_live i9), .int (st_soughtMask i9), .int (st_givenMask i9), .int (st_sought i9), .int (st_width i9), .int (st_predicate i9), .int (st_ordered i9), .int (st_shape i9), .long (st_fixed i9), .int (st_from i9), .int (st_to i9), .ref (st_a_roles i9), .ref (st_a_variables i9)])) : Nat × va_E))) ++ ((fm (fun i9 => ((st_a_roles i9, .inl (st_k_roles i9, 6, .inl (st_roles i9))) : Nat × va_E))) ++ ([(a1, .inr (3, [.int a1_size_, .int a1_highest_, .int a1_full_, .ref a1_keys_, .ref a1_stages_, .ref a1_amounts_, .ref a1_predicates_, .ref a1_next_, .ref a1_slots_, .ref a1_oldest_, .ref a1_newest_, .ref a1_known_, .ref a1_knownBefore_, .int a1_visible_])), (a1_keys_, .inl (k_a1_keys, 20000, .inr (.inl F_a1_keys))), (a1_next_, .inl (k_a1_next, 20000, .inl F_a1_next))] : va_W)))) ∧ va_S A s.heap H locs ∧ lv_has ls 11 [(0, .ref h0), (1, .ref (sa X0)), (2, .ref a1), (4, .int a3), (5, .int used_), (6, .int v19), (7, .int v3), (8, .int v2)]) ?_ (fun k11 => ?_)
        rotate_left
        · refine lv_if_eq (tgt := 122) hx hb dc_Ix_collect_48 (by decide) (fun h48 => ?_) (fun h48 => ?_)
          · have h48 : r10 = ((-1) : Int64) := (lg_cmp_eq _ _).mp h48
            have hw := hw.1 h48
            exact k11 (v5, v6, v4) hw _ _ _ ⟨hK.sub [0, 3, 4, 5, 6, 7, 8, 9, 10, 11, 12, 13, 14, 1, 2] rfl, hP.sub [0, 1, 5, 6, 7, 8, 9, 10, 11, 12, 13, 14, 15, 16, 17, 18, 19, 20, 21, 22, 23, 24, 25, 26, 27, 28, 2, 3, 4] rfl, hD.sub [0, 1, 5, 6, 7, 8, 9, 10, 11, 12, 13, 14, 15, 16, 17, 18, 19, 20, 21, 22, 23, 24, 25, 26, 27, 28, 2, 3, 4] (by decide) rfl, hS, lv_sub hl [5, 6, 7, 8, 4, 3, 2, 1] rfl⟩
          · have h48 : ¬ (r10 = ((-1) : Int64)) := fun z9 => h48 ((lg_cmp_eq _ _).mpr z9)
            have hw := hw.2 h48
            refine lv_aload_n hx hb dc_Ix_collect_51 rfl (lv_at hl 5 rfl) ?_
            refine va_get (D := (dC, dI)) (ci := 4) (v := .int v5) (C := "StrataBase$Indexes") (T := tb_Ix) (N := 9) hx hb hT in_Ix hown hK hP 0 rfl rfl 8 (by decide) (hT _ wd_360) (fun _ h9 => h9) rfl dc_Ix_collect_52 ?_
            refine lv_aload_n hx hb dc_Ix_collect_55 rfl (lv_at hl 5 rfl) ?_
            refine va_get (D := (dC, dI)) (ci := 4) (v := .ref pool_) (C := "StrataBase$Indexes") (T := tb_Ix) (N := 9) hx hb hT in_Ix hown hK hP 0 rfl rfl 7 (by decide) (hT _ wd_359) (fun _ h9 => h9) rfl dc_Ix_collect_56 ?_
            refine va_alen (v := nI n_pool) hx hb hK hP 1 0 rfl rfl rfl dc_Ix_collect_59 ?_
            refine lv_icmp_ge (tgt := 122) hx hb dc_Ix_collect_60 (by decide) (fun h60 => ?_) (fun h60 => ?_)
            · have hw := hw.1 h60
              exact k11 (v5, v6, v4) hw _ _ _ ⟨hK.sub [0, 3, 4, 5, 6, 7, 8, 9, 10, 11, 12, 13, 14, 1, 2] rfl, hP.sub [0, 1, 5, 6, 7, 8, 9, 10, 11, 12, 13, 14, 15, 16, 17, 18, 19, 20, 21, 22, 23, 24, 25, 26, 27, 28, 2, 3, 4] rfl, hD.sub [0, 1, 5, 6, 7, 8, 9, 10, 11, 12, 13, 14, 15, 16, 17, 18, 19, 20, 21, 22, 23, 24, 25, 26, 27, 28, 2, 3, 4] (by decide) rfl, hS, lv_sub hl [5, 6, 7, 8, 4, 3, 2, 1] rfl⟩
            · have hw := hw.2 h60
              refine lv_iload hx hb dc_Ix_collect_63 (lv_at hl 3 rfl) ?_
              obtain ⟨hob, hw⟩ := hw
              refine jn_top (pc2 := 99) (rest := []) (fun y12 => y12 = (if v4 = 0 then (0 : Int32) else (if v5 = used_ then (1 : Int32) else (if r10 ≤ (v6 (v5 - (1 : Int32)).toNatClampNeg) then (0 : Int32) else (1 : Int32))))) (fun y12 ey12 => ?_) (fun k9 => ?_)
              rotate_left
              · refine lv_if_eq (tgt := 98) hx hb dc_Ix_collect_65 (by decide) (fun h65 => ?_) (fun h65 => ?_)
                · have hob := hob.1 h65
                  refine lv_iconst (v := 0) hx hb dc_Ix_collect_98 (by decide) ?_
                  exact k9 (0 : Int32) (by rw [if_pos h65])
                · have hob := hob.2 h65
                  refine lv_aload_n hx hb dc_Ix_collect_68 rfl (lv_at hl 5 rfl) ?_
                  refine va_get (D := (dC, dI)) (ci := 4) (v := .int v5) (C := "StrataBase$Indexes") (T := tb_Ix) (N := 9) hx hb hT in_Ix hown hK hP 0 rfl rfl 8 (by decide) (hT _ wd_360) (fun _ h9 => h9) rfl dc_Ix_collect_69 ?_
                  refine lv_iload hx hb dc_Ix_collect_72 (lv_at hl 4 rfl) ?_
                  refine lv_icmp_eq (tgt := 94) hx hb dc_Ix_collect_74 (by decide) (fun h74 => ?_) (fun h74 => ?_)
                  · have hob := hob.1 h74
                    refine lv_iconst (v := 1) hx hb dc_Ix_collect_94 (by decide) ?_
                    refine lv_goto (tgt := 99) hx hb dc_Ix_collect_95 (by decide) ?_
                    exact k9 (1 : Int32) (by rw [if_neg h65, if_pos h74])
                  · have hob := hob.2 h74
                    refine lv_aload_n hx hb dc_Ix_collect_77 rfl (lv_at hl 5 rfl) ?_
                    refine va_get (D := (dC, dI)) (ci := 4) (v := .ref pool_) (C := "StrataBase$Indexes") (T := tb_Ix) (N := 9) hx hb hT in_Ix hown hK hP 0 rfl rfl 7 (by decide) (hT _ wd_359) (fun _ h9 => h9) rfl dc_Ix_collect_78 ?_
                    refine lv_aload_n hx hb dc_Ix_collect_81 rfl (lv_at hl 5 rfl) ?_
                    refine va_get (D := (dC, dI)) (ci := 4) (v := .int v5) (C := "StrataBase$Indexes") (T := tb_Ix) (N := 9) hx hb hT in_Ix hown hK hP 0 rfl rfl 8 (by decide) (hT _ wd_360) (fun _ h9 => h9) rfl dc_Ix_collect_82 ?_
                    refine lv_iconst (v := 1) hx hb dc_Ix_collect_85 (by decide) ?_
                    refine lv_isub hx hb dc_Ix_collect_86 ?_
                    obtain ⟨hv13, hob⟩ := hob
                    refine va_lald hx hb hK hP 1 0 rfl rfl hv13 dc_Ix_collect_87 ?_
                    refine lv_lload hx hb dc_Ix_collect_88 (lv_at hl 0 rfl) ?_
                    refine W.lcmp hx hb dc_Ix_collect_90 ?_
                    refine lv_if_ge (tgt := 98) hx hb dc_Ix_collect_91 (by decide) (fun h91 => ?_) (fun h91 => ?_)
                    · have h91 : r10 ≤ (v6 (v5 - (1 : Int32)).toNatClampNeg) := (lg_cmp_ge _ _).mp h91
                      refine lv_iconst (v := 0) hx hb dc_Ix_collect_98 (by decide) ?_
                      exact k9 (0 : Int32) (by rw [if_neg h65, if_neg h74, if_pos h91])
                    · have h91 : ¬ (r10 ≤ (v6 (v5 - (1 : Int32)).toNatClampNeg)) := fun z9 => h91 ((lg_cmp_ge _ _).mpr z9)
                      refine lv_iconst (v := 1) hx hb dc_Ix_collect_94 (by decide) ?_
                      refine lv_goto (tgt := 99) hx hb dc_Ix_collect_95 (by decide) ?_
                      exact k9 (1 : Int32) (by rw [if_neg h65, if_neg h74, if_neg h91])
              have hw := hw y12 ey12
              have hzy12 : y12 = 0 ∨ y12 = 1 := by
                rw [ey12]; repeat' split
                all_goals first | exact Or.inl rfl | exact Or.inr rfl
              refine lv_istore (lv' := [(6, .int y12), (9, .long r10), (8, .int v2), (7, .int v3), (5, .int used_), (0, .ref h0), (1, .ref (sa X0)), (2, .ref a1), (4, .int a3)]) hx hb dc_Ix_collect_99 hl (by decide) rfl (fun ls hl => ?_)
              refine lv_aload_n hx hb dc_Ix_collect_101 rfl (lv_at hl 5 rfl) ?_
              refine va_get (D := (dC, dI)) (ci := 4) (v := .ref pool_) (C := "StrataBase$Indexes") (T := tb_Ix) (N := 9) hx hb hT in_Ix hown hK hP 0 rfl rfl 7 (by decide) (hT _ wd_359) (fun _ h9 => h9) rfl dc_Ix_collect_102 ?_
              refine lv_aload_n hx hb dc_Ix_collect_105 rfl (lv_at hl 5 rfl) ?_
              refine va_get (D := (dC, dI)) (ci := 4) (v := .int v5) (C := "StrataBase$Indexes") (T := tb_Ix) (N := 9) hx hb hT in_Ix hown hK hP 0 rfl rfl 8 (by decide) (hT _ wd_360) (fun _ h9 => h9) rfl dc_Ix_collect_106 ?_
              refine lv_lload hx hb dc_Ix_collect_109 (lv_at hl 1 rfl) ?_
              obtain ⟨hv14, hw⟩ := hw
              refine va_last hx hb hK hP hD hS 1 0 rfl rfl hv14 dc_Ix_collect_111 (fun H locs hP hD hS => ?_)
              have hP : va_P (dC, dI) vwCl (([(h0, .inr (4, [.int size_, .ref shapes_, .ref fixed_, .ref firsts_, .ref lasts_, .ref froms_, .ref tos_, .ref pool_, .int v5])), (pool_, .inl (k_pool, n_pool, .inr (.inl (vp_updL v6 v5.toNatClampNeg r10)))), (a1, .inr (3, [.int a1_size_, .int a1_highest_, .int a1_full_, .ref a1_keys_, .ref a1_stages_, .ref a1_amounts_, .ref a1_predicates_, .ref a1_next_, .ref a1_slots_, .ref a1_oldest_, .ref a1_newest_, .ref a1_known_, .ref a1_knownBefore_, .int a1_visible_])), (a1_keys_, .inl (k_a1_keys, 20000, .inr (.inl F_a1_keys))), (a1_next_, .inl (k_a1_next, 20000, .inl F_a1_next))] : va_W) ++ ((fm (fun i9 => ((sa i9, .inr (10, [.int (st_literal i9), .int (st_scans i9), .int (st_freshOnly i9), .int (st_bound i9), .int (st_live i9), .int (st_soughtMask i9), .int (st_givenMask i9), .int (st_sought i9), .int (st_width i9), .int (st_predicate i9), .int (st_ordered i9), .int (st_shape i9), .long (st_fixed i9), .int (st_from i9), .int (st_to i9), .ref (st_a_roles i9), .ref (st_a_variables i9)])) : Nat × va_E))) ++ (fm (fun i9 => ((st_a_roles i9, .inl (st_k_roles i9, 6, .inl (st_roles i9))) : Nat × va_E))))) H := hP
              have hD : va_D A (([(h0, .inr (4, [.int size_, .ref shapes_, .ref fixed_, .ref firsts_, .ref lasts_, .ref froms_, .ref tos_, .ref pool_, .int v5])), (pool_, .inl (k_pool, n_pool, .inr (.inl (vp_updL v6 v5.toNatClampNeg r10)))), (a1, .inr (3, [.int a1_size_, .int a1_highest_, .int a1_full_, .ref a1_keys_, .ref a1_stages_, .ref a1_amounts_, .ref a1_predicates_, .ref a1_next_, .ref a1_slots_, .ref a1_oldest_, .ref a1_newest_, .ref a1_known_, .ref a1_knownBefore_, .int a1_visible_])), (a1_keys_, .inl (k_a1_keys, 20000, .inr (.inl F_a1_keys))), (a1_next_, .inl (k_a1_next, 20000, .inl F_a1_next))] : va_W) ++ ((fm (fun i9 => ((sa i9, .inr (10, [.int (st_literal i9), .int (st_scans i9), .int (st_freshOnly i9), .int (st_bound i9), .int (st_live i9), .int (st_soughtMask i9), .int (st_givenMask i9), .int (st_sought i9), .int (st_width i9), .int (st_predicate i9), .int (st_ordered i9), .int (st_shape i9), .long (st_fixed i9), .int (st_from i9), .int (st_to i9), .ref (st_a_roles i9), .ref (st_a_variables i9)])) : Nat × va_E))) ++ (fm (fun i9 => ((st_a_roles i9, .inl (st_k_roles i9, 6, .inl (st_roles i9))) : Nat × va_E))))) := hD
              obtain ⟨g15, eg15⟩ : ∃ z9 : Nat → Int64, z9 = vp_updL v6 v5.toNatClampNeg r10 := ⟨_, rfl⟩
              rw [← eg15] at hP hD
              have hw := hw g15 eg15
              refine lv_aload_n hx hb dc_Ix_collect_112 rfl (lv_at hl 5 rfl) ?_
              refine lv_dup hx hb dc_Ix_collect_113 rfl ?_
              refine va_get (D := (dC, dI)) (ci := 4) (v := .int v5) (C := "StrataBase$Indexes") (T := tb_Ix) (N := 9) hx hb hT in_Ix hown hK hP 0 rfl rfl 8 (by decide) (hT _ wd_360) (fun _ h9 => h9) rfl dc_Ix_collect_114 ?_
              refine lv_iconst (v := 1) hx hb dc_Ix_collect_117 (by decide) ?_
              refine lv_iadd hx hb dc_Ix_collect_118 ?_
              refine lv_topi (fun y16 ey16 => ?_)
              have hw := hw y16 ey16
              refine va_put (D := (dC, dI)) (ci := 4) (v := .int y16) (ty := .int) (C := "StrataBase$Indexes") (T := tb_Ix) (N := 9) hx hb hT in_Ix ty_Ix tk_Ix nm_Ix hown hK hP hD hS 0 rfl rfl 8 (by decide) (hT _ wd_360) (fun _ h9 => h9) rfl (by decide +kernel) rfl rfl (Nat.le_of_ble_eq_true rfl) dc_Ix_collect_119 (fun H locs hP hD hS => ?_)
              have hP : va_P (dC, dI) vwCl (([(h0, .inr (4, [.int size_, .ref shapes_, .ref fixed_, .ref firsts_, .ref lasts_, .ref froms_, .ref tos_, .ref pool_, .int y16])), (pool_, .inl (k_pool, n_pool, .inr (.inl g15))), (a1, .inr (3, [.int a1_size_, .int a1_highest_, .int a1_full_, .ref a1_keys_, .ref a1_stages_, .ref a1_amounts_, .ref a1_predicates_, .ref a1_next_, .ref a1_slots_, .ref a1_oldest_, .ref a1_newest_, .ref a1_known_, .ref a1_knownBefore_, .int a1_visible_])), (a1_keys_, .inl (k_a1_keys, 20000, .inr (.inl F_a1_keys))), (a1_next_, .inl (k_a1_next, 20000, .inl F_a1_next))] : va_W) ++ ((fm (fun i9 => ((sa i9, .inr (10, [.int (st_literal i9), .int (st_scans i9), .int (st_freshOnly i9), .int (st_bound i9), .int (st_live i9), .int (st_soughtMask i9), .int (st_givenMask i9), .int (st_sought i9), .int (st_width i9), .int (st_predicate i9), .int (st_ordered i9), .int (st_shape i9), .long (st_fixed i9), .int (st_from i9), .int (st_to i9), .ref (st_a_roles i9), .ref (st_a_variables i9)])) : Nat × va_E))) ++ (fm (fun i9 => ((st_a_roles i9, .inl (st_k_roles i9, 6, .inl (st_roles i9))) : Nat × va_E))))) H := hP
              have hD : va_D A (([(h0, .inr (4, [.int size_, .ref shapes_, .ref fixed_, .ref firsts_, .ref lasts_, .ref froms_, .ref tos_, .ref pool_, .int y16])), (pool_, .inl (k_pool, n_pool, .inr (.inl g15))), (a1, .inr (3, [.int a1_size_, .int a1_highest_, .int a1_full_, .ref a1_keys_, .ref a1_stages_, .ref a1_amounts_, .ref a1_predicates_, .ref a1_next_, .ref a1_slots_, .ref a1_oldest_, .ref a1_newest_, .ref a1_known_, .ref a1_knownBefore_, .int a1_visible_])), (a1_keys_, .inl (k_a1_keys, 20000, .inr (.inl F_a1_keys))), (a1_next_, .inl (k_a1_next, 20000, .inl F_a1_next))] : va_W) ++ ((fm (fun i9 => ((sa i9, .inr (10, [.int (st_literal i9), .int (st_scans i9), .int (st_freshOnly i9), .int (st_bound i9), .int (st_live i9), .int (st_soughtMask i9), .int (st_givenMask i9), .int (st_sought i9), .int (st_width i9), .int (st_predicate i9), .int (st_ordered i9), .int (st_shape i9), .long (st_fixed i9), .int (st_from i9), .int (st_to i9), .ref (st_a_roles i9), .ref (st_a_variables i9)])) : Nat × va_E))) ++ (fm (fun i9 => ((st_a_roles i9, .inl (st_k_roles i9, 6, .inl (st_roles i9))) : Nat × va_E))))) := hD
              exact k11 (y16, g15, y12) hw _ _ _ ⟨hK.sub [0, 3, 4, 5, 6, 7, 8, 9, 10, 11, 12, 13, 14, 1, 2] rfl, hP.sub [0, 1, 5, 6, 7, 8, 9, 10, 11, 12, 13, 14, 15, 16, 17, 18, 19, 20, 21, 22, 23, 24, 25, 26, 27, 28, 2, 3, 4] rfl, hD.sub [0, 1, 5, 6, 7, 8, 9, 10, 11, 12, 13, 14, 15, 16, 17, 18, 19, 20, 21, 22, 23, 24, 25, 26, 27, 28, 2, 3, 4] (by decide) rfl, hS, lv_sub hl [5, 6, 7, 8, 4, 0, 3, 2] rfl⟩
        intro x9 hw H locs ls hI
        obtain ⟨v17, v18, v19⟩ := x9
        obtain ⟨hK, hP, hD, hS, hl⟩ := hI
        unfold jw_met_Ix_collect_122 at hw
        refine W.eq (g2 := F0 m 122 ls []) rfl ?_
        refine lv_iload hx hb dc_Ix_collect_122 (lv_at hl 6 rfl) ?_
        refine lv_iload hx hb dc_Ix_collect_124 (lv_at hl 3 rfl) ?_
        refine lv_icmp_ne (tgt := 133) hx hb dc_Ix_collect_126 (by decide) (fun h126 => ?_) (fun h126 => ?_)
        · have hw := hw.2 h126
          refine lv_aload_n hx hb dc_Ix_collect_133 rfl (lv_at hl 2 rfl) ?_
          refine lv_iload hx hb dc_Ix_collect_134 (lv_at hl 6 rfl) ?_
          have hPc := hP.sub (ws' := [(a1, .inr (3, [.int a1_size_, .int a1_highest_, .int a1_full_, .ref a1_keys_, .ref a1_stages_, .ref a1_amounts_, .ref a1_predicates_, .ref a1_next_, .ref a1_slots_, .ref a1_oldest_, .ref a1_newest_, .ref a1_known_, .ref a1_knownBefore_, .int a1_visible_])), (a1_next_, .inl (k_a1_next, 20000, .inl F_a1_next))]) [26, 28] rfl
          have hDc := hD.sub (ws' := [(a1, .inr (3, [.int a1_size_, .int a1_highest_, .int a1_full_, .ref a1_keys_, .ref a1_stages_, .ref a1_amounts_, .ref a1_predicates_, .ref a1_next_, .ref a1_slots_, .ref a1_oldest_, .ref a1_newest_, .ref a1_known_, .ref a1_knownBefore_, .int a1_visible_])), (a1_next_, .inl (k_a1_next, 20000, .inl F_a1_next))]) [26, 28] (by decide) rfl
          have hKc := hK.sub (tys' := [(k_a1_next, .int)]) [14] rfl
          have hFc := va_free (wc := [(a1, .inr (3, [.int a1_size_, .int a1_highest_, .int a1_full_, .ref a1_keys_, .ref a1_stages_, .ref a1_amounts_, .ref a1_predicates_, .ref a1_next_, .ref a1_slots_, .ref a1_oldest_, .ref a1_newest_, .ref a1_known_, .ref a1_knownBefore_, .int a1_visible_])), (a1_next_, .inl (k_a1_next, 20000, .inl F_a1_next))]) hD hS hA [26, 28] rfl
          refine va_calli (va_runV (As := [.int v3]) (rest := []) ⟨hx, hb, hml, hown, hT⟩ (met_Fa_after l dC dI a1 a1_keys_ a1_stages_ a1_amounts_ a1_predicates_ a1_next_ a1_slots_ a1_oldest_ a1_newest_ a1_known_ a1_knownBefore_ v3 a1_size_ a1_highest_ a1_full_ a1_visible_ F_a1_next k_a1_next H.size hw) (cwV 1 hT (gd_V wd_1162 wd_1163 wd_1164 wd_8 wd_1165) rfl rfl rfl (by decide +kernel) ⟨Nat.le_of_ble_eq_true rfl, Nat.le_of_ble_eq_true rfl⟩) ⟨fun a U g mk q => by obtain ⟨q0, q1, qP, qK, qD⟩ := q; exact ⟨q0, q1, qP, va_K.moved (u := U) (U := U.calling g mk a) (Vm.Alike.refl U.vm) qK, qD⟩, va_recv hK hP (q0 := 26) (ci := 3) rfl rfl, fun U hU hW => ⟨rfl, by rw [hU], by rw [hU]; exact hPc, va_K.moved hW.alike hKc, hDc.weaken (fun _ _ _ _ => trivial)⟩⟩ rfl rfl hl.1 rfl (lv_room (Nat.le_of_ble_eq_true rfl)) dc_Ix_collect_136 ⟨(Nat.le_of_ble_eq_true rfl), (Nat.le_of_ble_eq_true rfl)⟩) hS (fun q _ h => hFc q h) hFc (fun r20 _ t H1 locs ht hvm hw hB hz1 hk1 hS => ?_)
          obtain ⟨hP1, hK1, hD1⟩ := hB
          rw [ht] at hP1
          have hK1 := va_K.moved hvm.symm hK1
          obtain ⟨hP, hD⟩ := va_join (wr := (([(h0, .inr (4, [.int size_, .ref shapes_, .ref fixed_, .ref firsts_, .ref lasts_, .ref froms_, .ref tos_, .ref pool_, .int v17])), (pool_, .inl (k_pool, n_pool, .inr (.inl v18)))] : va_W) ++ ((fm (fun i9 => ((sa i9, .inr (10, [.int (st_literal i9), .int (st_scans i9), .int (st_freshOnly i9), .int (st_bound i9), .int (st_live i9), .int (st_soughtMask i9), .int (st_givenMask i9), .int (st_sought i9), .int (st_width i9), .int (st_predicate i9), .int (st_ordered i9), .int (st_shape i9), .long (st_fixed i9), .int (st_from i9), .int (st_to i9), .ref (st_a_roles i9), .ref (st_a_variables i9)])) : Nat × va_E))) ++ ((fm (fun i9 => ((st_a_roles i9, .inl (st_k_roles i9, 6, .inl (st_roles i9))) : Nat × va_E))) ++ ([(a1_keys_, .inl (k_a1_keys, 20000, .inr (.inl F_a1_keys)))] : va_W))))) (w1 := [(a1, .inr (3, [.int a1_size_, .int a1_highest_, .int a1_full_, .ref a1_keys_, .ref a1_stages_, .ref a1_amounts_, .ref a1_predicates_, .ref a1_next_, .ref a1_slots_, .ref a1_oldest_, .ref a1_newest_, .ref a1_known_, .ref a1_knownBefore_, .int a1_visible_])), (a1_next_, .inl (k_a1_next, 20000, .inl F_a1_next))]) hP hD [26, 28] [0, 1, 2, 3, 4, 5, 6, 7, 8, 9, 10, 11, 12, 13, 14, 15, 16, 17, 18, 19, 20, 21, 22, 23, 24, 25, 27] rfl rfl (by decide) (by decide) hk1 hFc hP1 hD1
          have hK := (hK.sub (tys' := (([(k_pool, .long)] : List (ClassId × FieldType)) ++ ((fm (fun i9 => ((st_k_roles i9, .int) : ClassId × FieldType))) ++ ([(k_a1_keys, .long)] : List (ClassId × FieldType))))) [0, 1, 2, 3, 4, 5, 6, 7, 8, 9, 10, 11, 12, 13] rfl).app hK1
          generalize H1 = H at hP hS ⊢
          have hP : va_P (dC, dI) vwCl (([(h0, .inr (4, [.int size_, .ref shapes_, .ref fixed_, .ref firsts_, .ref lasts_, .ref froms_, .ref tos_, .ref pool_, .int v17])), (pool_, .inl (k_pool, n_pool, .inr (.inl v18)))] : va_W) ++ ((fm (fun i9 => ((sa i9, .inr (10, [.int (st_literal i9), .int (st_scans i9), .int (st_freshOnly i9), .int (st_bound i9), .int (st_live i9), .int (st_soughtMask i9), .int (st_givenMask i9), .int (st_sought i9), .int (st_width i9), .int (st_predicate i9), .int (st_ordered i9), .int (st_shape i9), .long (st_fixed i9), .int (st_from i9), .int (st_to i9), .ref (st_a_roles i9), .ref (st_a_variables i9)])) : Nat × va_E))) ++ ((fm (fun i9 => ((st_a_roles i9, .inl (st_k_roles i9, 6, .inl (st_roles i9))) : Nat × va_E))) ++ ([(a1_keys_, .inl (k_a1_keys, 20000, .inr (.inl F_a1_keys))), (a1, .inr (3, [.int a1_size_, .int a1_highest_, .int a1_full_, .ref a1_keys_, .ref a1_stages_, .ref a1_amounts_, .ref a1_predicates_, .ref a1_next_, .ref a1_slots_, .ref a1_oldest_, .ref a1_newest_, .ref a1_known_, .ref a1_knownBefore_, .int a1_visible_])), (a1_next_, .inl (k_a1_next, 20000, .inl F_a1_next))] : va_W)))) H := hP
          have hD : va_D A (([(h0, .inr (4, [.int size_, .ref shapes_, .ref fixed_, .ref firsts_, .ref lasts_, .ref froms_, .ref tos_, .ref pool_, .int v17])), (pool_, .inl (k_pool, n_pool, .inr (.inl v18)))] : va_W) ++ ((fm (fun i9 => ((sa i9, .inr (10, [.int (st_literal i9), .int (st_scans i9), .int (st_freshOnly i9), .int (st_bound i9), .int (st_live i9), .int (st_soughtMask i9), .int (st_givenMask i9), .int (st_sought i9), .int (st_width i9), .int (st_predicate i9), .int (st_ordered i9), .int (st_shape i9), .long (st_fixed i9), .int (st_from i9), .int (st_to i9), .ref (st_a_roles i9), .ref (st_a_variables i9)])) : Nat × va_E))) ++ ((fm (fun i9 => ((st_a_roles i9, .inl (st_k_roles i9, 6, .inl (st_roles i9))) : Nat × va_E))) ++ ([(a1_keys_, .inl (k_a1_keys, 20000, .inr (.inl F_a1_keys))), (a1, .inr (3, [.int a1_size_, .int a1_highest_, .int a1_full_, .ref a1_keys_, .ref a1_stages_, .ref a1_amounts_, .ref a1_predicates_, .ref a1_next_, .ref a1_slots_, .ref a1_oldest_, .ref a1_newest_, .ref a1_known_, .ref a1_knownBefore_, .int a1_visible_])), (a1_next_, .inl (k_a1_next, 20000, .inl F_a1_next))] : va_W)))) := hD
          have hK : va_K (dC, dI) vwCl (([(k_pool, .long)] : List (ClassId × FieldType)) ++ ((fm (fun i9 => ((st_k_roles i9, .int) : ClassId × FieldType))) ++ ([(k_a1_keys, .long), (k_a1_next, .int)] : List (ClassId × FieldType)))) s := hK
          refine lv_istore (lv' := [(7, .int r20), (0, .ref h0), (1, .ref (sa X0)), (2, .ref a1), (4, .int a3), (5, .int used_), (6, .int v19), (8, .int v2)]) hx hb dc_Ix_collect_139 hl (by decide) rfl (fun ls hl => ?_)
          refine lv_iinc (k := 7) (v := v2 + 1) (lv' := [(8, .int (v2 + 1)), (7, .int r20), (0, .ref h0), (1, .ref (sa X0)), (2, .ref a1), (4, .int a3), (5, .int used_), (6, .int v19)]) hx hb dc_Ix_collect_141 hl rfl rfl (by decide) rfl (fun ls hl => ?_)
          refine lv_goto (tgt := 15) hx hb dc_Ix_collect_144 (by decide) ?_
          exact ih1 ((v2 + 1), r20, v19, v17, v18) hw _ _ _ ⟨hK.sub [0, 1, 2, 3, 4, 5, 6, 7, 8, 9, 10, 11, 12, 13, 14] rfl, hP.sub [0, 1, 2, 3, 4, 5, 6, 7, 8, 9, 10, 11, 12, 13, 14, 15, 16, 17, 18, 19, 20, 21, 22, 23, 24, 25, 27, 26, 28] rfl, hD.sub [0, 1, 2, 3, 4, 5, 6, 7, 8, 9, 10, 11, 12, 13, 14, 15, 16, 17, 18, 19, 20, 21, 22, 23, 24, 25, 27, 26, 28] (by decide) rfl, hS, lv_sub hl [0, 1, 7, 6, 2, 3, 4, 5] rfl⟩
        · have hw := hw.1 h126
          refine lv_iconst (v := (-1)) hx hb dc_Ix_collect_129 (by decide) ?_
          refine lv_goto (tgt := 139) hx hb dc_Ix_collect_130 (by decide) ?_
          refine lv_istore (lv' := [(7, .int (-1)), (0, .ref h0), (1, .ref (sa X0)), (2, .ref a1), (4, .int a3), (5, .int used_), (6, .int v19), (8, .int v2)]) hx hb dc_Ix_collect_139 hl (by decide) rfl (fun ls hl => ?_)
          refine lv_iinc (k := 7) (v := v2 + 1) (lv' := [(8, .int (v2 + 1)), (7, .int (-1)), (0, .ref h0), (1, .ref (sa X0)), (2, .ref a1), (4, .int a3), (5, .int used_), (6, .int v19)]) hx hb dc_Ix_collect_141 hl rfl rfl (by decide) rfl (fun ls hl => ?_)
          refine lv_goto (tgt := 15) hx hb dc_Ix_collect_144 (by decide) ?_
          exact ih1 ((v2 + 1), ((-1) : Int32), v19, v17, v18) hw _ _ _ ⟨hK.sub [0, 1, 2, 3, 4, 5, 6, 7, 8, 9, 10, 11, 12, 13, 14] rfl, hP.sub [0, 1, 2, 3, 4, 5, 6, 7, 8, 9, 10, 11, 12, 13, 14, 15, 16, 17, 18, 19, 20, 21, 22, 23, 24, 25, 26, 27, 28] rfl, hD.sub [0, 1, 2, 3, 4, 5, 6, 7, 8, 9, 10, 11, 12, 13, 14, 15, 16, 17, 18, 19, 20, 21, 22, 23, 24, 25, 26, 27, 28] (by decide) rfl, hS, lv_sub hl [0, 1, 7, 6, 2, 3, 4, 5] rfl⟩
  intro x9 hw H locs ls hI
  obtain ⟨hK, hP, hD, hS, hl⟩ := hI
  unfold jw_met_Ix_collect_147 at hw
  refine W.eq (g2 := F0 m 147 ls []) rfl ?_
  refine lv_aload_n hx hb dc_Ix_collect_147 rfl (lv_at hl 1 rfl) ?_
  refine va_get (D := (dC, dI)) (ci := 10) (v := .int (st_ordered X0)) (C := "StrataBase$Step") (T := tb_St) (N := 17) hx hb hT in_St hown hK hP (2 + X0) (show ((([(h0, .inr (4, [.int size_, .ref shapes_, .ref fixed_, .ref firsts_, .ref lasts_, .ref froms_, .ref tos_, .ref pool_, .int v5])), (pool_, .inl (k_pool, n_pool, .inr (.inl v6)))] : va_W) ++ ((fm (fun i9 => ((sa i9, .inr (10, [.int (st_literal i9), .int (st_scans i9), .int (st_freshOnly i9), .int (st_bound i9), .int (st_live i9), .int (st_soughtMask i9), .int (st_givenMask i9), .int (st_sought i9), .int (st_width i9), .int (st_predicate i9), .int (st_ordered i9), .int (st_shape i9), .long (st_fixed i9), .int (st_from i9), .int (st_to i9), .ref (st_a_roles i9), .ref (st_a_variables i9)])) : Nat × va_E))) ++ ((fm (fun i9 => ((st_a_roles i9, .inl (st_k_roles i9, 6, .inl (st_roles i9))) : Nat × va_E))) ++ ([(a1, .inr (3, [.int a1_size_, .int a1_highest_, .int a1_full_, .ref a1_keys_, .ref a1_stages_, .ref a1_amounts_, .ref a1_predicates_, .ref a1_next_, .ref a1_slots_, .ref a1_oldest_, .ref a1_newest_, .ref a1_known_, .ref a1_knownBefore_, .int a1_visible_])), (a1_keys_, .inl (k_a1_keys, 20000, .inr (.inl F_a1_keys))), (a1_next_, .inl (k_a1_next, 20000, .inl F_a1_next))] : va_W)))) : va_W)[2 + X0]? = some (sa X0, .inr (10, [.int (st_literal X0), .int (st_scans X0), .int (st_freshOnly X0), .int (st_bound X0), .int (st_live X0), .int (st_soughtMask X0), .int (st_givenMask X0), .int (st_sought X0), .int (st_width X0), .int (st_predicate X0), .int (st_ordered X0), .int (st_shape X0), .long (st_fixed X0), .int (st_from X0), .int (st_to X0), .ref (st_a_roles X0), .ref (st_a_variables X0)])) from fm_get hX_X0 rfl) rfl 10 (by decide) (hT _ wd_407) (fun _ h9 => h9) rfl dc_Ix_collect_148 ?_
  refine lv_topi (fun y21 ey21 => ?_)
  have hw := hw y21 ey21
  refine lv_if_eq (tgt := 171) hx hb dc_Ix_collect_151 (by decide) (fun h151 => ?_) (fun h151 => ?_)
  · have hw := hw.1 h151
    refine W.widen (k := 0) (n := 0) (Nat.le_of_ble_eq_true rfl) (Nat.le_of_ble_eq_true rfl) ?_
    exact W.vret hx hb hr (fun t ht hW => ⟨⟨(v5, v6), rfl, hw, by rw [ht]; exact hP, va_K.moved hW.alike hK, hD⟩, hS.F ht⟩) hS.2.2 dc_Ix_collect_171
  · have hw := hw.2 h151
    refine lv_iload hx hb dc_Ix_collect_154 (lv_at hl 3 rfl) ?_
    refine lv_if_ne (tgt := 171) hx hb dc_Ix_collect_156 (by decide) (fun h156 => ?_) (fun h156 => ?_)
    · have hw := hw.2 h156
      refine W.widen (k := 0) (n := 0) (Nat.le_of_ble_eq_true rfl) (Nat.le_of_ble_eq_true rfl) ?_
      exact W.vret hx hb hr (fun t ht hW => ⟨⟨(v5, v6), rfl, hw, by rw [ht]; exact hP, va_K.moved hW.alike hK, hD⟩, hS.F ht⟩) hS.2.2 dc_Ix_collect_171
    · have hw := hw.1 h156
      refine lv_aload_n hx hb dc_Ix_collect_159 rfl (lv_at hl 0 rfl) ?_
      refine lv_iload hx hb dc_Ix_collect_160 (lv_at hl 2 rfl) ?_
      have hPc := hP.sub (ws' := [(h0, .inr (4, [.int size_, .ref shapes_, .ref fixed_, .ref firsts_, .ref lasts_, .ref froms_, .ref tos_, .ref pool_, .int v5])), (pool_, .inl (k_pool, n_pool, .inr (.inl v6)))]) [0, 1] rfl
      have hDc := hD.sub (ws' := [(h0, .inr (4, [.int size_, .ref shapes_, .ref fixed_, .ref firsts_, .ref lasts_, .ref froms_, .ref tos_, .ref pool_, .int v5])), (pool_, .inl (k_pool, n_pool, .inr (.inl v6)))]) [0, 1] (by decide) rfl
      have hKc := hK.sub (tys' := [(k_pool, .long)]) [0] rfl
      have hFc := va_free (wc := [(h0, .inr (4, [.int size_, .ref shapes_, .ref fixed_, .ref firsts_, .ref lasts_, .ref froms_, .ref tos_, .ref pool_, .int v5])), (pool_, .inl (k_pool, n_pool, .inr (.inl v6)))]) hD hS hA [0, 1] rfl
      refine va_callv (va_runV (As := [.int used_]) (rest := []) ⟨hx, hb, hml, hown, hT⟩ (met_Ix_sort l dC dI n_pool h0 shapes_ fixed_ firsts_ lasts_ froms_ tos_ pool_ used_ size_ v5 v6 k_pool gaps_Ix F_gaps_Ix H.size hw) (cwV 1 hT (gd_V wd_1166 wd_1168 sl_Ix_sort wd_10 wd_1169) rfl rfl rfl (by decide +kernel) ⟨Nat.le_of_ble_eq_true rfl, Nat.le_of_ble_eq_true rfl⟩) ⟨fun a U g mk q => by obtain ⟨q0, q1, qP, qK, qD, qZ0, qG0⟩ := q; exact ⟨q0, q1, qP, va_K.moved (u := U) (U := U.calling g mk a) (Vm.Alike.refl U.vm) qK, qD, va_Z.moved (u := U) (U := U.calling g mk a) (Vm.Alike.refl U.vm) qZ0, va_T.moved (u := U) (U := U.calling g mk a) (Vm.Alike.refl U.vm) qG0⟩, va_recv hK hP (q0 := 0) (ci := 4) rfl rfl, fun U hU hW => ⟨rfl, by rw [hU], by rw [hU]; exact hPc, va_K.moved hW.alike hKc, hDc.weaken (fun _ _ _ _ => trivial), by rw [hU]; exact va_Z.moved hW.alike ((hZ_Ix.kept (fun a h1 h2 => hS.2.1 a h1 h2)).narrow hFc), by rw [hU]; exact va_T.moved hW.alike ((hG_Ix.kept (fun a h1 h2 => hS.2.1 a h1 h2)).narrow hFc)⟩⟩ rfl rfl hl.1 rfl (lv_room (Nat.le_of_ble_eq_true rfl)) dc_Ix_collect_162 ⟨(Nat.le_of_ble_eq_true rfl), (Nat.le_of_ble_eq_true rfl)⟩) hS (fun q _ h => hFc q h) hFc (fun o22 t H1 locs ht hvm hw hB hz1 hk1 hS => ?_)
      obtain ⟨hP1, hK1, hD1⟩ := hB
      rw [ht] at hP1
      have hK1 := va_K.moved hvm.symm hK1
      obtain ⟨hP, hD⟩ := va_join (wr := ((fm (fun i9 => ((sa i9, .inr (10, [.int (st_literal i9), .int (st_scans i9), .int (st_freshOnly i9), .int (st_bound i9), .int (st_live i9), .int (st_soughtMask i9), .int (st_givenMask i9), .int (st_sought i9), .int (st_width i9), .int (st_predicate i9), .int (st_ordered i9), .int (st_shape i9), .long (st_fixed i9), .int (st_from i9), .int (st_to i9), .ref (st_a_roles i9), .ref (st_a_variables i9)])) : Nat × va_E))) ++ ((fm (fun i9 => ((st_a_roles i9, .inl (st_k_roles i9, 6, .inl (st_roles i9))) : Nat × va_E))) ++ ([(a1, .inr (3, [.int a1_size_, .int a1_highest_, .int a1_full_, .ref a1_keys_, .ref a1_stages_, .ref a1_amounts_, .ref a1_predicates_, .ref a1_next_, .ref a1_slots_, .ref a1_oldest_, .ref a1_newest_, .ref a1_known_, .ref a1_knownBefore_, .int a1_visible_])), (a1_keys_, .inl (k_a1_keys, 20000, .inr (.inl F_a1_keys))), (a1_next_, .inl (k_a1_next, 20000, .inl F_a1_next))] : va_W)))) (w1 := [(h0, .inr (4, [.int size_, .ref shapes_, .ref fixed_, .ref firsts_, .ref lasts_, .ref froms_, .ref tos_, .ref pool_, .int v5])), (pool_, .inl (k_pool, n_pool, .inr (.inl o22)))]) hP hD [0, 1] [2, 3, 4, 5, 6, 7, 8, 9, 10, 11, 12, 13, 14, 15, 16, 17, 18, 19, 20, 21, 22, 23, 24, 25, 26, 27, 28] rfl rfl (by decide) (by decide) hk1 hFc hP1 hD1
      have hK := (hK.sub (tys' := ((fm (fun i9 => ((st_k_roles i9, .int) : ClassId × FieldType))) ++ ([(k_a1_keys, .long), (k_a1_next, .int)] : List (ClassId × FieldType)))) [1, 2, 3, 4, 5, 6, 7, 8, 9, 10, 11, 12, 13, 14] rfl).app hK1
      generalize H1 = H at hP hS ⊢
      have hP : va_P (dC, dI) vwCl ((fm (fun i9 => ((sa i9, .inr (10, [.int (st_literal i9), .int (st_scans i9), .int (st_freshOnly i9), .int (st_bound i9), .int (st_live i9), .int (st_soughtMask i9), .int (st_givenMask i9), .int (st_sought i9), .int (st_width i9), .int (st_predicate i9), .int (st_ordered i9), .int (st_shape i9), .long (st_fixed i9), .int (st_from i9), .int (st_to i9), .ref (st_a_roles i9), .ref (st_a_variables i9)])) : Nat × va_E))) ++ ((fm (fun i9 => ((st_a_roles i9, .inl (st_k_roles i9, 6, .inl (st_roles i9))) : Nat × va_E))) ++ ([(a1, .inr (3, [.int a1_size_, .int a1_highest_, .int a1_full_, .ref a1_keys_, .ref a1_stages_, .ref a1_amounts_, .ref a1_predicates_, .ref a1_next_, .ref a1_slots_, .ref a1_oldest_, .ref a1_newest_, .ref a1_known_, .ref a1_knownBefore_, .int a1_visible_])), (a1_keys_, .inl (k_a1_keys, 20000, .inr (.inl F_a1_keys))), (a1_next_, .inl (k_a1_next, 20000, .inl F_a1_next)), (h0, .inr (4, [.int size_, .ref shapes_, .ref fixed_, .ref firsts_, .ref lasts_, .ref froms_, .ref tos_, .ref pool_, .int v5])), (pool_, .inl (k_pool, n_pool, .inr (.inl o22)))] : va_W))) H := hP
      have hD : va_D A ((fm (fun i9 => ((sa i9, .inr (10, [.int (st_literal i9), .int (st_scans i9), .int (st_freshOnly i9), .int (st_bound i9), .int (st_live i9), .int (st_soughtMask i9), .int (st_givenMask i9), .int (st_sought i9), .int (st_width i9), .int (st_predicate i9), .int (st_ordered i9), .int (st_shape i9), .long (st_fixed i9), .int (st_from i9), .int (st_to i9), .ref (st_a_roles i9), .ref (st_a_variables i9)])) : Nat × va_E))) ++ ((fm (fun i9 => ((st_a_roles i9, .inl (st_k_roles i9, 6, .inl (st_roles i9))) : Nat × va_E))) ++ ([(a1, .inr (3, [.int a1_size_, .int a1_highest_, .int a1_full_, .ref a1_keys_, .ref a1_stages_, .ref a1_amounts_, .ref a1_predicates_, .ref a1_next_, .ref a1_slots_, .ref a1_oldest_, .ref a1_newest_, .ref a1_known_, .ref a1_knownBefore_, .int a1_visible_])), (a1_keys_, .inl (k_a1_keys, 20000, .inr (.inl F_a1_keys))), (a1_next_, .inl (k_a1_next, 20000, .inl F_a1_next)), (h0, .inr (4, [.int size_, .ref shapes_, .ref fixed_, .ref firsts_, .ref lasts_, .ref froms_, .ref tos_, .ref pool_, .int v5])), (pool_, .inl (k_pool, n_pool, .inr (.inl o22)))] : va_W))) := hD
      have hK : va_K (dC, dI) vwCl ((fm (fun i9 => ((st_k_roles i9, .int) : ClassId × FieldType))) ++ ([(k_a1_keys, .long), (k_a1_next, .int), (k_pool, .long)] : List (ClassId × FieldType))) s := hK
      refine lv_aload_n hx hb dc_Ix_collect_165 rfl (lv_at hl 0 rfl) ?_
      refine lv_iload hx hb dc_Ix_collect_166 (lv_at hl 2 rfl) ?_
      have hPc := hP.sub (ws' := [(h0, .inr (4, [.int size_, .ref shapes_, .ref fixed_, .ref firsts_, .ref lasts_, .ref froms_, .ref tos_, .ref pool_, .int v5])), (pool_, .inl (k_pool, n_pool, .inr (.inl o22)))]) [27, 28] rfl
      have hDc := hD.sub (ws' := [(h0, .inr (4, [.int size_, .ref shapes_, .ref fixed_, .ref firsts_, .ref lasts_, .ref froms_, .ref tos_, .ref pool_, .int v5])), (pool_, .inl (k_pool, n_pool, .inr (.inl o22)))]) [27, 28] (by decide) rfl
      have hKc := hK.sub (tys' := [(k_pool, .long)]) [14] rfl
      have hFc := va_free (wc := [(h0, .inr (4, [.int size_, .ref shapes_, .ref fixed_, .ref firsts_, .ref lasts_, .ref froms_, .ref tos_, .ref pool_, .int v5])), (pool_, .inl (k_pool, n_pool, .inr (.inl o22)))]) hD hS hA [27, 28] rfl
      refine va_callv (va_runV (As := [.int used_]) (rest := []) ⟨hx, hb, hml, hown, hT⟩ (met_Ix_dropEquals l dC dI n_pool h0 shapes_ fixed_ firsts_ lasts_ froms_ tos_ pool_ used_ size_ v5 o22 k_pool H.size hw) (cwV 1 hT (gd_V wd_1172 wd_1174 sl_Ix_dropEquals wd_10 wd_1175) rfl rfl rfl (by decide +kernel) ⟨Nat.le_of_ble_eq_true rfl, Nat.le_of_ble_eq_true rfl⟩) ⟨fun a U g mk q => by obtain ⟨q0, q1, qP, qK, qD⟩ := q; exact ⟨q0, q1, qP, va_K.moved (u := U) (U := U.calling g mk a) (Vm.Alike.refl U.vm) qK, qD⟩, va_recv hK hP (q0 := 27) (ci := 4) rfl rfl, fun U hU hW => ⟨rfl, by rw [hU], by rw [hU]; exact hPc, va_K.moved hW.alike hKc, hDc.weaken (fun _ _ _ _ => trivial)⟩⟩ rfl rfl hl.1 rfl (lv_room (Nat.le_of_ble_eq_true rfl)) dc_Ix_collect_168 ⟨(Nat.le_of_ble_eq_true rfl), (Nat.le_of_ble_eq_true rfl)⟩) hS (fun q _ h => hFc q h) hFc (fun u9 t H1 locs ht hvm hw hB hz1 hk1 hS => ?_)
      obtain ⟨o24, o25⟩ := u9
      obtain ⟨hP1, hK1, hD1⟩ := hB
      rw [ht] at hP1
      have hK1 := va_K.moved hvm.symm hK1
      obtain ⟨hP, hD⟩ := va_join (wr := ((fm (fun i9 => ((sa i9, .inr (10, [.int (st_literal i9), .int (st_scans i9), .int (st_freshOnly i9), .int (st_bound i9), .int (st_live i9), .int (st_soughtMask i9), .int (st_givenMask i9), .int (st_sought i9), .int (st_width i9), .int (st_predicate i9), .int (st_ordered i9), .int (st_shape i9), .long (st_fixed i9), .int (st_from i9), .int (st_to i9), .ref (st_a_roles i9), .ref (st_a_variables i9)])) : Nat × va_E))) ++ ((fm (fun i9 => ((st_a_roles i9, .inl (st_k_roles i9, 6, .inl (st_roles i9))) : Nat × va_E))) ++ ([(a1, .inr (3, [.int a1_size_, .int a1_highest_, .int a1_full_, .ref a1_keys_, .ref a1_stages_, .ref a1_amounts_, .ref a1_predicates_, .ref a1_next_, .ref a1_slots_, .ref a1_oldest_, .ref a1_newest_, .ref a1_known_, .ref a1_knownBefore_, .int a1_visible_])), (a1_keys_, .inl (k_a1_keys, 20000, .inr (.inl F_a1_keys))), (a1_next_, .inl (k_a1_next, 20000, .inl F_a1_next))] : va_W)))) (w1 := [(h0, .inr (4, [.int size_, .ref shapes_, .ref fixed_, .ref firsts_, .ref lasts_, .ref froms_, .ref tos_, .ref pool_, .int o24])), (pool_, .inl (k_pool, n_pool, .inr (.inl o25)))]) hP hD [27, 28] [0, 1, 2, 3, 4, 5, 6, 7, 8, 9, 10, 11, 12, 13, 14, 15, 16, 17, 18, 19, 20, 21, 22, 23, 24, 25, 26] rfl rfl (by decide) (by decide) hk1 hFc hP1 hD1
      have hK := (hK.sub (tys' := ((fm (fun i9 => ((st_k_roles i9, .int) : ClassId × FieldType))) ++ ([(k_a1_keys, .long), (k_a1_next, .int)] : List (ClassId × FieldType)))) [0, 1, 2, 3, 4, 5, 6, 7, 8, 9, 10, 11, 12, 13] rfl).app hK1
      generalize H1 = H at hP hS ⊢
      have hP : va_P (dC, dI) vwCl ((fm (fun i9 => ((sa i9, .inr (10, [.int (st_literal i9), .int (st_scans i9), .int (st_freshOnly i9), .int (st_bound i9), .int (st_live i9), .int (st_soughtMask i9), .int (st_givenMask i9), .int (st_sought i9), .int (st_width i9), .int (st_predicate i9), .int (st_ordered i9), .int (st_shape i9), .long (st_fixed i9), .int (st_from i9), .int (st_to i9), .ref (st_a_roles i9), .ref (st_a_variables i9)])) : Nat × va_E))) ++ ((fm (fun i9 => ((st_a_roles i9, .inl (st_k_roles i9, 6, .inl (st_roles i9))) : Nat × va_E))) ++ ([(a1, .inr (3, [.int a1_size_, .int a1_highest_, .int a1_full_, .ref a1_keys_, .ref a1_stages_, .ref a1_amounts_, .ref a1_predicates_, .ref a1_next_, .ref a1_slots_, .ref a1_oldest_, .ref a1_newest_, .ref a1_known_, .ref a1_knownBefore_, .int a1_visible_])), (a1_keys_, .inl (k_a1_keys, 20000, .inr (.inl F_a1_keys))), (a1_next_, .inl (k_a1_next, 20000, .inl F_a1_next)), (h0, .inr (4, [.int size_, .ref shapes_, .ref fixed_, .ref firsts_, .ref lasts_, .ref froms_, .ref tos_, .ref pool_, .int o24])), (pool_, .inl (k_pool, n_pool, .inr (.inl o25)))] : va_W))) H := hP
      have hD : va_D A ((fm (fun i9 => ((sa i9, .inr (10, [.int (st_literal i9), .int (st_scans i9), .int (st_freshOnly i9), .int (st_bound i9), .int (st_live i9), .int (st_soughtMask i9), .int (st_givenMask i9), .int (st_sought i9), .int (st_width i9), .int (st_predicate i9), .int (st_ordered i9), .int (st_shape i9), .long (st_fixed i9), .int (st_from i9), .int (st_to i9), .ref (st_a_roles i9), .ref (st_a_variables i9)])) : Nat × va_E))) ++ ((fm (fun i9 => ((st_a_roles i9, .inl (st_k_roles i9, 6, .inl (st_roles i9))) : Nat × va_E))) ++ ([(a1, .inr (3, [.int a1_size_, .int a1_highest_, .int a1_full_, .ref a1_keys_, .ref a1_stages_, .ref a1_amounts_, .ref a1_predicates_, .ref a1_next_, .ref a1_slots_, .ref a1_oldest_, .ref a1_newest_, .ref a1_known_, .ref a1_knownBefore_, .int a1_visible_])), (a1_keys_, .inl (k_a1_keys, 20000, .inr (.inl F_a1_keys))), (a1_next_, .inl (k_a1_next, 20000, .inl F_a1_next)), (h0, .inr (4, [.int size_, .ref shapes_, .ref fixed_, .ref firsts_, .ref lasts_, .ref froms_, .ref tos_, .ref pool_, .int o24])), (pool_, .inl (k_pool, n_pool, .inr (.inl o25)))] : va_W))) := hD
      have hK : va_K (dC, dI) vwCl ((fm (fun i9 => ((st_k_roles i9, .int) : ClassId × FieldType))) ++ ([(k_a1_keys, .long), (k_a1_next, .int), (k_pool, .long)] : List (ClassId × FieldType))) s := hK
      have hP := hP.sub (ws' := (([(h0, .inr (4, [.int size_, .ref shapes_, .ref fixed_, .ref firsts_, .ref lasts_, .ref froms_, .ref tos_, .ref pool_, .int o24])), (pool_, .inl (k_pool, n_pool, .inr (.inl o25)))] : va_W) ++ ((fm (fun i9 => ((sa i9, .inr (10, [.int (st_literal i9), .int (st_scans i9), .int (st_freshOnly i9), .int (st_bound i9), .int (st_live i9), .int (st_soughtMask i9), .int (st_givenMask i9), .int (st_sought i9), .int (st_width i9), .int (st_predicate i9), .int (st_ordered i9), .int (st_shape i9), .long (st_fixed i9), .int (st_from i9), .int (st_to i9), .ref (st_a_roles i9), .ref (st_a_variables i9)])) : Nat × va_E))) ++ ((fm (fun i9 => ((st_a_roles i9, .inl (st_k_roles i9, 6, .inl (st_roles i9))) : Nat × va_E))) ++ ([(a1, .inr (3, [.int a1_size_, .int a1_highest_, .int a1_full_, .ref a1_keys_, .ref a1_stages_, .ref a1_amounts_, .ref a1_predicates_, .ref a1_next_, .ref a1_slots_, .ref a1_oldest_, .ref a1_newest_, .ref a1_known_, .ref a1_knownBefore_, .int a1_visible_])), (a1_keys_, .inl (k_a1_keys, 20000, .inr (.inl F_a1_keys))), (a1_next_, .inl (k_a1_next, 20000, .inl F_a1_next))] : va_W))))) [27, 28, 0, 1, 2, 3, 4, 5, 6, 7, 8, 9, 10, 11, 12, 13, 14, 15, 16, 17, 18, 19, 20, 21, 22, 23, 24, 25, 26] rfl
      have hD := hD.sub (ws' := (([(h0, .inr (4, [.int size_, .ref shapes_, .ref fixed_, .ref firsts_, .ref lasts_, .ref froms_, .ref tos_, .ref pool_, .int o24])), (pool_, .inl (k_pool, n_pool, .inr (.inl o25)))] : va_W) ++ ((fm (fun i9 => ((sa i9, .inr (10, [.int (st_literal i9), .int (st_scans i9), .int (st_freshOnly i9), .int (st_bound i9), .int (st_live i9), .int (st_soughtMask i9), .int (st_givenMask i9), .int (st_sought i9), .int (st_width i9), .int (st_predicate i9), .int (st_ordered i9), .int (st_shape i9), .long (st_fixed i9), .int (st_from i9), .int (st_to i9), .ref (st_a_roles i9), .ref (st_a_variables i9)])) : Nat × va_E))) ++ ((fm (fun i9 => ((st_a_roles i9, .inl (st_k_roles i9, 6, .inl (st_roles i9))) : Nat × va_E))) ++ ([(a1, .inr (3, [.int a1_size_, .int a1_highest_, .int a1_full_, .ref a1_keys_, .ref a1_stages_, .ref a1_amounts_, .ref a1_predicates_, .ref a1_next_, .ref a1_slots_, .ref a1_oldest_, .ref a1_newest_, .ref a1_known_, .ref a1_knownBefore_, .int a1_visible_])), (a1_keys_, .inl (k_a1_keys, 20000, .inr (.inl F_a1_keys))), (a1_next_, .inl (k_a1_next, 20000, .inl F_a1_next))] : va_W))))) [27, 28, 0, 1, 2, 3, 4, 5, 6, 7, 8, 9, 10, 11, 12, 13, 14, 15, 16, 17, 18, 19, 20, 21, 22, 23, 24, 25, 26] (by decide) rfl
      have hK := hK.sub (tys' := (([(k_pool, .long)] : List (ClassId × FieldType)) ++ ((fm (fun i9 => ((st_k_roles i9, .int) : ClassId × FieldType))) ++ ([(k_a1_keys, .long), (k_a1_next, .int)] : List (ClassId × FieldType))))) [14, 0, 1, 2, 3, 4, 5, 6, 7, 8, 9, 10, 11, 12, 13] rfl
      refine W.widen (k := 0) (n := 0) (Nat.le_of_ble_eq_true rfl) (Nat.le_of_ble_eq_true rfl) ?_
      exact W.vret hx hb hr (fun t ht hW => ⟨⟨(o24, o25), rfl, hw, by rw [ht]; exact hP, va_K.moved hW.alike hK, hD⟩, hS.F ht⟩) hS.2.2 dc_Ix_collect_171

def jw_met_Ix_provide_194 (post : (Int32 × Int32 × (Nat → Int32) × (Nat → Int64) × (Nat → Int32) × (Nat → Int32) × (Nat → Int32) × (Nat → Int32) × (Nat → Int64) × (Nat → Int32) × (Nat → Int32)) → Prop) (v7 : Int32) (st_from : Nat → Int32) (X0 : Nat) (st_to : Nat → Int32) : (Int32 × Int32 × (Nat → Int32) × (Nat → Int64) × (Nat → Int32) × (Nat → Int32) × (Nat → Int32) × (Nat → Int32) × (Nat → Int64)) → Prop
  | (v38, v39, v40, v41, v42, v43, v44, v45, v46) => vp_in v7 64 ∧ (∀ y48 : Int32, y48 = v44 v7.toNatClampNeg → (∀ g49 : Nat → Int32, g49 = fup st_from X0 y48 → (vp_in v7 64 ∧ (∀ y51 : Int32, y51 = v45 v7.toNatClampNeg → (∀ g52 : Nat → Int32, g52 = fup st_to X0 y51 → (post (v38, v39, v40, v41, v42, v43, v44, v45, v46, g49, g52)))))))
def jw_met_Ix_provide_93 (post : (Int32 × Int32 × (Nat → Int32) × (Nat → Int64) × (Nat → Int32) × (Nat → Int32) × (Nat → Int32) × (Nat → Int32) × (Nat → Int64) × (Nat → Int32) × (Nat → Int32)) → Prop) (v7 : Int32) (size_ : Int32) (st_shape : Nat → Int32) (X0 : Nat) (F_shapes : Nat → Int32) (st_fixed : Nat → Int64) (F_fixed : Nat → Int64) (F_firsts : Nat → Int32) (r3 : Int32) (F_lasts : Nat → Int32) (r5 : Int32) (F_froms : Nat → Int32) (used_ : Int32) (F_tos : Nat → Int32) (n_pool : Nat) (F_pool : Nat → Int64) (F_a1_keys : Nat → Int64) (F_a1_next : Nat → Int32) (F_gaps_Ix : Nat → Int32) (st_ordered : Nat → Int32) (st_roles : Nat → Nat → Int32) (st_from : Nat → Int32) (st_to : Nat → Int32) : (Unit) → Prop
  | _ => ((v7 = size_ → (∀ y20 : Int32, y20 = st_shape X0 → (vp_in size_ 64 ∧ (∀ g22 : Nat → Int32, g22 = upd F_shapes size_.toNatClampNeg y20 → (∀ y23 : Int64, y23 = st_fixed X0 → (vp_in size_ 64 ∧ (∀ g25 : Nat → Int64, g25 = vp_updL F_fixed size_.toNatClampNeg y23 → (vp_in size_ 64 ∧ (∀ g27 : Nat → Int32, g27 = upd F_firsts size_.toNatClampNeg r3 → (vp_in size_ 64 ∧ (∀ g29 : Nat → Int32, g29 = upd F_lasts size_.toNatClampNeg r5 → (vp_in size_ 64 ∧ (∀ g31 : Nat → Int32, g31 = upd F_froms size_.toNatClampNeg used_ → (wp_met_Ix_collect (fun (u9 : Int32 × (Nat → Int64)) => match u9 with | (o32, o33) => (vp_in size_ 64 ∧ (∀ g36 : Nat → Int32, g36 = upd F_tos size_.toNatClampNeg o32 → (∀ y37 : Int32, y37 = size_ + (1 : Int32) → (jw_met_Ix_provide_194 post v7 st_from X0 st_to (y37, o32, g22, g25, g27, g29, g31, g36, o33)))))) n_pool r3 r5 used_ F_pool F_a1_keys F_a1_next F_gaps_Ix st_ordered st_fixed st_roles X0)))))))))))))) ∧ (¬ (v7 = size_) → (jw_met_Ix_provide_194 post v7 st_from X0 st_to (size_, used_, F_shapes, F_fixed, F_firsts, F_lasts, F_froms, F_tos, F_pool))))
def lw_met_Ix_provide_26 (post : (Int32 × Int32 × (Nat → Int32) × (Nat → Int64) × (Nat → Int32) × (Nat → Int32) × (Nat → Int32) × (Nat → Int32) × (Nat → Int64) × (Nat → Int32) × (Nat → Int32)) → Prop) (size_ : Int32) (F_shapes : Nat → Int32) (st_shape : Nat → Int32) (X0 : Nat) (F_fixed : Nat → Int64) (st_fixed : Nat → Int64) (F_firsts : Nat → Int32) (r3 : Int32) (F_lasts : Nat → Int32) (r5 : Int32) (F_froms : Nat → Int32) (used_ : Int32) (F_tos : Nat → Int32) (n_pool : Nat) (F_pool : Nat → Int64) (F_a1_keys : Nat → Int64) (F_a1_next : Nat → Int32) (F_gaps_Ix : Nat → Int32) (st_ordered : Nat → Int32) (st_roles : Nat → Nat → Int32) (st_from : Nat → Int32) (st_to : Nat → Int32) : Nat → (Int32) → Prop
  | 0, _ => False
  | n6_ + 1, v7 => ((size_ ≤ v7 → (jw_met_Ix_provide_93 post v7 size_ st_shape X0 F_shapes st_fixed F_fixed F_firsts r3 F_lasts r5 F_froms used_ F_tos n_pool F_pool F_a1_keys F_a1_next F_gaps_Ix st_ordered st_roles st_from st_to ())) ∧ (¬ (size_ ≤ v7) → (vp_in v7 64 ∧ (∀ y10 : Int32, y10 = F_shapes v7.toNatClampNeg → (∀ y11 : Int32, y11 = st_shape X0 → (((y10 = y11 → (vp_in v7 64 ∧ (∀ y13 : Int64, y13 = F_fixed v7.toNatClampNeg → (∀ y14 : Int64, y14 = st_fixed X0 → (((y13 = y14 → (vp_in v7 64 ∧ (∀ y16 : Int32, y16 = F_firsts v7.toNatClampNeg → (((y16 = r3 → (vp_in v7 64 ∧ (∀ y18 : Int32, y18 = F_lasts v7.toNatClampNeg → (((y18 = r5 → (jw_met_Ix_provide_93 post v7 size_ st_shape X0 F_shapes st_fixed F_fixed F_firsts r3 F_lasts r5 F_froms used_ F_tos n_pool F_pool F_a1_keys F_a1_next F_gaps_Ix st_ordered st_roles st_from st_to ())) ∧ (¬ (y18 = r5) → (lw_met_Ix_provide_26 post size_ F_shapes st_shape X0 F_fixed st_fixed F_firsts r3 F_lasts r5 F_froms used_ F_tos n_pool F_pool F_a1_keys F_a1_next F_gaps_Ix st_ordered st_roles st_from st_to n6_ (v7 + 1)))))))) ∧ (¬ (y16 = r3) → (lw_met_Ix_provide_26 post size_ F_shapes st_shape X0 F_fixed st_fixed F_firsts r3 F_lasts r5 F_froms used_ F_tos n_pool F_pool F_a1_keys F_a1_next F_gaps_Ix st_ordered st_roles st_from st_to n6_ (v7 + 1)))))))) ∧ (¬ (y13 = y14) → (lw_met_Ix_provide_26 post size_ F_shapes st_shape X0 F_fixed st_fixed F_firsts r3 F_lasts r5 F_froms used_ F_tos n_pool F_pool F_a1_keys F_a1_next F_gaps_Ix st_ordered st_roles st_from st_to n6_ (v7 + 1))))))))) ∧ (¬ (y10 = y11) → (lw_met_Ix_provide_26 post size_ F_shapes st_shape X0 F_fixed st_fixed F_firsts r3 F_lasts r5 F_froms used_ F_tos n_pool F_pool F_a1_keys F_a1_next F_gaps_Ix st_ordered st_roles st_from st_to n6_ (v7 + 1))))))))))
def wp_met_Ix_provide (post : (Int32 × Int32 × (Nat → Int32) × (Nat → Int64) × (Nat → Int32) × (Nat → Int32) × (Nat → Int32) × (Nat → Int32) × (Nat → Int64) × (Nat → Int32) × (Nat → Int32)) → Prop) (n_pool : Nat) (size_ : Int32) (used_ : Int32) (F_shapes : Nat → Int32) (F_fixed : Nat → Int64) (F_firsts : Nat → Int32) (F_lasts : Nat → Int32) (F_froms : Nat → Int32) (F_tos : Nat → Int32) (F_pool : Nat → Int64) (F_a1_keys : Nat → Int64) (F_a1_next : Nat → Int32) (F_a1_oldest : Nat → Int32) (F_a1_known : Nat → Int32) (F_a1_knownBefore : Nat → Int32) (F_gaps_Ix : Nat → Int32) (st_freshOnly : Nat → Int32) (st_predicate : Nat → Int32) (st_ordered : Nat → Int32) (st_shape : Nat → Int32) (st_fixed : Nat → Int64) (st_from : Nat → Int32) (st_to : Nat → Int32) (st_roles : Nat → Nat → Int32) (X0 : Nat) : Prop := X0 < 12 ∧ (∀ y1 : Int32, y1 = st_predicate X0 → (∀ y2 : Int32, y2 = st_freshOnly X0 → (wp_met_Fa_firstOf (fun (r3 : Int32) (_ : Unit) => (∀ y4 : Int32, y4 = st_predicate X0 → (wp_met_Fa_lastOf (fun (r5 : Int32) (_ : Unit) => (∃ n9 : Nat, lw_met_Ix_provide_26 post size_ F_shapes st_shape X0 F_fixed st_fixed F_firsts r3 F_lasts r5 F_froms used_ F_tos n_pool F_pool F_a1_keys F_a1_next F_gaps_Ix st_ordered st_roles st_from st_to n9 (0 : Int32))) y4 F_a1_known))) y1 y2 F_a1_next F_a1_oldest F_a1_knownBefore)))
set_option maxHeartbeats 4000000 in
set_option maxRecDepth 100000 in
theorem met_Ix_provide (l : Launch) (dC : Nat → ClassId) (dI : Nat → Nat → Nat) (n_pool : Nat) (h0 : Nat) (shapes_ : Nat) (fixed_ : Nat) (firsts_ : Nat) (lasts_ : Nat) (froms_ : Nat) (tos_ : Nat) (pool_ : Nat) (a1 : Nat) (a1_keys_ : Nat) (a1_stages_ : Nat) (a1_amounts_ : Nat) (a1_predicates_ : Nat) (a1_next_ : Nat) (a1_slots_ : Nat) (a1_oldest_ : Nat) (a1_newest_ : Nat) (a1_known_ : Nat) (a1_knownBefore_ : Nat) (size_ : Int32) (used_ : Int32) (F_shapes : Nat → Int32) (F_fixed : Nat → Int64) (F_firsts : Nat → Int32) (F_lasts : Nat → Int32) (F_froms : Nat → Int32) (F_tos : Nat → Int32) (F_pool : Nat → Int64) (a1_size_ : Int32) (a1_highest_ : Int32) (a1_full_ : Int32) (a1_visible_ : Int32) (F_a1_keys : Nat → Int64) (F_a1_next : Nat → Int32) (F_a1_oldest : Nat → Int32) (F_a1_known : Nat → Int32) (F_a1_knownBefore : Nat → Int32) (k_shapes : ClassId) (k_fixed : ClassId) (k_firsts : ClassId) (k_lasts : ClassId) (k_froms : ClassId) (k_tos : ClassId) (k_pool : ClassId) (k_a1_keys : ClassId) (k_a1_next : ClassId) (k_a1_oldest : ClassId) (k_a1_known : ClassId) (k_a1_knownBefore : ClassId) (gaps_Ix : Nat) (F_gaps_Ix : Nat → Int32) (sa : Nat → Nat) (st_literal : Nat → Int32) (st_scans : Nat → Int32) (st_freshOnly : Nat → Int32) (st_bound : Nat → Int32) (st_live : Nat → Int32) (st_soughtMask : Nat → Int32) (st_givenMask : Nat → Int32) (st_sought : Nat → Int32) (st_width : Nat → Int32) (st_predicate : Nat → Int32) (st_ordered : Nat → Int32) (st_shape : Nat → Int32) (st_fixed : Nat → Int64) (st_from : Nat → Int32) (st_to : Nat → Int32) (st_a_roles : Nat → Nat) (st_a_variables : Nat → Nat) (st_k_roles : Nat → ClassId) (st_roles : Nat → Nat → Int32) (X0 : Nat) (sz : Nat) {post : (Int32 × Int32 × (Nat → Int32) × (Nat → Int64) × (Nat → Int32) × (Nat → Int32) × (Nat → Int32) × (Nat → Int32) × (Nat → Int64) × (Nat → Int32) × (Nat → Int32)) → Prop} (hw : wp_met_Ix_provide post n_pool size_ used_ F_shapes F_fixed F_firsts F_lasts F_froms F_tos F_pool F_a1_keys F_a1_next F_a1_oldest F_a1_known F_a1_knownBefore F_gaps_Ix st_freshOnly st_predicate st_ordered st_shape st_fixed st_from st_to st_roles X0) : Met l my_Ix_provide (Cond.code my_Ix_provide cd_Ix_provide 6 none :: tblG) ({ frames := 3, cells := 0, slots := 0, locals := 79 }) (va_Pc [.ref h0, .ref (sa X0), .ref a1] (fun U => U.heap.size = sz ∧ va_P (dC, dI) vwCl (([(h0, .inr (4, [.int size_, .ref shapes_, .ref fixed_, .ref firsts_, .ref lasts_, .ref froms_, .ref tos_, .ref pool_, .int used_])), (shapes_, .inl (k_shapes, 64, .inl F_shapes)), (fixed_, .inl (k_fixed, 64, .inr (.inl F_fixed))), (firsts_, .inl (k_firsts, 64, .inl F_firsts)), (lasts_, .inl (k_lasts, 64, .inl F_lasts)), (froms_, .inl (k_froms, 64, .inl F_froms)), (tos_, .inl (k_tos, 64, .inl F_tos)), (pool_, .inl (k_pool, n_pool, .inr (.inl F_pool)))] : va_W) ++ ((fm (fun i9 => ((sa i9, .inr (10, [.int (st_literal i9), .int (st_scans i9), .int (st_freshOnly i9), .int (st_bound i9), .int (st_live i9), .int (st_soughtMask i9), .int (st_givenMask i9), .int (st_sought i9), .int (st_width i9), .int (st_predicate i9), .int (st_ordered i9), .int (st_shape i9), .long (st_fixed i9), .int (st_from i9), .int (st_to i9), .ref (st_a_roles i9), .ref (st_a_variables i9)])) : Nat × va_E))) ++ ((fm (fun i9 => ((st_a_roles i9, .inl (st_k_roles i9, 6, .inl (st_roles i9))) : Nat × va_E))) ++ ([(a1, .inr (3, [.int a1_size_, .int a1_highest_, .int a1_full_, .ref a1_keys_, .ref a1_stages_, .ref a1_amounts_, .ref a1_predicates_, .ref a1_next_, .ref a1_slots_, .ref a1_oldest_, .ref a1_newest_, .ref a1_known_, .ref a1_knownBefore_, .int a1_visible_])), (a1_keys_, .inl (k_a1_keys, 20000, .inr (.inl F_a1_keys))), (a1_next_, .inl (k_a1_next, 20000, .inl F_a1_next)), (a1_oldest_, .inl (k_a1_oldest, 64, .inl F_a1_oldest)), (a1_known_, .inl (k_a1_known, 64, .inl F_a1_known)), (a1_knownBefore_, .inl (k_a1_knownBefore, 64, .inl F_a1_knownBefore))] : va_W)))) U.heap ∧ va_K (dC, dI) vwCl (([(k_shapes, .int), (k_fixed, .long), (k_firsts, .int), (k_lasts, .int), (k_froms, .int), (k_tos, .int), (k_pool, .long)] : List (ClassId × FieldType)) ++ ((fm (fun i9 => ((st_k_roles i9, .int) : ClassId × FieldType))) ++ ([(k_a1_keys, .long), (k_a1_next, .int), (k_a1_oldest, .int), (k_a1_known, .int), (k_a1_knownBefore, .int)] : List (ClassId × FieldType)))) U ∧ va_D (fun _ => True) (([(h0, .inr (4, [.int size_, .ref shapes_, .ref fixed_, .ref firsts_, .ref lasts_, .ref froms_, .ref tos_, .ref pool_, .int used_])), (shapes_, .inl (k_shapes, 64, .inl F_shapes)), (fixed_, .inl (k_fixed, 64, .inr (.inl F_fixed))), (firsts_, .inl (k_firsts, 64, .inl F_firsts)), (lasts_, .inl (k_lasts, 64, .inl F_lasts)), (froms_, .inl (k_froms, 64, .inl F_froms)), (tos_, .inl (k_tos, 64, .inl F_tos)), (pool_, .inl (k_pool, n_pool, .inr (.inl F_pool)))] : va_W) ++ ((fm (fun i9 => ((sa i9, .inr (10, [.int (st_literal i9), .int (st_scans i9), .int (st_freshOnly i9), .int (st_bound i9), .int (st_live i9), .int (st_soughtMask i9), .int (st_givenMask i9), .int (st_sought i9), .int (st_width i9), .int (st_predicate i9), .int (st_ordered i9), .int (st_shape i9), .long (st_fixed i9), .int (st_from i9), .int (st_to i9), .ref (st_a_roles i9), .ref (st_a_variables i9)])) : Nat × va_E))) ++ ((fm (fun i9 => ((st_a_roles i9, .inl (st_k_roles i9, 6, .inl (st_roles i9))) : Nat × va_E))) ++ ([(a1, .inr (3, [.int a1_size_, .int a1_highest_, .int a1_full_, .ref a1_keys_, .ref a1_stages_, .ref a1_amounts_, .ref a1_predicates_, .ref a1_next_, .ref a1_slots_, .ref a1_oldest_, .ref a1_newest_, .ref a1_known_, .ref a1_knownBefore_, .int a1_visible_])), (a1_keys_, .inl (k_a1_keys, 20000, .inr (.inl F_a1_keys))), (a1_next_, .inl (k_a1_next, 20000, .inl F_a1_next)), (a1_oldest_, .inl (k_a1_oldest, 64, .inl F_a1_oldest)), (a1_known_, .inl (k_a1_known, 64, .inl F_a1_known)), (a1_knownBefore_, .inl (k_a1_knownBefore, 64, .inl F_a1_knownBefore))] : va_W)))) ∧ va_Z "StrataBase$Indexes" "GAPS" "[I" (.ref gaps_Ix) (va_A (([(h0, .inr (4, [.int size_, .ref shapes_, .ref fixed_, .ref firsts_, .ref lasts_, .ref froms_, .ref tos_, .ref pool_, .int used_])), (shapes_, .inl (k_shapes, 64, .inl F_shapes)), (fixed_, .inl (k_fixed, 64, .inr (.inl F_fixed))), (firsts_, .inl (k_firsts, 64, .inl F_firsts)), (lasts_, .inl (k_lasts, 64, .inl F_lasts)), (froms_, .inl (k_froms, 64, .inl F_froms)), (tos_, .inl (k_tos, 64, .inl F_tos)), (pool_, .inl (k_pool, n_pool, .inr (.inl F_pool)))] : va_W) ++ ((fm (fun i9 => ((sa i9, .inr (10, [.int (st_literal i9), .int (st_scans i9), .int (st_freshOnly i9), .int (st_bound i9), .int (st_live i9), .int (st_soughtMask i9), .int (st_givenMask i9), .int (st_sought i9), .int (st_width i9), .int (st_predicate i9), .int (st_ordered i9), .int (st_shape i9), .long (st_fixed i9), .int (st_from i9), .int (st_to i9), .ref (st_a_roles i9), .ref (st_a_variables i9)])) : Nat × va_E))) ++ ((fm (fun i9 => ((st_a_roles i9, .inl (st_k_roles i9, 6, .inl (st_roles i9))) : Nat × va_E))) ++ ([(a1, .inr (3, [.int a1_size_, .int a1_highest_, .int a1_full_, .ref a1_keys_, .ref a1_stages_, .ref a1_amounts_, .ref a1_predicates_, .ref a1_next_, .ref a1_slots_, .ref a1_oldest_, .ref a1_newest_, .ref a1_known_, .ref a1_knownBefore_, .int a1_visible_])), (a1_keys_, .inl (k_a1_keys, 20000, .inr (.inl F_a1_keys))), (a1_next_, .inl (k_a1_next, 20000, .inl F_a1_next)), (a1_oldest_, .inl (k_a1_oldest, 64, .inl F_a1_oldest)), (a1_known_, .inl (k_a1_known, 64, .inl F_a1_known)), (a1_knownBefore_, .inl (k_a1_knownBefore, 64, .inl F_a1_knownBefore))] : va_W)))) sz) U U.heap ∧ va_T .int gaps_Ix 11 (fun j => .int (F_gaps_Ix j)) (va_A (([(h0, .inr (4, [.int size_, .ref shapes_, .ref fixed_, .ref firsts_, .ref lasts_, .ref froms_, .ref tos_, .ref pool_, .int used_])), (shapes_, .inl (k_shapes, 64, .inl F_shapes)), (fixed_, .inl (k_fixed, 64, .inr (.inl F_fixed))), (firsts_, .inl (k_firsts, 64, .inl F_firsts)), (lasts_, .inl (k_lasts, 64, .inl F_lasts)), (froms_, .inl (k_froms, 64, .inl F_froms)), (tos_, .inl (k_tos, 64, .inl F_tos)), (pool_, .inl (k_pool, n_pool, .inr (.inl F_pool)))] : va_W) ++ ((fm (fun i9 => ((sa i9, .inr (10, [.int (st_literal i9), .int (st_scans i9), .int (st_freshOnly i9), .int (st_bound i9), .int (st_live i9), .int (st_soughtMask i9), .int (st_givenMask i9), .int (st_sought i9), .int (st_width i9), .int (st_predicate i9), .int (st_ordered i9), .int (st_shape i9), .long (st_fixed i9), .int (st_from i9), .int (st_to i9), .ref (st_a_roles i9), .ref (st_a_variables i9)])) : Nat × va_E))) ++ ((fm (fun i9 => ((st_a_roles i9, .inl (st_k_roles i9, 6, .inl (st_roles i9))) : Nat × va_E))) ++ ([(a1, .inr (3, [.int a1_size_, .int a1_highest_, .int a1_full_, .ref a1_keys_, .ref a1_stages_, .ref a1_amounts_, .ref a1_predicates_, .ref a1_next_, .ref a1_slots_, .ref a1_oldest_, .ref a1_newest_, .ref a1_known_, .ref a1_knownBefore_, .int a1_visible_])), (a1_keys_, .inl (k_a1_keys, 20000, .inr (.inl F_a1_keys))), (a1_next_, .inl (k_a1_next, 20000, .inl F_a1_next)), (a1_oldest_, .inl (k_a1_oldest, 64, .inl F_a1_oldest)), (a1_known_, .inl (k_a1_known, 64, .inl F_a1_known)), (a1_knownBefore_, .inl (k_a1_knownBefore, 64, .inl F_a1_knownBefore))] : va_W)))) sz) U U.heap)) (va_Qv post (fun (u : Int32 × Int32 × (Nat → Int32) × (Nat → Int64) × (Nat → Int32) × (Nat → Int32) × (Nat → Int32) × (Nat → Int32) × (Nat → Int64) × (Nat → Int32) × (Nat → Int32)) (t : State) => match u with | (o0, o1, o2, o3, o4, o5, o6, o7, o8, o9, o10) => va_P (dC, dI) vwCl (([(h0, .inr (4, [.int o0, .ref shapes_, .ref fixed_, .ref firsts_, .ref lasts_, .ref froms_, .ref tos_, .ref pool_, .int o1])), (shapes_, .inl (k_shapes, 64, .inl o2)), (fixed_, .inl (k_fixed, 64, .inr (.inl o3))), (firsts_, .inl (k_firsts, 64, .inl o4)), (lasts_, .inl (k_lasts, 64, .inl o5)), (froms_, .inl (k_froms, 64, .inl o6)), (tos_, .inl (k_tos, 64, .inl o7)), (pool_, .inl (k_pool, n_pool, .inr (.inl o8)))] : va_W) ++ ((fm (fun i9 => ((sa i9, .inr (10, [.int (st_literal i9), .int (st_scans i9), .int (st_freshOnly i9), .int (st_bound i9), .int (st_live i9), .int (st_soughtMask i9), .int (st_givenMask i9), .int (st_sought i9), .int (st_width i9), .int (st_predicate i9), .int (st_ordered i9), .int (st_shape i9), .long (st_fixed i9), .int (o9 i9), .int (o10 i9), .ref (st_a_roles i9), .ref (st_a_variables i9)])) : Nat × va_E))) ++ ((fm (fun i9 => ((st_a_roles i9, .inl (st_k_roles i9, 6, .inl (st_roles i9))) : Nat × va_E))) ++ ([(a1, .inr (3, [.int a1_size_, .int a1_highest_, .int a1_full_, .ref a1_keys_, .ref a1_stages_, .ref a1_amounts_, .ref a1_predicates_, .ref a1_next_, .ref a1_slots_, .ref a1_oldest_, .ref a1_newest_, .ref a1_known_, .ref a1_knownBefore_, .int a1_visible_])), (a1_keys_, .inl (k_a1_keys, 20000, .inr (.inl F_a1_keys))), (a1_next_, .inl (k_a1_next, 20000, .inl F_a1_next)), (a1_oldest_, .inl (k_a1_oldest, 64, .inl F_a1_oldest)), (a1_known_, .inl (k_a1_known, 64, .inl F_a1_known)), (a1_knownBefore_, .inl (k_a1_knownBefore, 64, .inl F_a1_knownBefore))] : va_W)))) t.heap ∧ va_K (dC, dI) vwCl (([(k_shapes, .int), (k_fixed, .long), (k_firsts, .int), (k_lasts, .int), (k_froms, .int), (k_tos, .int), (k_pool, .long)] : List (ClassId × FieldType)) ++ ((fm (fun i9 => ((st_k_roles i9, .int) : ClassId × FieldType))) ++ ([(k_a1_keys, .long), (k_a1_next, .int), (k_a1_oldest, .int), (k_a1_known, .int), (k_a1_knownBefore, .int)] : List (ClassId × FieldType)))) t ∧ va_D (va_A (([(h0, .inr (4, [.int size_, .ref shapes_, .ref fixed_, .ref firsts_, .ref lasts_, .ref froms_, .ref tos_, .ref pool_, .int used_])), (shapes_, .inl (k_shapes, 64, .inl F_shapes)), (fixed_, .inl (k_fixed, 64, .inr (.inl F_fixed))), (firsts_, .inl (k_firsts, 64, .inl F_firsts)), (lasts_, .inl (k_lasts, 64, .inl F_lasts)), (froms_, .inl (k_froms, 64, .inl F_froms)), (tos_, .inl (k_tos, 64, .inl F_tos)), (pool_, .inl (k_pool, n_pool, .inr (.inl F_pool)))] : va_W) ++ ((fm (fun i9 => ((sa i9, .inr (10, [.int (st_literal i9), .int (st_scans i9), .int (st_freshOnly i9), .int (st_bound i9), .int (st_live i9), .int (st_soughtMask i9), .int (st_givenMask i9), .int (st_sought i9), .int (st_width i9), .int (st_predicate i9), .int (st_ordered i9), .int (st_shape i9), .long (st_fixed i9), .int (st_from i9), .int (st_to i9), .ref (st_a_roles i9), .ref (st_a_variables i9)])) : Nat × va_E))) ++ ((fm (fun i9 => ((st_a_roles i9, .inl (st_k_roles i9, 6, .inl (st_roles i9))) : Nat × va_E))) ++ ([(a1, .inr (3, [.int a1_size_, .int a1_highest_, .int a1_full_, .ref a1_keys_, .ref a1_stages_, .ref a1_amounts_, .ref a1_predicates_, .ref a1_next_, .ref a1_slots_, .ref a1_oldest_, .ref a1_newest_, .ref a1_known_, .ref a1_knownBefore_, .int a1_visible_])), (a1_keys_, .inl (k_a1_keys, 20000, .inr (.inl F_a1_keys))), (a1_next_, .inl (k_a1_next, 20000, .inl F_a1_next)), (a1_oldest_, .inl (k_a1_oldest, 64, .inl F_a1_oldest)), (a1_known_, .inl (k_a1_known, 64, .inl F_a1_known)), (a1_knownBefore_, .inl (k_a1_knownBefore, 64, .inl F_a1_knownBefore))] : va_W)))) sz) (([(h0, .inr (4, [.int o0, .ref shapes_, .ref fixed_, .ref firsts_, .ref lasts_, .ref froms_, .ref tos_, .ref pool_, .int o1])), (shapes_, .inl (k_shapes, 64, .inl o2)), (fixed_, .inl (k_fixed, 64, .inr (.inl o3))), (firsts_, .inl (k_firsts, 64, .inl o4)), (lasts_, .inl (k_lasts, 64, .inl o5)), (froms_, .inl (k_froms, 64, .inl o6)), (tos_, .inl (k_tos, 64, .inl o7)), (pool_, .inl (k_pool, n_pool, .inr (.inl o8)))] : va_W) ++ ((fm (fun i9 => ((sa i9, .inr (10, [.int (st_literal i9), .int (st_scans i9), .int (st_freshOnly i9), .int (st_bound i9), .int (st_live i9), .int (st_soughtMask i9), .int (st_givenMask i9), .int (st_sought i9), .int (st_width i9), .int (st_predicate i9), .int (st_ordered i9), .int (st_shape i9), .long (st_fixed i9), .int (o9 i9), .int (o10 i9), .ref (st_a_roles i9), .ref (st_a_variables i9)])) : Nat × va_E))) ++ ((fm (fun i9 => ((st_a_roles i9, .inl (st_k_roles i9, 6, .inl (st_roles i9))) : Nat × va_E))) ++ ([(a1, .inr (3, [.int a1_size_, .int a1_highest_, .int a1_full_, .ref a1_keys_, .ref a1_stages_, .ref a1_amounts_, .ref a1_predicates_, .ref a1_next_, .ref a1_slots_, .ref a1_oldest_, .ref a1_newest_, .ref a1_known_, .ref a1_knownBefore_, .int a1_visible_])), (a1_keys_, .inl (k_a1_keys, 20000, .inr (.inl F_a1_keys))), (a1_next_, .inl (k_a1_next, 20000, .inl F_a1_next)), (a1_oldest_, .inl (k_a1_oldest, 64, .inl F_a1_oldest)), (a1_known_, .inl (k_a1_known, 64, .inl F_a1_known)), (a1_knownBefore_, .inl (k_a1_knownBefore, 64, .inl F_a1_knownBefore))] : va_W))))) (va_A (([(h0, .inr (4, [.int size_, .ref shapes_, .ref fixed_, .ref firsts_, .ref lasts_, .ref froms_, .ref tos_, .ref pool_, .int used_])), (shapes_, .inl (k_shapes, 64, .inl F_shapes)), (fixed_, .inl (k_fixed, 64, .inr (.inl F_fixed))), (firsts_, .inl (k_firsts, 64, .inl F_firsts)), (lasts_, .inl (k_lasts, 64, .inl F_lasts)), (froms_, .inl (k_froms, 64, .inl F_froms)), (tos_, .inl (k_tos, 64, .inl F_tos)), (pool_, .inl (k_pool, n_pool, .inr (.inl F_pool)))] : va_W) ++ ((fm (fun i9 => ((sa i9, .inr (10, [.int (st_literal i9), .int (st_scans i9), .int (st_freshOnly i9), .int (st_bound i9), .int (st_live i9), .int (st_soughtMask i9), .int (st_givenMask i9), .int (st_sought i9), .int (st_width i9), .int (st_predicate i9), .int (st_ordered i9), .int (st_shape i9), .long (st_fixed i9), .int (st_from i9), .int (st_to i9), .ref (st_a_roles i9), .ref (st_a_variables i9)])) : Nat × va_E))) ++ ((fm (fun i9 => ((st_a_roles i9, .inl (st_k_roles i9, 6, .inl (st_roles i9))) : Nat × va_E))) ++ ([(a1, .inr (3, [.int a1_size_, .int a1_highest_, .int a1_full_, .ref a1_keys_, .ref a1_stages_, .ref a1_amounts_, .ref a1_predicates_, .ref a1_next_, .ref a1_slots_, .ref a1_oldest_, .ref a1_newest_, .ref a1_known_, .ref a1_knownBefore_, .int a1_visible_])), (a1_keys_, .inl (k_a1_keys, 20000, .inr (.inl F_a1_keys))), (a1_next_, .inl (k_a1_next, 20000, .inl F_a1_next)), (a1_oldest_, .inl (k_a1_oldest, 64, .inl F_a1_oldest)), (a1_known_, .inl (k_a1_known, 64, .inl F_a1_known)), (a1_knownBefore_, .inl (k_a1_knownBefore, 64, .inl F_a1_knownBefore))] : va_W)))) sz)) 0 0 (va_A (([(h0, .inr (4, [.int size_, .ref shapes_, .ref fixed_, .ref firsts_, .ref lasts_, .ref froms_, .ref tos_, .ref pool_, .int used_])), (shapes_, .inl (k_shapes, 64, .inl F_shapes)), (fixed_, .inl (k_fixed, 64, .inr (.inl F_fixed))), (firsts_, .inl (k_firsts, 64, .inl F_firsts)), (lasts_, .inl (k_lasts, 64, .inl F_lasts)), (froms_, .inl (k_froms, 64, .inl F_froms)), (tos_, .inl (k_tos, 64, .inl F_tos)), (pool_, .inl (k_pool, n_pool, .inr (.inl F_pool)))] : va_W) ++ ((fm (fun i9 => ((sa i9, .inr (10, [.int (st_literal i9), .int (st_scans i9), .int (st_freshOnly i9), .int (st_bound i9), .int (st_live i9), .int (st_soughtMask i9), .int (st_givenMask i9), .int (st_sought i9), .int (st_width i9), .int (st_predicate i9), .int (st_ordered i9), .int (st_shape i9), .long (st_fixed i9), .int (st_from i9), .int (st_to i9), .ref (st_a_roles i9), .ref (st_a_variables i9)])) : Nat × va_E))) ++ ((fm (fun i9 => ((st_a_roles i9, .inl (st_k_roles i9, 6, .inl (st_roles i9))) : Nat × va_E))) ++ ([(a1, .inr (3, [.int a1_size_, .int a1_highest_, .int a1_full_, .ref a1_keys_, .ref a1_stages_, .ref a1_amounts_, .ref a1_predicates_, .ref a1_next_, .ref a1_slots_, .ref a1_oldest_, .ref a1_newest_, .ref a1_known_, .ref a1_knownBefore_, .int a1_visible_])), (a1_keys_, .inl (k_a1_keys, 20000, .inr (.inl F_a1_keys))), (a1_next_, .inl (k_a1_next, 20000, .inl F_a1_next)), (a1_oldest_, .inl (k_a1_oldest, 64, .inl F_a1_oldest)), (a1_known_, .inl (k_a1_known, 64, .inl F_a1_known)), (a1_knownBefore_, .inl (k_a1_knownBefore, 64, .inl F_a1_knownBefore))] : va_W)))) sz) := by
  refine Met.ofW (cc := cd_Ix_provide) (maxL := 6) (ret := none) (by decide) rfl ?_
  intro p e s m args below meth c s₁ B hml hv
  obtain ⟨rfl, hsz, hP, hK, hD0, hZ_Ix, hG_Ix⟩ := hv
  have hx := B.exec
  have hb := B.bytes
  have hr := B.returns
  have hT : ∀ w ∈ tblG, w.before _ s = true := fun w h => atoms_spec (ws := (Cond.code my_Ix_provide cd_Ix_provide 6 none :: tblG)) B.pre w (List.mem_cons_of_mem _ h)
  have hown : s.vm.findClass "StrataBase$Indexes" = some m.cls := findClass_of_methodNamed B.named
  have hlocks := B.notSynchronized
  subst hsz
  have hD := hD0.self (sz := s.heap.size)
  generalize hAe : va_A (([(h0, .inr (4, [.int size_, .ref shapes_, .ref fixed_, .ref firsts_, .ref lasts_, .ref froms_, .ref tos_, .ref pool_, .int used_])), (shapes_, .inl (k_shapes, 64, .inl F_shapes)), (fixed_, .inl (k_fixed, 64, .inr (.inl F_fixed))), (firsts_, .inl (k_firsts, 64, .inl F_firsts)), (lasts_, .inl (k_lasts, 64, .inl F_lasts)), (froms_, .inl (k_froms, 64, .inl F_froms)), (tos_, .inl (k_tos, 64, .inl F_tos)), (pool_, .inl (k_pool, n_pool, .inr (.inl F_pool)))] : va_W) ++ ((fm (fun i9 => ((sa i9, .inr (10, [.int (st_literal i9), .int (st_scans i9), .int (st_freshOnly i9), .int (st_bound i9), .int (st_live i9), .int (st_soughtMask i9), .int (st_givenMask i9), .int (st_sought i9), .int (st_width i9), .int (st_predicate i9), .int (st_ordered i9), .int (st_shape i9), .long (st_fixed i9), .int (st_from i9), .int (st_to i9), .ref (st_a_roles i9), .ref (st_a_variables i9)])) : Nat × va_E))) ++ ((fm (fun i9 => ((st_a_roles i9, .inl (st_k_roles i9, 6, .inl (st_roles i9))) : Nat × va_E))) ++ ([(a1, .inr (3, [.int a1_size_, .int a1_highest_, .int a1_full_, .ref a1_keys_, .ref a1_stages_, .ref a1_amounts_, .ref a1_predicates_, .ref a1_next_, .ref a1_slots_, .ref a1_oldest_, .ref a1_newest_, .ref a1_known_, .ref a1_knownBefore_, .int a1_visible_])), (a1_keys_, .inl (k_a1_keys, 20000, .inr (.inl F_a1_keys))), (a1_next_, .inl (k_a1_next, 20000, .inl F_a1_next)), (a1_oldest_, .inl (k_a1_oldest, 64, .inl F_a1_oldest)), (a1_known_, .inl (k_a1_known, 64, .inl F_a1_known)), (a1_knownBefore_, .inl (k_a1_knownBefore, 64, .inl F_a1_knownBefore))] : va_W)))) s.heap.size = A at hD hZ_Ix hG_Ix ⊢
  have hA : ∀ q : Nat, s.heap.size ≤ q → A q := fun q h => by rw [← hAe]; exact Or.inr h
  have hS : va_S A s.heap s.heap [] := va_S.rf
  have hl := lv_entry ([.ref h0, .ref (sa X0), .ref a1]) (n := 6) (Nat.le_of_ble_eq_true rfl)
  rw [lg_entry_eq]
  generalize (lg_sl ([.ref h0, .ref (sa X0), .ref a1]) ++ List.replicate (6 - (lg_sl ([.ref h0, .ref (sa X0), .ref a1])).length) Slot.unset).toArray = ls at hl ⊢
  have hl : lv_has ls 6 [(0, .ref h0), (1, .ref (sa X0)), (2, .ref a1)] := hl
  unfold wp_met_Ix_provide at hw
  obtain ⟨hX_X0, hw⟩ := hw
  refine lv_aload_n hx hb dc_Ix_provide_0 rfl (lv_at hl 2 rfl) ?_
  refine lv_aload_n hx hb dc_Ix_provide_1 rfl (lv_at hl 1 rfl) ?_
  refine va_get (D := (dC, dI)) (ci := 10) (v := .int (st_predicate X0)) (C := "StrataBase$Step") (T := tb_St) (N := 17) hx hb hT in_St hown hK hP (8 + X0) (show ((([(h0, .inr (4, [.int size_, .ref shapes_, .ref fixed_, .ref firsts_, .ref lasts_, .ref froms_, .ref tos_, .ref pool_, .int used_])), (shapes_, .inl (k_shapes, 64, .inl F_shapes)), (fixed_, .inl (k_fixed, 64, .inr (.inl F_fixed))), (firsts_, .inl (k_firsts, 64, .inl F_firsts)), (lasts_, .inl (k_lasts, 64, .inl F_lasts)), (froms_, .inl (k_froms, 64, .inl F_froms)), (tos_, .inl (k_tos, 64, .inl F_tos)), (pool_, .inl (k_pool, n_pool, .inr (.inl F_pool)))] : va_W) ++ ((fm (fun i9 => ((sa i9, .inr (10, [.int (st_literal i9), .int (st_scans i9), .int (st_freshOnly i9), .int (st_bound i9), .int (st_live i9), .int (st_soughtMask i9), .int (st_givenMask i9), .int (st_sought i9), .int (st_width i9), .int (st_predicate i9), .int (st_ordered i9), .int (st_shape i9), .long (st_fixed i9), .int (st_from i9), .int (st_to i9), .ref (st_a_roles i9), .ref (st_a_variables i9)])) : Nat × va_E))) ++ ((fm (fun i9 => ((st_a_roles i9, .inl (st_k_roles i9, 6, .inl (st_roles i9))) : Nat × va_E))) ++ ([(a1, .inr (3, [.int a1_size_, .int a1_highest_, .int a1_full_, .ref a1_keys_, .ref a1_stages_, .ref a1_amounts_, .ref a1_predicates_, .ref a1_next_, .ref a1_slots_, .ref a1_oldest_, .ref a1_newest_, .ref a1_known_, .ref a1_knownBefore_, .int a1_visible_])), (a1_keys_, .inl (k_a1_keys, 20000, .inr (.inl F_a1_keys))), (a1_next_, .inl (k_a1_next, 20000, .inl F_a1_next)), (a1_oldest_, .inl (k_a1_oldest, 64, .inl F_a1_oldest)), (a1_known_, .inl (k_a1_known, 64, .inl F_a1_known)), (a1_knownBefore_, .inl (k_a1_knownBefore, 64, .inl F_a1_knownBefore))] : va_W)))) : va_W)[8 + X0]? = some (sa X0, .inr (10, [.int (st_literal X0), .int (st_scans X0), .int (st_freshOnly X0), .int (st_bound X0), .int (st_live X0), .int (st_soughtMask X0), .int (st_givenMask X0), .int (st_sought X0), .int (st_width X0), .int (st_predicate X0), .int (st_ordered X0), .int (st_shape X0), .long (st_fixed X0), .int (st_from X0), .int (st_to X0), .ref (st_a_roles X0), .ref (st_a_variables X0)])) from fm_get hX_X0 rfl) rfl 9 (by decide) (hT _ wd_404) (fun _ h9 => h9) rfl dc_Ix_provide_2 ?_
  refine lv_topi (fun y1 ey1 => ?_)
  have hw := hw y1 ey1
  refine lv_aload_n hx hb dc_Ix_provide_5 rfl (lv_at hl 1 rfl) ?_
  refine va_get (D := (dC, dI)) (ci := 10) (v := .int (st_freshOnly X0)) (C := "StrataBase$Step") (T := tb_St) (N := 17) hx hb hT in_St hown hK hP (8 + X0) (show ((([(h0, .inr (4, [.int size_, .ref shapes_, .ref fixed_, .ref firsts_, .ref lasts_, .ref froms_, .ref tos_, .ref pool_, .int used_])), (shapes_, .inl (k_shapes, 64, .inl F_shapes)), (fixed_, .inl (k_fixed, 64, .inr (.inl F_fixed))), (firsts_, .inl (k_firsts, 64, .inl F_firsts)), (lasts_, .inl (k_lasts, 64, .inl F_lasts)), (froms_, .inl (k_froms, 64, .inl F_froms)), (tos_, .inl (k_tos, 64, .inl F_tos)), (pool_, .inl (k_pool, n_pool, .inr (.inl F_pool)))] : va_W) ++ ((fm (fun i9 => ((sa i9, .inr (10, [.int (st_literal i9), .int (st_scans i9), .int (st_freshOnly i9), .int (st_bound i9), .int (st_live i9), .int (st_soughtMask i9), .int (st_givenMask i9), .int (st_sought i9), .int (st_width i9), .int (st_predicate i9), .int (st_ordered i9), .int (st_shape i9), .long (st_fixed i9), .int (st_from i9), .int (st_to i9), .ref (st_a_roles i9), .ref (st_a_variables i9)])) : Nat × va_E))) ++ ((fm (fun i9 => ((st_a_roles i9, .inl (st_k_roles i9, 6, .inl (st_roles i9))) : Nat × va_E))) ++ ([(a1, .inr (3, [.int a1_size_, .int a1_highest_, .int a1_full_, .ref a1_keys_, .ref a1_stages_, .ref a1_amounts_, .ref a1_predicates_, .ref a1_next_, .ref a1_slots_, .ref a1_oldest_, .ref a1_newest_, .ref a1_known_, .ref a1_knownBefore_, .int a1_visible_])), (a1_keys_, .inl (k_a1_keys, 20000, .inr (.inl F_a1_keys))), (a1_next_, .inl (k_a1_next, 20000, .inl F_a1_next)), (a1_oldest_, .inl (k_a1_oldest, 64, .inl F_a1_oldest)), (a1_known_, .inl (k_a1_known, 64, .inl F_a1_known)), (a1_knownBefore_, .inl (k_a1_knownBefore, 64, .inl F_a1_knownBefore))] : va_W)))) : va_W)[8 + X0]? = some (sa X0, .inr (10, [.int (st_literal X0), .int (st_scans X0), .int (st_freshOnly X0), .int (st_bound X0), .int (st_live X0), .int (st_soughtMask X0), .int (st_givenMask X0), .int (st_sought X0), .int (st_width X0), .int (st_predicate X0), .int (st_ordered X0), .int (st_shape X0), .long (st_fixed X0), .int (st_from X0), .int (st_to X0), .ref (st_a_roles X0), .ref (st_a_variables X0)])) from fm_get hX_X0 rfl) rfl 2 (by decide) (hT _ wd_390) (fun _ h9 => h9) rfl dc_Ix_provide_6 ?_
  refine lv_topi (fun y2 ey2 => ?_)
  have hw := hw y2 ey2
  have hPc := hP.sub (ws' := [(a1, .inr (3, [.int a1_size_, .int a1_highest_, .int a1_full_, .ref a1_keys_, .ref a1_stages_, .ref a1_amounts_, .ref a1_predicates_, .ref a1_next_, .ref a1_slots_, .ref a1_oldest_, .ref a1_newest_, .ref a1_known_, .ref a1_knownBefore_, .int a1_visible_])), (a1_next_, .inl (k_a1_next, 20000, .inl F_a1_next)), (a1_oldest_, .inl (k_a1_oldest, 64, .inl F_a1_oldest)), (a1_knownBefore_, .inl (k_a1_knownBefore, 64, .inl F_a1_knownBefore))]) [32, 34, 35, 37] rfl
  have hDc := hD.sub (ws' := [(a1, .inr (3, [.int a1_size_, .int a1_highest_, .int a1_full_, .ref a1_keys_, .ref a1_stages_, .ref a1_amounts_, .ref a1_predicates_, .ref a1_next_, .ref a1_slots_, .ref a1_oldest_, .ref a1_newest_, .ref a1_known_, .ref a1_knownBefore_, .int a1_visible_])), (a1_next_, .inl (k_a1_next, 20000, .inl F_a1_next)), (a1_oldest_, .inl (k_a1_oldest, 64, .inl F_a1_oldest)), (a1_knownBefore_, .inl (k_a1_knownBefore, 64, .inl F_a1_knownBefore))]) [32, 34, 35, 37] (by decide) rfl
  have hKc := hK.sub (tys' := [(k_a1_next, .int), (k_a1_oldest, .int), (k_a1_knownBefore, .int)]) [20, 21, 23] rfl
  have hFc := va_free (wc := [(a1, .inr (3, [.int a1_size_, .int a1_highest_, .int a1_full_, .ref a1_keys_, .ref a1_stages_, .ref a1_amounts_, .ref a1_predicates_, .ref a1_next_, .ref a1_slots_, .ref a1_oldest_, .ref a1_newest_, .ref a1_known_, .ref a1_knownBefore_, .int a1_visible_])), (a1_next_, .inl (k_a1_next, 20000, .inl F_a1_next)), (a1_oldest_, .inl (k_a1_oldest, 64, .inl F_a1_oldest)), (a1_knownBefore_, .inl (k_a1_knownBefore, 64, .inl F_a1_knownBefore))]) hD hS hA [32, 34, 35, 37] rfl
  refine va_calli (va_runV (As := [.int y1, .int y2]) (rest := []) ⟨hx, hb, hml, hown, hT⟩ (met_Fa_firstOf l dC dI a1 a1_keys_ a1_stages_ a1_amounts_ a1_predicates_ a1_next_ a1_slots_ a1_oldest_ a1_newest_ a1_known_ a1_knownBefore_ y1 y2 a1_size_ a1_highest_ a1_full_ a1_visible_ F_a1_next F_a1_oldest F_a1_knownBefore k_a1_next k_a1_oldest k_a1_knownBefore s.heap.size hw) (cwV 2 hT (gd_V wd_1141 wd_1142 wd_1143 wd_8 wd_1144) rfl rfl rfl (by decide +kernel) ⟨Nat.le_of_ble_eq_true rfl, Nat.le_of_ble_eq_true rfl⟩) ⟨fun a U g mk q => by obtain ⟨q0, q1, qP, qK, qD⟩ := q; exact ⟨q0, q1, qP, va_K.moved (u := U) (U := U.calling g mk a) (Vm.Alike.refl U.vm) qK, qD⟩, va_recv hK hP (q0 := 32) (ci := 3) rfl rfl, fun U hU hW => ⟨rfl, by rw [hU], by rw [hU]; exact hPc, va_K.moved hW.alike hKc, hDc.weaken (fun _ _ _ _ => trivial)⟩⟩ rfl rfl hl.1 rfl (lv_room (Nat.le_of_ble_eq_true rfl)) dc_Ix_provide_9 ⟨(Nat.le_of_ble_eq_true rfl), (Nat.le_of_ble_eq_true rfl)⟩) hS (fun q _ h => hFc q h) hFc (fun r3 _ t H1 locs ht hvm hw hB hz1 hk1 hS => ?_)
  obtain ⟨hP1, hK1, hD1⟩ := hB
  rw [ht] at hP1
  have hK1 := va_K.moved hvm.symm hK1
  obtain ⟨hP, hD⟩ := va_join (wr := (([(h0, .inr (4, [.int size_, .ref shapes_, .ref fixed_, .ref firsts_, .ref lasts_, .ref froms_, .ref tos_, .ref pool_, .int used_])), (shapes_, .inl (k_shapes, 64, .inl F_shapes)), (fixed_, .inl (k_fixed, 64, .inr (.inl F_fixed))), (firsts_, .inl (k_firsts, 64, .inl F_firsts)), (lasts_, .inl (k_lasts, 64, .inl F_lasts)), (froms_, .inl (k_froms, 64, .inl F_froms)), (tos_, .inl (k_tos, 64, .inl F_tos)), (pool_, .inl (k_pool, n_pool, .inr (.inl F_pool)))] : va_W) ++ ((fm (fun i9 => ((sa i9, .inr (10, [.int (st_literal i9), .int (st_scans i9), .int (st_freshOnly i9), .int (st_bound i9), .int (st_live i9), .int (st_soughtMask i9), .int (st_givenMask i9), .int (st_sought i9), .int (st_width i9), .int (st_predicate i9), .int (st_ordered i9), .int (st_shape i9), .long (st_fixed i9), .int (st_from i9), .int (st_to i9), .ref (st_a_roles i9), .ref (st_a_variables i9)])) : Nat × va_E))) ++ ((fm (fun i9 => ((st_a_roles i9, .inl (st_k_roles i9, 6, .inl (st_roles i9))) : Nat × va_E))) ++ ([(a1_keys_, .inl (k_a1_keys, 20000, .inr (.inl F_a1_keys))), (a1_known_, .inl (k_a1_known, 64, .inl F_a1_known))] : va_W))))) (w1 := [(a1, .inr (3, [.int a1_size_, .int a1_highest_, .int a1_full_, .ref a1_keys_, .ref a1_stages_, .ref a1_amounts_, .ref a1_predicates_, .ref a1_next_, .ref a1_slots_, .ref a1_oldest_, .ref a1_newest_, .ref a1_known_, .ref a1_knownBefore_, .int a1_visible_])), (a1_next_, .inl (k_a1_next, 20000, .inl F_a1_next)), (a1_oldest_, .inl (k_a1_oldest, 64, .inl F_a1_oldest)), (a1_knownBefore_, .inl (k_a1_knownBefore, 64, .inl F_a1_knownBefore))]) hP hD [32, 34, 35, 37] [0, 1, 2, 3, 4, 5, 6, 7, 8, 9, 10, 11, 12, 13, 14, 15, 16, 17, 18, 19, 20, 21, 22, 23, 24, 25, 26, 27, 28, 29, 30, 31, 33, 36] rfl rfl (by decide) (by decide) hk1 hFc hP1 hD1
  have hK := (hK.sub (tys' := (([(k_shapes, .int), (k_fixed, .long), (k_firsts, .int), (k_lasts, .int), (k_froms, .int), (k_tos, .int), (k_pool, .long)] : List (ClassId × FieldType)) ++ ((fm (fun i9 => ((st_k_roles i9, .int) : ClassId × FieldType))) ++ ([(k_a1_keys, .long), (k_a1_known, .int)] : List (ClassId × FieldType))))) [0, 1, 2, 3, 4, 5, 6, 7, 8, 9, 10, 11, 12, 13, 14, 15, 16, 17, 18, 19, 22] rfl).app hK1
  generalize H1 = H at hP hS ⊢
  have hP : va_P (dC, dI) vwCl (([(h0, .inr (4, [.int size_, .ref shapes_, .ref fixed_, .ref firsts_, .ref lasts_, .ref froms_, .ref tos_, .ref pool_, .int used_])), (shapes_, .inl (k_shapes, 64, .inl F_shapes)), (fixed_, .inl (k_fixed, 64, .inr (.inl F_fixed))), (firsts_, .inl (k_firsts, 64, .inl F_firsts)), (lasts_, .inl (k_lasts, 64, .inl F_lasts)), (froms_, .inl (k_froms, 64, .inl F_froms)), (tos_, .inl (k_tos, 64, .inl F_tos)), (pool_, .inl (k_pool, n_pool, .inr (.inl F_pool)))] : va_W) ++ ((fm (fun i9 => ((sa i9, .inr (10, [.int (st_literal i9), .int (st_scans i9), .int (st_freshOnly i9), .int (st_bound i9), .int (st_live i9), .int (st_soughtMask i9), .int (st_givenMask i9), .int (st_sought i9), .int (st_width i9), .int (st_predicate i9), .int (st_ordered i9), .int (st_shape i9), .long (st_fixed i9), .int (st_from i9), .int (st_to i9), .ref (st_a_roles i9), .ref (st_a_variables i9)])) : Nat × va_E))) ++ ((fm (fun i9 => ((st_a_roles i9, .inl (st_k_roles i9, 6, .inl (st_roles i9))) : Nat × va_E))) ++ ([(a1_keys_, .inl (k_a1_keys, 20000, .inr (.inl F_a1_keys))), (a1_known_, .inl (k_a1_known, 64, .inl F_a1_known)), (a1, .inr (3, [.int a1_size_, .int a1_highest_, .int a1_full_, .ref a1_keys_, .ref a1_stages_, .ref a1_amounts_, .ref a1_predicates_, .ref a1_next_, .ref a1_slots_, .ref a1_oldest_, .ref a1_newest_, .ref a1_known_, .ref a1_knownBefore_, .int a1_visible_])), (a1_next_, .inl (k_a1_next, 20000, .inl F_a1_next)), (a1_oldest_, .inl (k_a1_oldest, 64, .inl F_a1_oldest)), (a1_knownBefore_, .inl (k_a1_knownBefore, 64, .inl F_a1_knownBefore))] : va_W)))) H := hP
  have hD : va_D A (([(h0, .inr (4, [.int size_, .ref shapes_, .ref fixed_, .ref firsts_, .ref lasts_, .ref froms_, .ref tos_, .ref pool_, .int used_])), (shapes_, .inl (k_shapes, 64, .inl F_shapes)), (fixed_, .inl (k_fixed, 64, .inr (.inl F_fixed))), (firsts_, .inl (k_firsts, 64, .inl F_firsts)), (lasts_, .inl (k_lasts, 64, .inl F_lasts)), (froms_, .inl (k_froms, 64, .inl F_froms)), (tos_, .inl (k_tos, 64, .inl F_tos)), (pool_, .inl (k_pool, n_pool, .inr (.inl F_pool)))] : va_W) ++ ((fm (fun i9 => ((sa i9, .inr (10, [.int (st_literal i9), .int (st_scans i9), .int (st_freshOnly i9), .int (st_bound i9), .int (st_live i9), .int (st_soughtMask i9), .int (st_givenMask i9), .int (st_sought i9), .int (st_width i9), .int (st_predicate i9), .int (st_ordered i9), .int (st_shape i9), .long (st_fixed i9), .int (st_from i9), .int (st_to i9), .ref (st_a_roles i9), .ref (st_a_variables i9)])) : Nat × va_E))) ++ ((fm (fun i9 => ((st_a_roles i9, .inl (st_k_roles i9, 6, .inl (st_roles i9))) : Nat × va_E))) ++ ([(a1_keys_, .inl (k_a1_keys, 20000, .inr (.inl F_a1_keys))), (a1_known_, .inl (k_a1_known, 64, .inl F_a1_known)), (a1, .inr (3, [.int a1_size_, .int a1_highest_, .int a1_full_, .ref a1_keys_, .ref a1_stages_, .ref a1_amounts_, .ref a1_predicates_, .ref a1_next_, .ref a1_slots_, .ref a1_oldest_, .ref a1_newest_, .ref a1_known_, .ref a1_knownBefore_, .int a1_visible_])), (a1_next_, .inl (k_a1_next, 20000, .inl F_a1_next)), (a1_oldest_, .inl (k_a1_oldest, 64, .inl F_a1_oldest)), (a1_knownBefore_, .inl (k_a1_knownBefore, 64, .inl F_a1_knownBefore))] : va_W)))) := hD
  have hK : va_K (dC, dI) vwCl (([(k_shapes, .int), (k_fixed, .long), (k_firsts, .int), (k_lasts, .int), (k_froms, .int), (k_tos, .int), (k_pool, .long)] : List (ClassId × FieldType)) ++ ((fm (fun i9 => ((st_k_roles i9, .int) : ClassId × FieldType))) ++ ([(k_a1_keys, .long), (k_a1_known, .int), (k_a1_next, .int), (k_a1_oldest, .int), (k_a1_knownBefore, .int)] : List (ClassId × FieldType)))) s := hK
  refine lv_istore_n (lv' := [(3, .int r3), (0, .ref h0), (1, .ref (sa X0)), (2, .ref a1)]) hx hb dc_Ix_provide_12 rfl hl (by decide) rfl (fun ls hl => ?_)
  refine lv_aload_n hx hb dc_Ix_provide_13 rfl (lv_at hl 3 rfl) ?_
  refine lv_aload_n hx hb dc_Ix_provide_14 rfl (lv_at hl 2 rfl) ?_
  refine va_get (D := (dC, dI)) (ci := 10) (v := .int (st_predicate X0)) (C := "StrataBase$Step") (T := tb_St) (N := 17) hx hb hT in_St hown hK hP (8 + X0) (show ((([(h0, .inr (4, [.int size_, .ref shapes_, .ref fixed_, .ref firsts_, .ref lasts_, .ref froms_, .ref tos_, .ref pool_, .int used_])), (shapes_, .inl (k_shapes, 64, .inl F_shapes)), (fixed_, .inl (k_fixed, 64, .inr (.inl F_fixed))), (firsts_, .inl (k_firsts, 64, .inl F_firsts)), (lasts_, .inl (k_lasts, 64, .inl F_lasts)), (froms_, .inl (k_froms, 64, .inl F_froms)), (tos_, .inl (k_tos, 64, .inl F_tos)), (pool_, .inl (k_pool, n_pool, .inr (.inl F_pool)))] : va_W) ++ ((fm (fun i9 => ((sa i9, .inr (10, [.int (st_literal i9), .int (st_scans i9), .int (st_freshOnly i9), .int (st_bound i9), .int (st_live i9), .int (st_soughtMask i9), .int (st_givenMask i9), .int (st_sought i9), .int (st_width i9), .int (st_predicate i9), .int (st_ordered i9), .int (st_shape i9), .long (st_fixed i9), .int (st_from i9), .int (st_to i9), .ref (st_a_roles i9), .ref (st_a_variables i9)])) : Nat × va_E))) ++ ((fm (fun i9 => ((st_a_roles i9, .inl (st_k_roles i9, 6, .inl (st_roles i9))) : Nat × va_E))) ++ ([(a1_keys_, .inl (k_a1_keys, 20000, .inr (.inl F_a1_keys))), (a1_known_, .inl (k_a1_known, 64, .inl F_a1_known)), (a1, .inr (3, [.int a1_size_, .int a1_highest_, .int a1_full_, .ref a1_keys_, .ref a1_stages_, .ref a1_amounts_, .ref a1_predicates_, .ref a1_next_, .ref a1_slots_, .ref a1_oldest_, .ref a1_newest_, .ref a1_known_, .ref a1_knownBefore_, .int a1_visible_])), (a1_next_, .inl (k_a1_next, 20000, .inl F_a1_next)), (a1_oldest_, .inl (k_a1_oldest, 64, .inl F_a1_oldest)), (a1_knownBefore_, .inl (k_a1_knownBefore, 64, .inl F_a1_knownBefore))] : va_W)))) : va_W)[8 + X0]? = some (sa X0, .inr (10, [.int (st_literal X0), .int (st_scans X0), .int (st_freshOnly X0), .int (st_bound X0), .int (st_live X0), .int (st_soughtMask X0), .int (st_givenMask X0), .int (st_sought X0), .int (st_width X0), .int (st_predicate X0), .int (st_ordered X0), .int (st_shape X0), .long (st_fixed X0), .int (st_from X0), .int (st_to X0), .ref (st_a_roles X0), .ref (st_a_variables X0)])) from fm_get hX_X0 rfl) rfl 9 (by decide) (hT _ wd_404) (fun _ h9 => h9) rfl dc_Ix_provide_15 ?_
  refine lv_topi (fun y4 ey4 => ?_)
  have hw := hw y4 ey4
  have hPc := hP.sub (ws' := [(a1, .inr (3, [.int a1_size_, .int a1_highest_, .int a1_full_, .ref a1_keys_, .ref a1_stages_, .ref a1_amounts_, .ref a1_predicates_, .ref a1_next_, .ref a1_slots_, .ref a1_oldest_, .ref a1_newest_, .ref a1_known_, .ref a1_knownBefore_, .int a1_visible_])), (a1_known_, .inl (k_a1_known, 64, .inl F_a1_known))]) [34, 33] rfl
  have hDc := hD.sub (ws' := [(a1, .inr (3, [.int a1_size_, .int a1_highest_, .int a1_full_, .ref a1_keys_, .ref a1_stages_, .ref a1_amounts_, .ref a1_predicates_, .ref a1_next_, .ref a1_slots_, .ref a1_oldest_, .ref a1_newest_, .ref a1_known_, .ref a1_knownBefore_, .int a1_visible_])), (a1_known_, .inl (k_a1_known, 64, .inl F_a1_known))]) [34, 33] (by decide) rfl
  have hKc := hK.sub (tys' := [(k_a1_known, .int)]) [20] rfl
  have hFc := va_free (wc := [(a1, .inr (3, [.int a1_size_, .int a1_highest_, .int a1_full_, .ref a1_keys_, .ref a1_stages_, .ref a1_amounts_, .ref a1_predicates_, .ref a1_next_, .ref a1_slots_, .ref a1_oldest_, .ref a1_newest_, .ref a1_known_, .ref a1_knownBefore_, .int a1_visible_])), (a1_known_, .inl (k_a1_known, 64, .inl F_a1_known))]) hD hS hA [34, 33] rfl
  refine va_calli (va_runV (As := [.int y4]) (rest := []) ⟨hx, hb, hml, hown, hT⟩ (met_Fa_lastOf l dC dI a1 a1_keys_ a1_stages_ a1_amounts_ a1_predicates_ a1_next_ a1_slots_ a1_oldest_ a1_newest_ a1_known_ a1_knownBefore_ y4 a1_size_ a1_highest_ a1_full_ a1_visible_ F_a1_known k_a1_known H.size hw) (cwV 1 hT (gd_V wd_1145 wd_1146 wd_1147 wd_8 wd_1148) rfl rfl rfl (by decide +kernel) ⟨Nat.le_of_ble_eq_true rfl, Nat.le_of_ble_eq_true rfl⟩) ⟨fun a U g mk q => by obtain ⟨q0, q1, qP, qK, qD⟩ := q; exact ⟨q0, q1, qP, va_K.moved (u := U) (U := U.calling g mk a) (Vm.Alike.refl U.vm) qK, qD⟩, va_recv hK hP (q0 := 34) (ci := 3) rfl rfl, fun U hU hW => ⟨rfl, by rw [hU], by rw [hU]; exact hPc, va_K.moved hW.alike hKc, hDc.weaken (fun _ _ _ _ => trivial)⟩⟩ rfl rfl hl.1 rfl (lv_room (Nat.le_of_ble_eq_true rfl)) dc_Ix_provide_18 ⟨(Nat.le_of_ble_eq_true rfl), (Nat.le_of_ble_eq_true rfl)⟩) hS (fun q _ h => hFc q h) hFc (fun r5 _ t H1 locs ht hvm hw hB hz1 hk1 hS => ?_)
  obtain ⟨hP1, hK1, hD1⟩ := hB
  rw [ht] at hP1
  have hK1 := va_K.moved hvm.symm hK1
  obtain ⟨hP, hD⟩ := va_join (wr := (([(h0, .inr (4, [.int size_, .ref shapes_, .ref fixed_, .ref firsts_, .ref lasts_, .ref froms_, .ref tos_, .ref pool_, .int used_])), (shapes_, .inl (k_shapes, 64, .inl F_shapes)), (fixed_, .inl (k_fixed, 64, .inr (.inl F_fixed))), (firsts_, .inl (k_firsts, 64, .inl F_firsts)), (lasts_, .inl (k_lasts, 64, .inl F_lasts)), (froms_, .inl (k_froms, 64, .inl F_froms)), (tos_, .inl (k_tos, 64, .inl F_tos)), (pool_, .inl (k_pool, n_pool, .inr (.inl F_pool)))] : va_W) ++ ((fm (fun i9 => ((sa i9, .inr (10, [.int (st_literal i9), .int (st_scans i9), .int (st_freshOnly i9), .int (st_bound i9), .int (st_live i9), .int (st_soughtMask i9), .int (st_givenMask i9), .int (st_sought i9), .int (st_width i9), .int (st_predicate i9), .int (st_ordered i9), .int (st_shape i9), .long (st_fixed i9), .int (st_from i9), .int (st_to i9), .ref (st_a_roles i9), .ref (st_a_variables i9)])) : Nat × va_E))) ++ ((fm (fun i9 => ((st_a_roles i9, .inl (st_k_roles i9, 6, .inl (st_roles i9))) : Nat × va_E))) ++ ([(a1_keys_, .inl (k_a1_keys, 20000, .inr (.inl F_a1_keys))), (a1_next_, .inl (k_a1_next, 20000, .inl F_a1_next)), (a1_oldest_, .inl (k_a1_oldest, 64, .inl F_a1_oldest)), (a1_knownBefore_, .inl (k_a1_knownBefore, 64, .inl F_a1_knownBefore))] : va_W))))) (w1 := [(a1, .inr (3, [.int a1_size_, .int a1_highest_, .int a1_full_, .ref a1_keys_, .ref a1_stages_, .ref a1_amounts_, .ref a1_predicates_, .ref a1_next_, .ref a1_slots_, .ref a1_oldest_, .ref a1_newest_, .ref a1_known_, .ref a1_knownBefore_, .int a1_visible_])), (a1_known_, .inl (k_a1_known, 64, .inl F_a1_known))]) hP hD [34, 33] [0, 1, 2, 3, 4, 5, 6, 7, 8, 9, 10, 11, 12, 13, 14, 15, 16, 17, 18, 19, 20, 21, 22, 23, 24, 25, 26, 27, 28, 29, 30, 31, 32, 35, 36, 37] rfl rfl (by decide) (by decide) hk1 hFc hP1 hD1
  have hK := (hK.sub (tys' := (([(k_shapes, .int), (k_fixed, .long), (k_firsts, .int), (k_lasts, .int), (k_froms, .int), (k_tos, .int), (k_pool, .long)] : List (ClassId × FieldType)) ++ ((fm (fun i9 => ((st_k_roles i9, .int) : ClassId × FieldType))) ++ ([(k_a1_keys, .long), (k_a1_next, .int), (k_a1_oldest, .int), (k_a1_knownBefore, .int)] : List (ClassId × FieldType))))) [0, 1, 2, 3, 4, 5, 6, 7, 8, 9, 10, 11, 12, 13, 14, 15, 16, 17, 18, 19, 21, 22, 23] rfl).app hK1
  generalize H1 = H at hP hS ⊢
  have hP : va_P (dC, dI) vwCl (([(h0, .inr (4, [.int size_, .ref shapes_, .ref fixed_, .ref firsts_, .ref lasts_, .ref froms_, .ref tos_, .ref pool_, .int used_])), (shapes_, .inl (k_shapes, 64, .inl F_shapes)), (fixed_, .inl (k_fixed, 64, .inr (.inl F_fixed))), (firsts_, .inl (k_firsts, 64, .inl F_firsts)), (lasts_, .inl (k_lasts, 64, .inl F_lasts)), (froms_, .inl (k_froms, 64, .inl F_froms)), (tos_, .inl (k_tos, 64, .inl F_tos)), (pool_, .inl (k_pool, n_pool, .inr (.inl F_pool)))] : va_W) ++ ((fm (fun i9 => ((sa i9, .inr (10, [.int (st_literal i9), .int (st_scans i9), .int (st_freshOnly i9), .int (st_bound i9), .int (st_live i9), .int (st_soughtMask i9), .int (st_givenMask i9), .int (st_sought i9), .int (st_width i9), .int (st_predicate i9), .int (st_ordered i9), .int (st_shape i9), .long (st_fixed i9), .int (st_from i9), .int (st_to i9), .ref (st_a_roles i9), .ref (st_a_variables i9)])) : Nat × va_E))) ++ ((fm (fun i9 => ((st_a_roles i9, .inl (st_k_roles i9, 6, .inl (st_roles i9))) : Nat × va_E))) ++ ([(a1_keys_, .inl (k_a1_keys, 20000, .inr (.inl F_a1_keys))), (a1_next_, .inl (k_a1_next, 20000, .inl F_a1_next)), (a1_oldest_, .inl (k_a1_oldest, 64, .inl F_a1_oldest)), (a1_knownBefore_, .inl (k_a1_knownBefore, 64, .inl F_a1_knownBefore)), (a1, .inr (3, [.int a1_size_, .int a1_highest_, .int a1_full_, .ref a1_keys_, .ref a1_stages_, .ref a1_amounts_, .ref a1_predicates_, .ref a1_next_, .ref a1_slots_, .ref a1_oldest_, .ref a1_newest_, .ref a1_known_, .ref a1_knownBefore_, .int a1_visible_])), (a1_known_, .inl (k_a1_known, 64, .inl F_a1_known))] : va_W)))) H := hP
  have hD : va_D A (([(h0, .inr (4, [.int size_, .ref shapes_, .ref fixed_, .ref firsts_, .ref lasts_, .ref froms_, .ref tos_, .ref pool_, .int used_])), (shapes_, .inl (k_shapes, 64, .inl F_shapes)), (fixed_, .inl (k_fixed, 64, .inr (.inl F_fixed))), (firsts_, .inl (k_firsts, 64, .inl F_firsts)), (lasts_, .inl (k_lasts, 64, .inl F_lasts)), (froms_, .inl (k_froms, 64, .inl F_froms)), (tos_, .inl (k_tos, 64, .inl F_tos)), (pool_, .inl (k_pool, n_pool, .inr (.inl F_pool)))] : va_W) ++ ((fm (fun i9 => ((sa i9, .inr (10, [.int (st_literal i9), .int (st_scans i9), .int (st_freshOnly i9), .int (st_bound i9), .int (st_live i9), .int (st_soughtMask i9), .int (st_givenMask i9), .int (st_sought i9), .int (st_width i9), .int (st_predicate i9), .int (st_ordered i9), .int (st_shape i9), .long (st_fixed i9), .int (st_from i9), .int (st_to i9), .ref (st_a_roles i9), .ref (st_a_variables i9)])) : Nat × va_E))) ++ ((fm (fun i9 => ((st_a_roles i9, .inl (st_k_roles i9, 6, .inl (st_roles i9))) : Nat × va_E))) ++ ([(a1_keys_, .inl (k_a1_keys, 20000, .inr (.inl F_a1_keys))), (a1_next_, .inl (k_a1_next, 20000, .inl F_a1_next)), (a1_oldest_, .inl (k_a1_oldest, 64, .inl F_a1_oldest)), (a1_knownBefore_, .inl (k_a1_knownBefore, 64, .inl F_a1_knownBefore)), (a1, .inr (3, [.int a1_size_, .int a1_highest_, .int a1_full_, .ref a1_keys_, .ref a1_stages_, .ref a1_amounts_, .ref a1_predicates_, .ref a1_next_, .ref a1_slots_, .ref a1_oldest_, .ref a1_newest_, .ref a1_known_, .ref a1_knownBefore_, .int a1_visible_])), (a1_known_, .inl (k_a1_known, 64, .inl F_a1_known))] : va_W)))) := hD
  have hK : va_K (dC, dI) vwCl (([(k_shapes, .int), (k_fixed, .long), (k_firsts, .int), (k_lasts, .int), (k_froms, .int), (k_tos, .int), (k_pool, .long)] : List (ClassId × FieldType)) ++ ((fm (fun i9 => ((st_k_roles i9, .int) : ClassId × FieldType))) ++ ([(k_a1_keys, .long), (k_a1_next, .int), (k_a1_oldest, .int), (k_a1_knownBefore, .int), (k_a1_known, .int)] : List (ClassId × FieldType)))) s := hK
  refine lv_istore (lv' := [(4, .int r5), (3, .int r3), (0, .ref h0), (1, .ref (sa X0)), (2, .ref a1)]) hx hb dc_Ix_provide_21 hl (by decide) rfl (fun ls hl => ?_)
  refine lv_iconst (v := 0) hx hb dc_Ix_provide_23 (by decide) ?_
  refine lv_istore (lv' := [(5, .int 0), (4, .int r5), (3, .int r3), (0, .ref h0), (1, .ref (sa X0)), (2, .ref a1)]) hx hb dc_Ix_provide_24 hl (by decide) rfl (fun ls hl => ?_)
  obtain ⟨n9, hw⟩ := hw
  refine lp_fuel (σ := Int32) _ (fun x9 H locs ls => match x9 with | v7 => va_K (dC, dI) vwCl (([(k_shapes, .int), (k_fixed, .long), (k_firsts, .int), (k_lasts, .int), (k_froms, .int), (k_tos, .int), (k_pool, .long)] : List (ClassId × FieldType)) ++ ((fm (fun i9 => ((st_k_roles i9, .int) : ClassId × FieldType))) ++ ([(k_a1_keys, .long), (k_a1_next, .int), (k_a1_oldest, .int), (k_a1_known, .int), (k_a1_knownBefore, .int)] : List (ClassId × FieldType)))) s ∧ va_P (dC, dI) vwCl (([(h0, .inr (4, [.int size_, .ref shapes_, .ref fixed_, .ref firsts_, .ref lasts_, .ref froms_, .ref tos_, .ref pool_, .int used_])), (shapes_, .inl (k_shapes, 64, .inl F_shapes)), (fixed_, .inl (k_fixed, 64, .inr (.inl F_fixed))), (firsts_, .inl (k_firsts, 64, .inl F_firsts)), (lasts_, .inl (k_lasts, 64, .inl F_lasts)), (froms_, .inl (k_froms, 64, .inl F_froms)), (tos_, .inl (k_tos, 64, .inl F_tos)), (pool_, .inl (k_pool, n_pool, .inr (.inl F_pool)))] : va_W) ++ ((fm (fun i9 => ((sa i9, .inr (10, [.int (st_literal i9), .int (st_scans i9), .int (st_freshOnly i9), .int (st_bound i9), .int (st_live i9), .int (st_soughtMask i9), .int (st_givenMask i9), .int (st_sought i9), .int (st_width i9), .int (st_predicate i9), .int (st_ordered i9), .int (st_shape i9), .long (st_fixed i9), .int (st_from i9), .int (st_to i9), .ref (st_a_roles i9), .ref (st_a_variables i9)])) : Nat × va_E))) ++ ((fm (fun i9 => ((st_a_roles i9, .inl (st_k_roles i9, 6, .inl (st_roles i9))) : Nat × va_E))) ++ ([(a1, .inr (3, [.int a1_size_, .int a1_highest_, .int a1_full_, .ref a1_keys_, .ref a1_stages_, .ref a1_amounts_, .ref a1_predicates_, .ref a1_next_, .ref a1_slots_, .ref a1_oldest_, .ref a1_newest_, .ref a1_known_, .ref a1_knownBefore_, .int a1_visible_])), (a1_keys_, .inl (k_a1_keys, 20000, .inr (.inl F_a1_keys))), (a1_next_, .inl (k_a1_next, 20000, .inl F_a1_next)), (a1_oldest_, .inl (k_a1_oldest, 64, .inl F_a1_oldest)), (a1_known_, .inl (k_a1_known, 64, .inl F_a1_known)), (a1_knownBefore_, .inl (k_a1_knownBefore, 64, .inl F_a1_knownBefore))] : va_W)))) H ∧ va_D A (([(h0, .inr (4, [.int size_, .ref shapes_, .ref fixed_, .ref firsts_, .ref lasts_, .ref froms_, .ref tos_, .ref pool_, .int used_])), (shapes_, .inl (k_shapes, 64, .inl F_shapes)), (fixed_, .inl (k_fixed, 64, .inr (.inl F_fixed))), (firsts_, .inl (k_firsts, 64, .inl F_firsts)), (lasts_, .inl (k_lasts, 64, .inl F_lasts)), (froms_, .inl (k_froms, 64, .inl F_froms)), (tos_, .inl (k_tos, 64, .inl F_tos)), (pool_, .inl (k_pool, n_pool, .inr (.inl F_pool)))] : va_W) ++ ((fm (fun i9 => ((sa i9, .inr (10, [.int (st_literal i9), .int (st_scans i9), .int (st_freshOnly i9), .int (st_bound i9), .int (st_live i9), .int (st_soughtMask i9), .int (st_givenMask i9), .int (st_sought i9), .int (st_width i9), .int (st_predicate i9), .int (st_ordered i9), .int (st_shape i9), .long (st_fixed i9), .int (st_from i9), .int (st_to i9), .ref (st_a_roles i9), .ref (st_a_variables i9)])) : Nat × va_E))) ++ ((fm (fun i9 => ((st_a_roles i9, .inl (st_k_roles i9, 6, .inl (st_roles i9))) : Nat × va_E))) ++ ([(a1, .inr (3, [.int a1_size_, .int a1_highest_, .int a1_full_, .ref a1_keys_, .ref a1_stages_, .ref a1_amounts_, .ref a1_predicates_, .ref a1_next_, .ref a1_slots_, .ref a1_oldest_, .ref a1_newest_, .ref a1_known_, .ref a1_knownBefore_, .int a1_visible_])), (a1_keys_, .inl (k_a1_keys, 20000, .inr (.inl F_a1_keys))), (a1_next_, .inl (k_a1_next, 20000, .inl F_a1_next)), (a1_oldest_, .inl (k_a1_oldest, 64, .inl F_a1_oldest)), (a1_known_, .inl (k_a1_known, 64, .inl F_a1_known)), (a1_knownBefore_, .inl (k_a1_knownBefore, 64, .inl F_a1_knownBefore))] : va_W)))) ∧ va_S A s.heap H locs ∧ lv_has ls 6 [(5, .int v7), (4, .int r5), (3, .int r3), (0, .ref h0), (1, .ref (sa X0)), (2, .ref a1)]) (fun x9 h9 => by simp only [lw_met_Ix_provide_26] at h9) ?_ hw ⟨hK.sub [0, 1, 2, 3, 4, 5, 6, 7, 8, 9, 10, 11, 12, 13, 14, 15, 16, 17, 18, 19, 20, 21, 23, 22] rfl, hP.sub [0, 1, 2, 3, 4, 5, 6, 7, 8, 9, 10, 11, 12, 13, 14, 15, 16, 17, 18, 19, 20, 21, 22, 23, 24, 25, 26, 27, 28, 29, 30, 31, 36, 32, 33, 34, 37, 35] rfl, hD.sub [0, 1, 2, 3, 4, 5, 6, 7, 8, 9, 10, 11, 12, 13, 14, 15, 16, 17, 18, 19, 20, 21, 22, 23, 24, 25, 26, 27, 28, 29, 30, 31, 36, 32, 33, 34, 37, 35] (by decide) rfl, hS, lv_sub hl [0, 1, 2, 3, 4, 5] rfl⟩
  intro n6_ x9 hw ih6 H locs ls hI
  obtain ⟨v7, rfl⟩ : ∃ z9, z9 = x9 := ⟨_, rfl⟩
  obtain ⟨hK, hP, hD, hS, hl⟩ := hI
  unfold lw_met_Ix_provide_26 at hw
  refine lv_iload hx hb dc_Ix_provide_26 (lv_at hl 0 rfl) ?_
  refine lv_aload_n hx hb dc_Ix_provide_28 rfl (lv_at hl 3 rfl) ?_
  refine va_get (D := (dC, dI)) (ci := 4) (v := .int size_) (C := "StrataBase$Indexes") (T := tb_Ix) (N := 9) hx hb hT in_Ix hown hK hP 0 rfl rfl 0 (by decide) (hT _ wd_352) (fun _ h9 => h9) rfl dc_Ix_provide_29 ?_
  refine jn_st (σ := Unit) (pc2 := 93) (fun x9 => jw_met_Ix_provide_93 post v7 size_ st_shape X0 F_shapes st_fixed F_fixed F_firsts r3 F_lasts r5 F_froms used_ F_tos n_pool F_pool F_a1_keys F_a1_next F_gaps_Ix st_ordered st_roles st_from st_to x9) (fun _ => []) (fun _ H locs ls => va_K (dC, dI) vwCl (([(k_shapes, .int), (k_fixed, .long), (k_firsts, .int), (k_lasts, .int), (k_froms, .int), (k_tos, .int), (k_pool, .long)] : List (ClassId × FieldType)) ++ ((fm (fun i9 => ((st_k_roles i9, .int) : ClassId × FieldType))) ++ ([(k_a1_keys, .long), (k_a1_next, .int), (k_a1_oldest, .int), (k_a1_known, .int), (k_a1_knownBefore, .int)] : List (ClassId × FieldType)))) s ∧ va_P (dC, dI) vwCl (([(h0, .inr (4, [.int size_, .ref shapes_, .ref fixed_, .ref firsts_, .ref lasts_, .ref froms_, .ref tos_, .ref pool_, .int used_])), (shapes_, .inl (k_shapes, 64, .inl F_shapes)), (fixed_, .inl (k_fixed, 64, .inr (.inl F_fixed))), (firsts_, .inl (k_firsts, 64, .inl F_firsts)), (lasts_, .inl (k_lasts, 64, .inl F_lasts)), (froms_, .inl (k_froms, 64, .inl F_froms)), (tos_, .inl (k_tos, 64, .inl F_tos)), (pool_, .inl (k_pool, n_pool, .inr (.inl F_pool)))] : va_W) ++ ((fm (fun i9 => ((sa i9, .inr (10, [.int (st_literal i9), .int (st_scans i9), .int (st_freshOnly i9), .int (st_bound i9), .int (st_live i9), .int (st_soughtMask i9), .int (st_givenMask i9), .int (st_sought i9), .int (st_width i9), .int (st_predicate i9), .int (st_ordered i9), .int (st_shape i9), .long (st_fixed i9), .int (st_from i9), .int (st_to i9), .ref (st_a_roles i9), .ref (st_a_variables i9)])) : Nat × va_E))) ++ ((fm (fun i9 => ((st_a_roles i9, .inl (st_k_roles i9, 6, .inl (st_roles i9))) : Nat × va_E))) ++ ([(a1, .inr (3, [.int a1_size_, .int a1_highest_, .int a1_full_, .ref a1_keys_, .ref a1_stages_, .ref a1_amounts_, .ref a1_predicates_, .ref a1_next_, .ref a1_slots_, .ref a1_oldest_, .ref a1_newest_, .ref a1_known_, .ref a1_knownBefore_, .int a1_visible_])), (a1_keys_, .inl (k_a1_keys, 20000, .inr (.inl F_a1_keys))), (a1_next_, .inl (k_a1_next, 20000, .inl F_a1_next)), (a1_oldest_, .inl (k_a1_oldest, 64, .inl F_a1_oldest)), (a1_known_, .inl (k_a1_known, 64, .inl F_a1_known)), (a1_knownBefore_, .inl (k_a1_knownBefore, 64, .inl F_a1_knownBefore))] : va_W)))) H ∧ va_D A (([(h0, .inr (4, [.int size_, .ref shapes_, .ref fixed_, .ref firsts_, .ref lasts_, .ref froms_, .ref tos_, .ref pool_, .int used_])), (shapes_, .inl (k_shapes, 64, .inl F_shapes)), (fixed_, .inl (k_fixed, 64, .inr (.inl F_fixed))), (firsts_, .inl (k_firsts, 64, .inl F_firsts)), (lasts_, .inl (k_lasts, 64, .inl F_lasts)), (froms_, .inl (k_froms, 64, .inl F_froms)), (tos_, .inl (k_tos, 64, .inl F_tos)), (pool_, .inl (k_pool, n_pool, .inr (.inl F_pool)))] : va_W) ++ ((fm (fun i9 => ((sa i9, .inr (10, [.int (st_literal i9), .int (st_scans i9), .int (st_freshOnly i9), .int (st_bound i9), .int (st_live i9), .int (st_soughtMask i9), .int (st_givenMask i9), .int (st_sought i9), .int (st_width i9), .int (st_predicate i9), .int (st_ordered i9), .int (st_shape i9), .long (st_fixed i9), .int (st_from i9), .int (st_to i9), .ref (st_a_roles i9), .ref (st_a_variables i9)])) : Nat × va_E))) ++ ((fm (fun i9 => ((st_a_roles i9, .inl (st_k_roles i9, 6, .inl (st_roles i9))) : Nat × va_E))) ++ ([(a1, .inr (3, [.int a1_size_, .int a1_highest_, .int a1_full_, .ref a1_keys_, .ref a1_stages_, .ref a1_amounts_, .ref a1_predicates_, .ref a1_next_, .ref a1_slots_, .ref a1_oldest_, .ref a1_newest_, .ref a1_known_, .ref a1_knownBefore_, .int a1_visible_])), (a1_keys_, .inl (k_a1_keys, 20000, .inr (.inl F_a1_keys))), (a1_next_, .inl (k_a1_next, 20000, .inl F_a1_next)), (a1_oldest_, .inl (k_a1_oldest, 64, .inl F_a1_oldest)), (a1_known_, .inl (k_a1_known, 64, .inl F_a1_known)), (a1_knownBefore_, .inl (k_a1_knownBefore, 64, .inl F_a1_knownBefore))] : va_W)))) ∧ va_S A s.heap H locs ∧ lv_has ls 6 [(0, .ref h0), (1, .ref (sa X0)), (2, .ref a1), (3, .int r3), (4, .int r5), (5, .int v7)]) ?_ (fun k8 => ?_)
  rotate_left
  · refine lv_icmp_ge (tgt := 93) hx hb dc_Ix_provide_32 (by decide) (fun h32 => ?_) (fun h32 => ?_)
    · have hw := hw.1 h32
      exact k8 () hw _ _ _ ⟨hK.sub [0, 1, 2, 3, 4, 5, 6, 7, 8, 9, 10, 11, 12, 13, 14, 15, 16, 17, 18, 19, 20, 21, 22, 23] rfl, hP.sub [0, 1, 2, 3, 4, 5, 6, 7, 8, 9, 10, 11, 12, 13, 14, 15, 16, 17, 18, 19, 20, 21, 22, 23, 24, 25, 26, 27, 28, 29, 30, 31, 32, 33, 34, 35, 36, 37] rfl, hD.sub [0, 1, 2, 3, 4, 5, 6, 7, 8, 9, 10, 11, 12, 13, 14, 15, 16, 17, 18, 19, 20, 21, 22, 23, 24, 25, 26, 27, 28, 29, 30, 31, 32, 33, 34, 35, 36, 37] (by decide) rfl, hS, lv_sub hl [3, 4, 5, 2, 1, 0] rfl⟩
    · have hw := hw.2 h32
      refine lv_aload_n hx hb dc_Ix_provide_35 rfl (lv_at hl 3 rfl) ?_
      refine va_get (D := (dC, dI)) (ci := 4) (v := .ref shapes_) (C := "StrataBase$Indexes") (T := tb_Ix) (N := 9) hx hb hT in_Ix hown hK hP 0 rfl rfl 1 (by decide) (hT _ wd_353) (fun _ h9 => h9) rfl dc_Ix_provide_36 ?_
      refine lv_iload hx hb dc_Ix_provide_39 (lv_at hl 0 rfl) ?_
      obtain ⟨hv9, hw⟩ := hw
      refine va_iald hx hb hK hP 1 0 rfl rfl hv9 dc_Ix_provide_41 ?_
      refine lv_topi (fun y10 ey10 => ?_)
      have hw := hw y10 ey10
      refine lv_aload_n hx hb dc_Ix_provide_42 rfl (lv_at hl 4 rfl) ?_
      refine va_get (D := (dC, dI)) (ci := 10) (v := .int (st_shape X0)) (C := "StrataBase$Step") (T := tb_St) (N := 17) hx hb hT in_St hown hK hP (8 + X0) (show ((([(h0, .inr (4, [.int size_, .ref shapes_, .ref fixed_, .ref firsts_, .ref lasts_, .ref froms_, .ref tos_, .ref pool_, .int used_])), (shapes_, .inl (k_shapes, 64, .inl F_shapes)), (fixed_, .inl (k_fixed, 64, .inr (.inl F_fixed))), (firsts_, .inl (k_firsts, 64, .inl F_firsts)), (lasts_, .inl (k_lasts, 64, .inl F_lasts)), (froms_, .inl (k_froms, 64, .inl F_froms)), (tos_, .inl (k_tos, 64, .inl F_tos)), (pool_, .inl (k_pool, n_pool, .inr (.inl F_pool)))] : va_W) ++ ((fm (fun i9 => ((sa i9, .inr (10, [.int (st_literal i9), .int (st_scans i9), .int (st_freshOnly i9), .int (st_bound i9), .int (st_live i9), .int (st_soughtMask i9), .int (st_givenMask i9), .int (st_sought i9), .int (st_width i9), .int (st_predicate i9), .int (st_ordered i9), .int (st_shape i9), .long (st_fixed i9), .int (st_from i9), .int (st_to i9), .ref (st_a_roles i9), .ref (st_a_variables i9)])) : Nat × va_E))) ++ ((fm (fun i9 => ((st_a_roles i9, .inl (st_k_roles i9, 6, .inl (st_roles i9))) : Nat × va_E))) ++ ([(a1, .inr (3, [.int a1_size_, .int a1_highest_, .int a1_full_, .ref a1_keys_, .ref a1_stages_, .ref a1_amounts_, .ref a1_predicates_, .ref a1_next_, .ref a1_slots_, .ref a1_oldest_, .ref a1_newest_, .ref a1_known_, .ref a1_knownBefore_, .int a1_visible_])), (a1_keys_, .inl (k_a1_keys, 20000, .inr (.inl F_a1_keys))), (a1_next_, .inl (k_a1_next, 20000, .inl F_a1_next)), (a1_oldest_, .inl (k_a1_oldest, 64, .inl F_a1_oldest)), (a1_known_, .inl (k_a1_known, 64, .inl F_a1_known)), (a1_knownBefore_, .inl (k_a1_knownBefore, 64, .inl F_a1_knownBefore))] : va_W)))) : va_W)[8 + X0]? = some (sa X0, .inr (10, [.int (st_literal X0), .int (st_scans X0), .int (st_freshOnly X0), .int (st_bound X0), .int (st_live X0), .int (st_soughtMask X0), .int (st_givenMask X0), .int (st_sought X0), .int (st_width X0), .int (st_predicate X0), .int (st_ordered X0), .int (st_shape X0), .long (st_fixed X0), .int (st_from X0), .int (st_to X0), .ref (st_a_roles X0), .ref (st_a_variables X0)])) from fm_get hX_X0 rfl) rfl 11 (by decide) (hT _ wd_409) (fun _ h9 => h9) rfl dc_Ix_provide_43 ?_
      refine lv_topi (fun y11 ey11 => ?_)
      have hw := hw y11 ey11
      refine lv_icmp_ne (tgt := 87) hx hb dc_Ix_provide_46 (by decide) (fun h46 => ?_) (fun h46 => ?_)
      · have hw := hw.2 h46
        refine lv_iinc (k := 0) (v := v7 + 1) (lv' := [(5, .int (v7 + 1)), (4, .int r5), (3, .int r3), (0, .ref h0), (1, .ref (sa X0)), (2, .ref a1)]) hx hb dc_Ix_provide_87 hl rfl rfl (by decide) rfl (fun ls hl => ?_)
        refine lv_goto (tgt := 26) hx hb dc_Ix_provide_90 (by decide) ?_
        exact ih6 (v7 + 1) hw _ _ _ ⟨hK.sub [0, 1, 2, 3, 4, 5, 6, 7, 8, 9, 10, 11, 12, 13, 14, 15, 16, 17, 18, 19, 20, 21, 22, 23] rfl, hP.sub [0, 1, 2, 3, 4, 5, 6, 7, 8, 9, 10, 11, 12, 13, 14, 15, 16, 17, 18, 19, 20, 21, 22, 23, 24, 25, 26, 27, 28, 29, 30, 31, 32, 33, 34, 35, 36, 37] rfl, hD.sub [0, 1, 2, 3, 4, 5, 6, 7, 8, 9, 10, 11, 12, 13, 14, 15, 16, 17, 18, 19, 20, 21, 22, 23, 24, 25, 26, 27, 28, 29, 30, 31, 32, 33, 34, 35, 36, 37] (by decide) rfl, hS, lv_sub hl [0, 1, 2, 3, 4, 5] rfl⟩
      · have hw := hw.1 h46
        refine lv_aload_n hx hb dc_Ix_provide_49 rfl (lv_at hl 3 rfl) ?_
        refine va_get (D := (dC, dI)) (ci := 4) (v := .ref fixed_) (C := "StrataBase$Indexes") (T := tb_Ix) (N := 9) hx hb hT in_Ix hown hK hP 0 rfl rfl 2 (by decide) (hT _ wd_354) (fun _ h9 => h9) rfl dc_Ix_provide_50 ?_
        refine lv_iload hx hb dc_Ix_provide_53 (lv_at hl 0 rfl) ?_
        obtain ⟨hv12, hw⟩ := hw
        refine va_lald hx hb hK hP 2 1 rfl rfl hv12 dc_Ix_provide_55 ?_
        refine lv_topl (fun y13 ey13 => ?_)
        have hw := hw y13 ey13
        refine lv_aload_n hx hb dc_Ix_provide_56 rfl (lv_at hl 4 rfl) ?_
        refine va_get (D := (dC, dI)) (ci := 10) (v := .long (st_fixed X0)) (C := "StrataBase$Step") (T := tb_St) (N := 17) hx hb hT in_St hown hK hP (8 + X0) (show ((([(h0, .inr (4, [.int size_, .ref shapes_, .ref fixed_, .ref firsts_, .ref lasts_, .ref froms_, .ref tos_, .ref pool_, .int used_])), (shapes_, .inl (k_shapes, 64, .inl F_shapes)), (fixed_, .inl (k_fixed, 64, .inr (.inl F_fixed))), (firsts_, .inl (k_firsts, 64, .inl F_firsts)), (lasts_, .inl (k_lasts, 64, .inl F_lasts)), (froms_, .inl (k_froms, 64, .inl F_froms)), (tos_, .inl (k_tos, 64, .inl F_tos)), (pool_, .inl (k_pool, n_pool, .inr (.inl F_pool)))] : va_W) ++ ((fm (fun i9 => ((sa i9, .inr (10, [.int (st_literal i9), .int (st_scans i9), .int (st_freshOnly i9), .int (st_bound i9), .int (st_live i9), .int (st_soughtMask i9), .int (st_givenMask i9), .int (st_sought i9), .int (st_width i9), .int (st_predicate i9), .int (st_ordered i9), .int (st_shape i9), .long (st_fixed i9), .int (st_from i9), .int (st_to i9), .ref (st_a_roles i9), .ref (st_a_variables i9)])) : Nat × va_E))) ++ ((fm (fun i9 => ((st_a_roles i9, .inl (st_k_roles i9, 6, .inl (st_roles i9))) : Nat × va_E))) ++ ([(a1, .inr (3, [.int a1_size_, .int a1_highest_, .int a1_full_, .ref a1_keys_, .ref a1_stages_, .ref a1_amounts_, .ref a1_predicates_, .ref a1_next_, .ref a1_slots_, .ref a1_oldest_, .ref a1_newest_, .ref a1_known_, .ref a1_knownBefore_, .int a1_visible_])), (a1_keys_, .inl (k_a1_keys, 20000, .inr (.inl F_a1_keys))), (a1_next_, .inl (k_a1_next, 20000, .inl F_a1_next)), (a1_oldest_, .inl (k_a1_oldest, 64, .inl F_a1_oldest)), (a1_known_, .inl (k_a1_known, 64, .inl F_a1_known)), (a1_knownBefore_, .inl (k_a1_knownBefore, 64, .inl F_a1_knownBefore))] : va_W)))) : va_W)[8 + X0]? = some (sa X0, .inr (10, [.int (st_literal X0), .int (st_scans X0), .int (st_freshOnly X0), .int (st_bound X0), .int (st_live X0), .int (st_soughtMask X0), .int (st_givenMask X0), .int (st_sought X0), .int (st_width X0), .int (st_predicate X0), .int (st_ordered X0), .int (st_shape X0), .long (st_fixed X0), .int (st_from X0), .int (st_to X0), .ref (st_a_roles X0), .ref (st_a_variables X0)])) from fm_get hX_X0 rfl) rfl 12 (by decide) (hT _ wd_411) (fun _ h9 => h9) rfl dc_Ix_provide_57 ?_
        refine lv_topl (fun y14 ey14 => ?_)
        have hw := hw y14 ey14
        refine W.lcmp hx hb dc_Ix_provide_60 ?_
        refine lv_if_ne (tgt := 87) hx hb dc_Ix_provide_61 (by decide) (fun h61 => ?_) (fun h61 => ?_)
        · have h61 : ¬ (y13 = y14) := fun z9 => h61 ((lg_cmp_eq _ _).mpr z9)
          have hw := hw.2 h61
          refine lv_iinc (k := 0) (v := v7 + 1) (lv' := [(5, .int (v7 + 1)), (4, .int r5), (3, .int r3), (0, .ref h0), (1, .ref (sa X0)), (2, .ref a1)]) hx hb dc_Ix_provide_87 hl rfl rfl (by decide) rfl (fun ls hl => ?_)
          refine lv_goto (tgt := 26) hx hb dc_Ix_provide_90 (by decide) ?_
          exact ih6 (v7 + 1) hw _ _ _ ⟨hK.sub [0, 1, 2, 3, 4, 5, 6, 7, 8, 9, 10, 11, 12, 13, 14, 15, 16, 17, 18, 19, 20, 21, 22, 23] rfl, hP.sub [0, 1, 2, 3, 4, 5, 6, 7, 8, 9, 10, 11, 12, 13, 14, 15, 16, 17, 18, 19, 20, 21, 22, 23, 24, 25, 26, 27, 28, 29, 30, 31, 32, 33, 34, 35, 36, 37] rfl, hD.sub [0, 1, 2, 3, 4, 5, 6, 7, 8, 9, 10, 11, 12, 13, 14, 15, 16, 17, 18, 19, 20, 21, 22, 23, 24, 25, 26, 27, 28, 29, 30, 31, 32, 33, 34, 35, 36, 37] (by decide) rfl, hS, lv_sub hl [0, 1, 2, 3, 4, 5] rfl⟩
        · have h61 : y13 = y14 := (lg_cmp_eq _ _).mp h61
          have hw := hw.1 h61
          refine lv_aload_n hx hb dc_Ix_provide_64 rfl (lv_at hl 3 rfl) ?_
          refine va_get (D := (dC, dI)) (ci := 4) (v := .ref firsts_) (C := "StrataBase$Indexes") (T := tb_Ix) (N := 9) hx hb hT in_Ix hown hK hP 0 rfl rfl 3 (by decide) (hT _ wd_355) (fun _ h9 => h9) rfl dc_Ix_provide_65 ?_
          refine lv_iload hx hb dc_Ix_provide_68 (lv_at hl 0 rfl) ?_
          obtain ⟨hv15, hw⟩ := hw
          refine va_iald hx hb hK hP 3 2 rfl rfl hv15 dc_Ix_provide_70 ?_
          refine lv_topi (fun y16 ey16 => ?_)
          have hw := hw y16 ey16
          refine lv_iload_n hx hb dc_Ix_provide_71 rfl (lv_at hl 2 rfl) ?_
          refine lv_icmp_ne (tgt := 87) hx hb dc_Ix_provide_72 (by decide) (fun h72 => ?_) (fun h72 => ?_)
          · have hw := hw.2 h72
            refine lv_iinc (k := 0) (v := v7 + 1) (lv' := [(5, .int (v7 + 1)), (4, .int r5), (3, .int r3), (0, .ref h0), (1, .ref (sa X0)), (2, .ref a1)]) hx hb dc_Ix_provide_87 hl rfl rfl (by decide) rfl (fun ls hl => ?_)
            refine lv_goto (tgt := 26) hx hb dc_Ix_provide_90 (by decide) ?_
            exact ih6 (v7 + 1) hw _ _ _ ⟨hK.sub [0, 1, 2, 3, 4, 5, 6, 7, 8, 9, 10, 11, 12, 13, 14, 15, 16, 17, 18, 19, 20, 21, 22, 23] rfl, hP.sub [0, 1, 2, 3, 4, 5, 6, 7, 8, 9, 10, 11, 12, 13, 14, 15, 16, 17, 18, 19, 20, 21, 22, 23, 24, 25, 26, 27, 28, 29, 30, 31, 32, 33, 34, 35, 36, 37] rfl, hD.sub [0, 1, 2, 3, 4, 5, 6, 7, 8, 9, 10, 11, 12, 13, 14, 15, 16, 17, 18, 19, 20, 21, 22, 23, 24, 25, 26, 27, 28, 29, 30, 31, 32, 33, 34, 35, 36, 37] (by decide) rfl, hS, lv_sub hl [0, 1, 2, 3, 4, 5] rfl⟩
          · have hw := hw.1 h72
            refine lv_aload_n hx hb dc_Ix_provide_75 rfl (lv_at hl 3 rfl) ?_
            refine va_get (D := (dC, dI)) (ci := 4) (v := .ref lasts_) (C := "StrataBase$Indexes") (T := tb_Ix) (N := 9) hx hb hT in_Ix hown hK hP 0 rfl rfl 4 (by decide) (hT _ wd_356) (fun _ h9 => h9) rfl dc_Ix_provide_76 ?_
            refine lv_iload hx hb dc_Ix_provide_79 (lv_at hl 0 rfl) ?_
            obtain ⟨hv17, hw⟩ := hw
            refine va_iald hx hb hK hP 4 3 rfl rfl hv17 dc_Ix_provide_81 ?_
            refine lv_topi (fun y18 ey18 => ?_)
            have hw := hw y18 ey18
            refine lv_iload hx hb dc_Ix_provide_82 (lv_at hl 1 rfl) ?_
            refine lv_icmp_eq (tgt := 93) hx hb dc_Ix_provide_84 (by decide) (fun h84 => ?_) (fun h84 => ?_)
            · have hw := hw.1 h84
              exact k8 () hw _ _ _ ⟨hK.sub [0, 1, 2, 3, 4, 5, 6, 7, 8, 9, 10, 11, 12, 13, 14, 15, 16, 17, 18, 19, 20, 21, 22, 23] rfl, hP.sub [0, 1, 2, 3, 4, 5, 6, 7, 8, 9, 10, 11, 12, 13, 14, 15, 16, 17, 18, 19, 20, 21, 22, 23, 24, 25, 26, 27, 28, 29, 30, 31, 32, 33, 34, 35, 36, 37] rfl, hD.sub [0, 1, 2, 3, 4, 5, 6, 7, 8, 9, 10, 11, 12, 13, 14, 15, 16, 17, 18, 19, 20, 21, 22, 23, 24, 25, 26, 27, 28, 29, 30, 31, 32, 33, 34, 35, 36, 37] (by decide) rfl, hS, lv_sub hl [3, 4, 5, 2, 1, 0] rfl⟩
            · have hw := hw.2 h84
              refine lv_iinc (k := 0) (v := v7 + 1) (lv' := [(5, .int (v7 + 1)), (4, .int r5), (3, .int r3), (0, .ref h0), (1, .ref (sa X0)), (2, .ref a1)]) hx hb dc_Ix_provide_87 hl rfl rfl (by decide) rfl (fun ls hl => ?_)
              refine lv_goto (tgt := 26) hx hb dc_Ix_provide_90 (by decide) ?_
              exact ih6 (v7 + 1) hw _ _ _ ⟨hK.sub [0, 1, 2, 3, 4, 5, 6, 7, 8, 9, 10, 11, 12, 13, 14, 15, 16, 17, 18, 19, 20, 21, 22, 23] rfl, hP.sub [0, 1, 2, 3, 4, 5, 6, 7, 8, 9, 10, 11, 12, 13, 14, 15, 16, 17, 18, 19, 20, 21, 22, 23, 24, 25, 26, 27, 28, 29, 30, 31, 32, 33, 34, 35, 36, 37] rfl, hD.sub [0, 1, 2, 3, 4, 5, 6, 7, 8, 9, 10, 11, 12, 13, 14, 15, 16, 17, 18, 19, 20, 21, 22, 23, 24, 25, 26, 27, 28, 29, 30, 31, 32, 33, 34, 35, 36, 37] (by decide) rfl, hS, lv_sub hl [0, 1, 2, 3, 4, 5] rfl⟩
  intro x9 hw H locs ls hI
  obtain ⟨hK, hP, hD, hS, hl⟩ := hI
  unfold jw_met_Ix_provide_93 at hw
  refine W.eq (g2 := F0 m 93 ls []) rfl ?_
  refine lv_iload hx hb dc_Ix_provide_93 (lv_at hl 5 rfl) ?_
  refine lv_aload_n hx hb dc_Ix_provide_95 rfl (lv_at hl 0 rfl) ?_
  refine va_get (D := (dC, dI)) (ci := 4) (v := .int size_) (C := "StrataBase$Indexes") (T := tb_Ix) (N := 9) hx hb hT in_Ix hown hK hP 0 rfl rfl 0 (by decide) (hT _ wd_352) (fun _ h9 => h9) rfl dc_Ix_provide_96 ?_
  refine jn_st (σ := Int32 × Int32 × (Nat → Int32) × (Nat → Int64) × (Nat → Int32) × (Nat → Int32) × (Nat → Int32) × (Nat → Int32) × (Nat → Int64)) (pc2 := 194) (fun x9 => jw_met_Ix_provide_194 post v7 st_from X0 st_to x9) (fun x9 => match x9 with | (v38, v39, v40, v41, v42, v43, v44, v45, v46) => []) (fun x9 H locs ls => match x9 with | (v38, v39, v40, v41, v42, v43, v44, v45, v46) => va_K (dC, dI) vwCl (([(k_shapes, .int), (k_fixed, .long), (k_firsts, .int), (k_lasts, .int), (k_froms, .int), (k_tos, .int), (k_pool, .long)] : List (ClassId × FieldType)) ++ ((fm (fun i9 => ((st_k_roles i9, .int) : ClassId × FieldType))) ++ ([(k_a1_keys, .long), (k_a1_next, .int), (k_a1_oldest, .int), (k_a1_known, .int), (k_a1_knownBefore, .int)] : List (ClassId × FieldType)))) s ∧ va_P (dC, dI) vwCl (([(h0, .inr (4, [.int v38, .ref shapes_, .ref fixed_, .ref firsts_, .ref lasts_, .ref froms_, .ref tos_, .ref pool_, .int v39])), (shapes_, .inl (k_shapes, 64, .inl v40)), (fixed_, .inl (k_fixed, 64, .inr (.inl v41))), (firsts_, .inl (k_firsts, 64, .inl v42)), (lasts_, .inl (k_lasts, 64, .inl v43)), (froms_, .inl (k_froms, 64, .inl v44)), (tos_, .inl (k_tos, 64, .inl v45)), (pool_, .inl (k_pool, n_pool, .inr (.inl v46)))] : va_W) ++ ((fm (fun i9 => ((sa i9, .inr (10, [.int (st_literal i9), .int (st_scans i9), .int (st_freshOnly i9), .int (st_bound i9), .int (st_live i9), .int (st_soughtMask i9), .int (st_givenMask i9), .int (st_sought i9), .int (st_width i9), .int (st_predicate i9), .int (st_ordered i9), .int (st_shape i9), .long (st_fixed i9), .int (st_from i9), .int (st_to i9), .ref (st_a_roles i9), .ref (st_a_variables i9)])) : Nat × va_E))) ++ ((fm (fun i9 => ((st_a_roles i9, .inl (st_k_roles i9, 6, .inl (st_roles i9))) : Nat × va_E))) ++ ([(a1, .inr (3, [.int a1_size_, .int a1_highest_, .int a1_full_, .ref a1_keys_, .ref a1_stages_, .ref a1_amounts_, .ref a1_predicates_, .ref a1_next_, .ref a1_slots_, .ref a1_oldest_, .ref a1_newest_, .ref a1_known_, .ref a1_knownBefore_, .int a1_visible_])), (a1_keys_, .inl (k_a1_keys, 20000, .inr (.inl F_a1_keys))), (a1_next_, .inl (k_a1_next, 20000, .inl F_a1_next)), (a1_oldest_, .inl (k_a1_oldest, 64, .inl F_a1_oldest)), (a1_known_, .inl (k_a1_known, 64, .inl F_a1_known)), (a1_knownBefore_, .inl (k_a1_knownBefore, 64, .inl F_a1_knownBefore))] : va_W)))) H ∧ va_D A (([(h0, .inr (4, [.int v38, .ref shapes_, .ref fixed_, .ref firsts_, .ref lasts_, .ref froms_, .ref tos_, .ref pool_, .int v39])), (shapes_, .inl (k_shapes, 64, .inl v40)), (fixed_, .inl (k_fixed, 64, .inr (.inl v41))), (firsts_, .inl (k_firsts, 64, .inl v42)), (lasts_, .inl (k_lasts, 64, .inl v43)), (froms_, .inl (k_froms, 64, .inl v44)), (tos_, .inl (k_tos, 64, .inl v45)), (pool_, .inl (k_pool, n_pool, .inr (.inl v46)))] : va_W) ++ ((fm (fun i9 => ((sa i9, .inr (10, [.int (st_literal i9), .int (st_scans i9), .int (st_freshOnly i9), .int (st_bound i9), .int (st_live i9), .int (st_soughtMask i9), .int (st_givenMask i9), .int (st_sought i9), .int (st_width i9), .int (st_predicate i9), .int (st_ordered i9), .int (st_shape i9), .long (st_fixed i9), .int (st_from i9), .int (st_to i9), .ref (st_a_roles i9), .ref (st_a_variables i9)])) : Nat × va_E))) ++ ((fm (fun i9 => ((st_a_roles i9, .inl (st_k_roles i9, 6, .inl (st_roles i9))) : Nat × va_E))) ++ ([(a1, .inr (3, [.int a1_size_, .int a1_highest_, .int a1_full_, .ref a1_keys_, .ref a1_stages_, .ref a1_amounts_, .ref a1_predicates_, .ref a1_next_, .ref a1_slots_, .ref a1_oldest_, .ref a1_newest_, .ref a1_known_, .ref a1_knownBefore_, .int a1_visible_])), (a1_keys_, .inl (k_a1_keys, 20000, .inr (.inl F_a1_keys))), (a1_next_, .inl (k_a1_next, 20000, .inl F_a1_next)), (a1_oldest_, .inl (k_a1_oldest, 64, .inl F_a1_oldest)), (a1_known_, .inl (k_a1_known, 64, .inl F_a1_known)), (a1_knownBefore_, .inl (k_a1_knownBefore, 64, .inl F_a1_knownBefore))] : va_W)))) ∧ va_S A s.heap H locs ∧ lv_has ls 6 [(0, .ref h0), (1, .ref (sa X0)), (5, .int v7)]) ?_ (fun k19 => ?_)
  rotate_left
  · refine lv_icmp_ne (tgt := 194) hx hb dc_Ix_provide_99 (by decide) (fun h99 => ?_) (fun h99 => ?_)
    · have hw := hw.2 h99
      exact k19 (size_, used_, F_shapes, F_fixed, F_firsts, F_lasts, F_froms, F_tos, F_pool) hw _ _ _ ⟨hK.sub [0, 1, 2, 3, 4, 5, 6, 7, 8, 9, 10, 11, 12, 13, 14, 15, 16, 17, 18, 19, 20, 21, 22, 23] rfl, hP.sub [0, 1, 2, 3, 4, 5, 6, 7, 8, 9, 10, 11, 12, 13, 14, 15, 16, 17, 18, 19, 20, 21, 22, 23, 24, 25, 26, 27, 28, 29, 30, 31, 32, 33, 34, 35, 36, 37] rfl, hD.sub [0, 1, 2, 3, 4, 5, 6, 7, 8, 9, 10, 11, 12, 13, 14, 15, 16, 17, 18, 19, 20, 21, 22, 23, 24, 25, 26, 27, 28, 29, 30, 31, 32, 33, 34, 35, 36, 37] (by decide) rfl, hS, lv_sub hl [0, 1, 5] rfl⟩
    · have hw := hw.1 h99
      refine lv_aload_n hx hb dc_Ix_provide_102 rfl (lv_at hl 0 rfl) ?_
      refine va_get (D := (dC, dI)) (ci := 4) (v := .ref shapes_) (C := "StrataBase$Indexes") (T := tb_Ix) (N := 9) hx hb hT in_Ix hown hK hP 0 rfl rfl 1 (by decide) (hT _ wd_353) (fun _ h9 => h9) rfl dc_Ix_provide_103 ?_
      refine lv_aload_n hx hb dc_Ix_provide_106 rfl (lv_at hl 0 rfl) ?_
      refine va_get (D := (dC, dI)) (ci := 4) (v := .int size_) (C := "StrataBase$Indexes") (T := tb_Ix) (N := 9) hx hb hT in_Ix hown hK hP 0 rfl rfl 0 (by decide) (hT _ wd_352) (fun _ h9 => h9) rfl dc_Ix_provide_107 ?_
      refine lv_aload_n hx hb dc_Ix_provide_110 rfl (lv_at hl 1 rfl) ?_
      refine va_get (D := (dC, dI)) (ci := 10) (v := .int (st_shape X0)) (C := "StrataBase$Step") (T := tb_St) (N := 17) hx hb hT in_St hown hK hP (8 + X0) (show ((([(h0, .inr (4, [.int size_, .ref shapes_, .ref fixed_, .ref firsts_, .ref lasts_, .ref froms_, .ref tos_, .ref pool_, .int used_])), (shapes_, .inl (k_shapes, 64, .inl F_shapes)), (fixed_, .inl (k_fixed, 64, .inr (.inl F_fixed))), (firsts_, .inl (k_firsts, 64, .inl F_firsts)), (lasts_, .inl (k_lasts, 64, .inl F_lasts)), (froms_, .inl (k_froms, 64, .inl F_froms)), (tos_, .inl (k_tos, 64, .inl F_tos)), (pool_, .inl (k_pool, n_pool, .inr (.inl F_pool)))] : va_W) ++ ((fm (fun i9 => ((sa i9, .inr (10, [.int (st_literal i9), .int (st_scans i9), .int (st_freshOnly i9), .int (st_bound i9), .int (st_live i9), .int (st_soughtMask i9), .int (st_givenMask i9), .int (st_sought i9), .int (st_width i9), .int (st_predicate i9), .int (st_ordered i9), .int (st_shape i9), .long (st_fixed i9), .int (st_from i9), .int (st_to i9), .ref (st_a_roles i9), .ref (st_a_variables i9)])) : Nat × va_E))) ++ ((fm (fun i9 => ((st_a_roles i9, .inl (st_k_roles i9, 6, .inl (st_roles i9))) : Nat × va_E))) ++ ([(a1, .inr (3, [.int a1_size_, .int a1_highest_, .int a1_full_, .ref a1_keys_, .ref a1_stages_, .ref a1_amounts_, .ref a1_predicates_, .ref a1_next_, .ref a1_slots_, .ref a1_oldest_, .ref a1_newest_, .ref a1_known_, .ref a1_knownBefore_, .int a1_visible_])), (a1_keys_, .inl (k_a1_keys, 20000, .inr (.inl F_a1_keys))), (a1_next_, .inl (k_a1_next, 20000, .inl F_a1_next)), (a1_oldest_, .inl (k_a1_oldest, 64, .inl F_a1_oldest)), (a1_known_, .inl (k_a1_known, 64, .inl F_a1_known)), (a1_knownBefore_, .inl (k_a1_knownBefore, 64, .inl F_a1_knownBefore))] : va_W)))) : va_W)[8 + X0]? = some (sa X0, .inr (10, [.int (st_literal X0), .int (st_scans X0), .int (st_freshOnly X0), .int (st_bound X0), .int (st_live X0), .int (st_soughtMask X0), .int (st_givenMask X0), .int (st_sought X0), .int (st_width X0), .int (st_predicate X0), .int (st_ordered X0), .int (st_shape X0), .long (st_fixed X0), .int (st_from X0), .int (st_to X0), .ref (st_a_roles X0), .ref (st_a_variables X0)])) from fm_get hX_X0 rfl) rfl 11 (by decide) (hT _ wd_409) (fun _ h9 => h9) rfl dc_Ix_provide_111 ?_
      refine lv_topi (fun y20 ey20 => ?_)
      have hw := hw y20 ey20
      obtain ⟨hv21, hw⟩ := hw
      refine va_iast hx hb hK hP hD hS 1 0 rfl rfl hv21 dc_Ix_provide_114 (fun H locs hP hD hS => ?_)
      have hP : va_P (dC, dI) vwCl (([(h0, .inr (4, [.int size_, .ref shapes_, .ref fixed_, .ref firsts_, .ref lasts_, .ref froms_, .ref tos_, .ref pool_, .int used_])), (shapes_, .inl (k_shapes, 64, .inl (upd F_shapes size_.toNatClampNeg y20))), (fixed_, .inl (k_fixed, 64, .inr (.inl F_fixed))), (firsts_, .inl (k_firsts, 64, .inl F_firsts)), (lasts_, .inl (k_lasts, 64, .inl F_lasts)), (froms_, .inl (k_froms, 64, .inl F_froms)), (tos_, .inl (k_tos, 64, .inl F_tos)), (pool_, .inl (k_pool, n_pool, .inr (.inl F_pool)))] : va_W) ++ ((fm (fun i9 => ((sa i9, .inr (10, [.int (st_literal i9), .int (st_scans i9), .int (st_freshOnly i9), .int (st_bound i9), .int (st_live i9), .int (st_soughtMask i9), .int (st_givenMask i9), .int (st_sought i9), .int (st_width i9), .int (st_predicate i9), .int (st_ordered i9), .int (st_shape i9), .long (st_fixed i9), .int (st_from i9), .int (st_to i9), .ref (st_a_roles i9), .ref (st_a_variables i9)])) : Nat × va_E))) ++ ((fm (fun i9 => ((st_a_roles i9, .inl (st_k_roles i9, 6, .inl (st_roles i9))) : Nat × va_E))) ++ ([(a1, .inr (3, [.int a1_size_, .int a1_highest_, .int a1_full_, .ref a1_keys_, .ref a1_stages_, .ref a1_amounts_, .ref a1_predicates_, .ref a1_next_, .ref a1_slots_, .ref a1_oldest_, .ref a1_newest_, .ref a1_known_, .ref a1_knownBefore_, .int a1_visible_])), (a1_keys_, .inl (k_a1_keys, 20000, .inr (.inl F_a1_keys))), (a1_next_, .inl (k_a1_next, 20000, .inl F_a1_next)), (a1_oldest_, .inl (k_a1_oldest, 64, .inl F_a1_oldest)), (a1_known_, .inl (k_a1_known, 64, .inl F_a1_known)), (a1_knownBefore_, .inl (k_a1_knownBefore, 64, .inl F_a1_knownBefore))] : va_W)))) H := hP
      have hD : va_D A (([(h0, .inr (4, [.int size_, .ref shapes_, .ref fixed_, .ref firsts_, .ref lasts_, .ref froms_, .ref tos_, .ref pool_, .int used_])), (shapes_, .inl (k_shapes, 64, .inl (upd F_shapes size_.toNatClampNeg y20))), (fixed_, .inl (k_fixed, 64, .inr (.inl F_fixed))), (firsts_, .inl (k_firsts, 64, .inl F_firsts)), (lasts_, .inl (k_lasts, 64, .inl F_lasts)), (froms_, .inl (k_froms, 64, .inl F_froms)), (tos_, .inl (k_tos, 64, .inl F_tos)), (pool_, .inl (k_pool, n_pool, .inr (.inl F_pool)))] : va_W) ++ ((fm (fun i9 => ((sa i9, .inr (10, [.int (st_literal i9), .int (st_scans i9), .int (st_freshOnly i9), .int (st_bound i9), .int (st_live i9), .int (st_soughtMask i9), .int (st_givenMask i9), .int (st_sought i9), .int (st_width i9), .int (st_predicate i9), .int (st_ordered i9), .int (st_shape i9), .long (st_fixed i9), .int (st_from i9), .int (st_to i9), .ref (st_a_roles i9), .ref (st_a_variables i9)])) : Nat × va_E))) ++ ((fm (fun i9 => ((st_a_roles i9, .inl (st_k_roles i9, 6, .inl (st_roles i9))) : Nat × va_E))) ++ ([(a1, .inr (3, [.int a1_size_, .int a1_highest_, .int a1_full_, .ref a1_keys_, .ref a1_stages_, .ref a1_amounts_, .ref a1_predicates_, .ref a1_next_, .ref a1_slots_, .ref a1_oldest_, .ref a1_newest_, .ref a1_known_, .ref a1_knownBefore_, .int a1_visible_])), (a1_keys_, .inl (k_a1_keys, 20000, .inr (.inl F_a1_keys))), (a1_next_, .inl (k_a1_next, 20000, .inl F_a1_next)), (a1_oldest_, .inl (k_a1_oldest, 64, .inl F_a1_oldest)), (a1_known_, .inl (k_a1_known, 64, .inl F_a1_known)), (a1_knownBefore_, .inl (k_a1_knownBefore, 64, .inl F_a1_knownBefore))] : va_W)))) := hD
      obtain ⟨g22, eg22⟩ : ∃ z9 : Nat → Int32, z9 = upd F_shapes size_.toNatClampNeg y20 := ⟨_, rfl⟩
      rw [← eg22] at hP hD
      have hw := hw g22 eg22
      refine lv_aload_n hx hb dc_Ix_provide_115 rfl (lv_at hl 0 rfl) ?_
      refine va_get (D := (dC, dI)) (ci := 4) (v := .ref fixed_) (C := "StrataBase$Indexes") (T := tb_Ix) (N := 9) hx hb hT in_Ix hown hK hP 0 rfl rfl 2 (by decide) (hT _ wd_354) (fun _ h9 => h9) rfl dc_Ix_provide_116 ?_
      refine lv_aload_n hx hb dc_Ix_provide_119 rfl (lv_at hl 0 rfl) ?_
      refine va_get (D := (dC, dI)) (ci := 4) (v := .int size_) (C := "StrataBase$Indexes") (T := tb_Ix) (N := 9) hx hb hT in_Ix hown hK hP 0 rfl rfl 0 (by decide) (hT _ wd_352) (fun _ h9 => h9) rfl dc_Ix_provide_120 ?_
      refine lv_aload_n hx hb dc_Ix_provide_123 rfl (lv_at hl 1 rfl) ?_
      refine va_get (D := (dC, dI)) (ci := 10) (v := .long (st_fixed X0)) (C := "StrataBase$Step") (T := tb_St) (N := 17) hx hb hT in_St hown hK hP (8 + X0) (show ((([(h0, .inr (4, [.int size_, .ref shapes_, .ref fixed_, .ref firsts_, .ref lasts_, .ref froms_, .ref tos_, .ref pool_, .int used_])), (shapes_, .inl (k_shapes, 64, .inl g22)), (fixed_, .inl (k_fixed, 64, .inr (.inl F_fixed))), (firsts_, .inl (k_firsts, 64, .inl F_firsts)), (lasts_, .inl (k_lasts, 64, .inl F_lasts)), (froms_, .inl (k_froms, 64, .inl F_froms)), (tos_, .inl (k_tos, 64, .inl F_tos)), (pool_, .inl (k_pool, n_pool, .inr (.inl F_pool)))] : va_W) ++ ((fm (fun i9 => ((sa i9, .inr (10, [.int (st_literal i9), .int (st_scans i9), .int (st_freshOnly i9), .int (st_bound i9), .int (st_live i9), .int (st_soughtMask i9), .int (st_givenMask i9), .int (st_sought i9), .int (st_width i9), .int (st_predicate i9), .int (st_ordered i9), .int (st_shape i9), .long (st_fixed i9), .int (st_from i9), .int (st_to i9), .ref (st_a_roles i9), .ref (st_a_variables i9)])) : Nat × va_E))) ++ ((fm (fun i9 => ((st_a_roles i9, .inl (st_k_roles i9, 6, .inl (st_roles i9))) : Nat × va_E))) ++ ([(a1, .inr (3, [.int a1_size_, .int a1_highest_, .int a1_full_, .ref a1_keys_, .ref a1_stages_, .ref a1_amounts_, .ref a1_predicates_, .ref a1_next_, .ref a1_slots_, .ref a1_oldest_, .ref a1_newest_, .ref a1_known_, .ref a1_knownBefore_, .int a1_visible_])), (a1_keys_, .inl (k_a1_keys, 20000, .inr (.inl F_a1_keys))), (a1_next_, .inl (k_a1_next, 20000, .inl F_a1_next)), (a1_oldest_, .inl (k_a1_oldest, 64, .inl F_a1_oldest)), (a1_known_, .inl (k_a1_known, 64, .inl F_a1_known)), (a1_knownBefore_, .inl (k_a1_knownBefore, 64, .inl F_a1_knownBefore))] : va_W)))) : va_W)[8 + X0]? = some (sa X0, .inr (10, [.int (st_literal X0), .int (st_scans X0), .int (st_freshOnly X0), .int (st_bound X0), .int (st_live X0), .int (st_soughtMask X0), .int (st_givenMask X0), .int (st_sought X0), .int (st_width X0), .int (st_predicate X0), .int (st_ordered X0), .int (st_shape X0), .long (st_fixed X0), .int (st_from X0), .int (st_to X0), .ref (st_a_roles X0), .ref (st_a_variables X0)])) from fm_get hX_X0 rfl) rfl 12 (by decide) (hT _ wd_411) (fun _ h9 => h9) rfl dc_Ix_provide_124 ?_
      refine lv_topl (fun y23 ey23 => ?_)
      have hw := hw y23 ey23
      obtain ⟨hv24, hw⟩ := hw
      refine va_last hx hb hK hP hD hS 2 1 rfl rfl hv24 dc_Ix_provide_127 (fun H locs hP hD hS => ?_)
      have hP : va_P (dC, dI) vwCl (([(h0, .inr (4, [.int size_, .ref shapes_, .ref fixed_, .ref firsts_, .ref lasts_, .ref froms_, .ref tos_, .ref pool_, .int used_])), (shapes_, .inl (k_shapes, 64, .inl g22)), (fixed_, .inl (k_fixed, 64, .inr (.inl (vp_updL F_fixed size_.toNatClampNeg y23)))), (firsts_, .inl (k_firsts, 64, .inl F_firsts)), (lasts_, .inl (k_lasts, 64, .inl F_lasts)), (froms_, .inl (k_froms, 64, .inl F_froms)), (tos_, .inl (k_tos, 64, .inl F_tos)), (pool_, .inl (k_pool, n_pool, .inr (.inl F_pool)))] : va_W) ++ ((fm (fun i9 => ((sa i9, .inr (10, [.int (st_literal i9), .int (st_scans i9), .int (st_freshOnly i9), .int (st_bound i9), .int (st_live i9), .int (st_soughtMask i9), .int (st_givenMask i9), .int (st_sought i9), .int (st_width i9), .int (st_predicate i9), .int (st_ordered i9), .int (st_shape i9), .long (st_fixed i9), .int (st_from i9), .int (st_to i9), .ref (st_a_roles i9), .ref (st_a_variables i9)])) : Nat × va_E))) ++ ((fm (fun i9 => ((st_a_roles i9, .inl (st_k_roles i9, 6, .inl (st_roles i9))) : Nat × va_E))) ++ ([(a1, .inr (3, [.int a1_size_, .int a1_highest_, .int a1_full_, .ref a1_keys_, .ref a1_stages_, .ref a1_amounts_, .ref a1_predicates_, .ref a1_next_, .ref a1_slots_, .ref a1_oldest_, .ref a1_newest_, .ref a1_known_, .ref a1_knownBefore_, .int a1_visible_])), (a1_keys_, .inl (k_a1_keys, 20000, .inr (.inl F_a1_keys))), (a1_next_, .inl (k_a1_next, 20000, .inl F_a1_next)), (a1_oldest_, .inl (k_a1_oldest, 64, .inl F_a1_oldest)), (a1_known_, .inl (k_a1_known, 64, .inl F_a1_known)), (a1_knownBefore_, .inl (k_a1_knownBefore, 64, .inl F_a1_knownBefore))] : va_W)))) H := hP
      have hD : va_D A (([(h0, .inr (4, [.int size_, .ref shapes_, .ref fixed_, .ref firsts_, .ref lasts_, .ref froms_, .ref tos_, .ref pool_, .int used_])), (shapes_, .inl (k_shapes, 64, .inl g22)), (fixed_, .inl (k_fixed, 64, .inr (.inl (vp_updL F_fixed size_.toNatClampNeg y23)))), (firsts_, .inl (k_firsts, 64, .inl F_firsts)), (lasts_, .inl (k_lasts, 64, .inl F_lasts)), (froms_, .inl (k_froms, 64, .inl F_froms)), (tos_, .inl (k_tos, 64, .inl F_tos)), (pool_, .inl (k_pool, n_pool, .inr (.inl F_pool)))] : va_W) ++ ((fm (fun i9 => ((sa i9, .inr (10, [.int (st_literal i9), .int (st_scans i9), .int (st_freshOnly i9), .int (st_bound i9), .int (st_live i9), .int (st_soughtMask i9), .int (st_givenMask i9), .int (st_sought i9), .int (st_width i9), .int (st_predicate i9), .int (st_ordered i9), .int (st_shape i9), .long (st_fixed i9), .int (st_from i9), .int (st_to i9), .ref (st_a_roles i9), .ref (st_a_variables i9)])) : Nat × va_E))) ++ ((fm (fun i9 => ((st_a_roles i9, .inl (st_k_roles i9, 6, .inl (st_roles i9))) : Nat × va_E))) ++ ([(a1, .inr (3, [.int a1_size_, .int a1_highest_, .int a1_full_, .ref a1_keys_, .ref a1_stages_, .ref a1_amounts_, .ref a1_predicates_, .ref a1_next_, .ref a1_slots_, .ref a1_oldest_, .ref a1_newest_, .ref a1_known_, .ref a1_knownBefore_, .int a1_visible_])), (a1_keys_, .inl (k_a1_keys, 20000, .inr (.inl F_a1_keys))), (a1_next_, .inl (k_a1_next, 20000, .inl F_a1_next)), (a1_oldest_, .inl (k_a1_oldest, 64, .inl F_a1_oldest)), (a1_known_, .inl (k_a1_known, 64, .inl F_a1_known)), (a1_knownBefore_, .inl (k_a1_knownBefore, 64, .inl F_a1_knownBefore))] : va_W)))) := hD
      obtain ⟨g25, eg25⟩ : ∃ z9 : Nat → Int64, z9 = vp_updL F_fixed size_.toNatClampNeg y23 := ⟨_, rfl⟩
      rw [← eg25] at hP hD
      have hw := hw g25 eg25
      refine lv_aload_n hx hb dc_Ix_provide_128 rfl (lv_at hl 0 rfl) ?_
      refine va_get (D := (dC, dI)) (ci := 4) (v := .ref firsts_) (C := "StrataBase$Indexes") (T := tb_Ix) (N := 9) hx hb hT in_Ix hown hK hP 0 rfl rfl 3 (by decide) (hT _ wd_355) (fun _ h9 => h9) rfl dc_Ix_provide_129 ?_
      refine lv_aload_n hx hb dc_Ix_provide_132 rfl (lv_at hl 0 rfl) ?_
      refine va_get (D := (dC, dI)) (ci := 4) (v := .int size_) (C := "StrataBase$Indexes") (T := tb_Ix) (N := 9) hx hb hT in_Ix hown hK hP 0 rfl rfl 0 (by decide) (hT _ wd_352) (fun _ h9 => h9) rfl dc_Ix_provide_133 ?_
      refine lv_iload_n hx hb dc_Ix_provide_136 rfl (lv_at hl 3 rfl) ?_
      obtain ⟨hv26, hw⟩ := hw
      refine va_iast hx hb hK hP hD hS 3 2 rfl rfl hv26 dc_Ix_provide_137 (fun H locs hP hD hS => ?_)
      have hP : va_P (dC, dI) vwCl (([(h0, .inr (4, [.int size_, .ref shapes_, .ref fixed_, .ref firsts_, .ref lasts_, .ref froms_, .ref tos_, .ref pool_, .int used_])), (shapes_, .inl (k_shapes, 64, .inl g22)), (fixed_, .inl (k_fixed, 64, .inr (.inl g25))), (firsts_, .inl (k_firsts, 64, .inl (upd F_firsts size_.toNatClampNeg r3))), (lasts_, .inl (k_lasts, 64, .inl F_lasts)), (froms_, .inl (k_froms, 64, .inl F_froms)), (tos_, .inl (k_tos, 64, .inl F_tos)), (pool_, .inl (k_pool, n_pool, .inr (.inl F_pool)))] : va_W) ++ ((fm (fun i9 => ((sa i9, .inr (10, [.int (st_literal i9), .int (st_scans i9), .int (st_freshOnly i9), .int (st_bound i9), .int (st_live i9), .int (st_soughtMask i9), .int (st_givenMask i9), .int (st_sought i9), .int (st_width i9), .int (st_predicate i9), .int (st_ordered i9), .int (st_shape i9), .long (st_fixed i9), .int (st_from i9), .int (st_to i9), .ref (st_a_roles i9), .ref (st_a_variables i9)])) : Nat × va_E))) ++ ((fm (fun i9 => ((st_a_roles i9, .inl (st_k_roles i9, 6, .inl (st_roles i9))) : Nat × va_E))) ++ ([(a1, .inr (3, [.int a1_size_, .int a1_highest_, .int a1_full_, .ref a1_keys_, .ref a1_stages_, .ref a1_amounts_, .ref a1_predicates_, .ref a1_next_, .ref a1_slots_, .ref a1_oldest_, .ref a1_newest_, .ref a1_known_, .ref a1_knownBefore_, .int a1_visible_])), (a1_keys_, .inl (k_a1_keys, 20000, .inr (.inl F_a1_keys))), (a1_next_, .inl (k_a1_next, 20000, .inl F_a1_next)), (a1_oldest_, .inl (k_a1_oldest, 64, .inl F_a1_oldest)), (a1_known_, .inl (k_a1_known, 64, .inl F_a1_known)), (a1_knownBefore_, .inl (k_a1_knownBefore, 64, .inl F_a1_knownBefore))] : va_W)))) H := hP
      have hD : va_D A (([(h0, .inr (4, [.int size_, .ref shapes_, .ref fixed_, .ref firsts_, .ref lasts_, .ref froms_, .ref tos_, .ref pool_, .int used_])), (shapes_, .inl (k_shapes, 64, .inl g22)), (fixed_, .inl (k_fixed, 64, .inr (.inl g25))), (firsts_, .inl (k_firsts, 64, .inl (upd F_firsts size_.toNatClampNeg r3))), (lasts_, .inl (k_lasts, 64, .inl F_lasts)), (froms_, .inl (k_froms, 64, .inl F_froms)), (tos_, .inl (k_tos, 64, .inl F_tos)), (pool_, .inl (k_pool, n_pool, .inr (.inl F_pool)))] : va_W) ++ ((fm (fun i9 => ((sa i9, .inr (10, [.int (st_literal i9), .int (st_scans i9), .int (st_freshOnly i9), .int (st_bound i9), .int (st_live i9), .int (st_soughtMask i9), .int (st_givenMask i9), .int (st_sought i9), .int (st_width i9), .int (st_predicate i9), .int (st_ordered i9), .int (st_shape i9), .long (st_fixed i9), .int (st_from i9), .int (st_to i9), .ref (st_a_roles i9), .ref (st_a_variables i9)])) : Nat × va_E))) ++ ((fm (fun i9 => ((st_a_roles i9, .inl (st_k_roles i9, 6, .inl (st_roles i9))) : Nat × va_E))) ++ ([(a1, .inr (3, [.int a1_size_, .int a1_highest_, .int a1_full_, .ref a1_keys_, .ref a1_stages_, .ref a1_amounts_, .ref a1_predicates_, .ref a1_next_, .ref a1_slots_, .ref a1_oldest_, .ref a1_newest_, .ref a1_known_, .ref a1_knownBefore_, .int a1_visible_])), (a1_keys_, .inl (k_a1_keys, 20000, .inr (.inl F_a1_keys))), (a1_next_, .inl (k_a1_next, 20000, .inl F_a1_next)), (a1_oldest_, .inl (k_a1_oldest, 64, .inl F_a1_oldest)), (a1_known_, .inl (k_a1_known, 64, .inl F_a1_known)), (a1_knownBefore_, .inl (k_a1_knownBefore, 64, .inl F_a1_knownBefore))] : va_W)))) := hD
      obtain ⟨g27, eg27⟩ : ∃ z9 : Nat → Int32, z9 = upd F_firsts size_.toNatClampNeg r3 := ⟨_, rfl⟩
      rw [← eg27] at hP hD
      have hw := hw g27 eg27
      refine lv_aload_n hx hb dc_Ix_provide_138 rfl (lv_at hl 0 rfl) ?_
      refine va_get (D := (dC, dI)) (ci := 4) (v := .ref lasts_) (C := "StrataBase$Indexes") (T := tb_Ix) (N := 9) hx hb hT in_Ix hown hK hP 0 rfl rfl 4 (by decide) (hT _ wd_356) (fun _ h9 => h9) rfl dc_Ix_provide_139 ?_
      refine lv_aload_n hx hb dc_Ix_provide_142 rfl (lv_at hl 0 rfl) ?_
      refine va_get (D := (dC, dI)) (ci := 4) (v := .int size_) (C := "StrataBase$Indexes") (T := tb_Ix) (N := 9) hx hb hT in_Ix hown hK hP 0 rfl rfl 0 (by decide) (hT _ wd_352) (fun _ h9 => h9) rfl dc_Ix_provide_143 ?_
      refine lv_iload hx hb dc_Ix_provide_146 (lv_at hl 4 rfl) ?_
      obtain ⟨hv28, hw⟩ := hw
      refine va_iast hx hb hK hP hD hS 4 3 rfl rfl hv28 dc_Ix_provide_148 (fun H locs hP hD hS => ?_)
      have hP : va_P (dC, dI) vwCl (([(h0, .inr (4, [.int size_, .ref shapes_, .ref fixed_, .ref firsts_, .ref lasts_, .ref froms_, .ref tos_, .ref pool_, .int used_])), (shapes_, .inl (k_shapes, 64, .inl g22)), (fixed_, .inl (k_fixed, 64, .inr (.inl g25))), (firsts_, .inl (k_firsts, 64, .inl g27)), (lasts_, .inl (k_lasts, 64, .inl (upd F_lasts size_.toNatClampNeg r5))), (froms_, .inl (k_froms, 64, .inl F_froms)), (tos_, .inl (k_tos, 64, .inl F_tos)), (pool_, .inl (k_pool, n_pool, .inr (.inl F_pool)))] : va_W) ++ ((fm (fun i9 => ((sa i9, .inr (10, [.int (st_literal i9), .int (st_scans i9), .int (st_freshOnly i9), .int (st_bound i9), .int (st_live i9), .int (st_soughtMask i9), .int (st_givenMask i9), .int (st_sought i9), .int (st_width i9), .int (st_predicate i9), .int (st_ordered i9), .int (st_shape i9), .long (st_fixed i9), .int (st_from i9), .int (st_to i9), .ref (st_a_roles i9), .ref (st_a_variables i9)])) : Nat × va_E))) ++ ((fm (fun i9 => ((st_a_roles i9, .inl (st_k_roles i9, 6, .inl (st_roles i9))) : Nat × va_E))) ++ ([(a1, .inr (3, [.int a1_size_, .int a1_highest_, .int a1_full_, .ref a1_keys_, .ref a1_stages_, .ref a1_amounts_, .ref a1_predicates_, .ref a1_next_, .ref a1_slots_, .ref a1_oldest_, .ref a1_newest_, .ref a1_known_, .ref a1_knownBefore_, .int a1_visible_])), (a1_keys_, .inl (k_a1_keys, 20000, .inr (.inl F_a1_keys))), (a1_next_, .inl (k_a1_next, 20000, .inl F_a1_next)), (a1_oldest_, .inl (k_a1_oldest, 64, .inl F_a1_oldest)), (a1_known_, .inl (k_a1_known, 64, .inl F_a1_known)), (a1_knownBefore_, .inl (k_a1_knownBefore, 64, .inl F_a1_knownBefore))] : va_W)))) H := hP
      have hD : va_D A (([(h0, .inr (4, [.int size_, .ref shapes_, .ref fixed_, .ref firsts_, .ref lasts_, .ref froms_, .ref tos_, .ref pool_, .int used_])), (shapes_, .inl (k_shapes, 64, .inl g22)), (fixed_, .inl (k_fixed, 64, .inr (.inl g25))), (firsts_, .inl (k_firsts, 64, .inl g27)), (lasts_, .inl (k_lasts, 64, .inl (upd F_lasts size_.toNatClampNeg r5))), (froms_, .inl (k_froms, 64, .inl F_froms)), (tos_, .inl (k_tos, 64, .inl F_tos)), (pool_, .inl (k_pool, n_pool, .inr (.inl F_pool)))] : va_W) ++ ((fm (fun i9 => ((sa i9, .inr (10, [.int (st_literal i9), .int (st_scans i9), .int (st_freshOnly i9), .int (st_bound i9), .int (st_live i9), .int (st_soughtMask i9), .int (st_givenMask i9), .int (st_sought i9), .int (st_width i9), .int (st_predicate i9), .int (st_ordered i9), .int (st_shape i9), .long (st_fixed i9), .int (st_from i9), .int (st_to i9), .ref (st_a_roles i9), .ref (st_a_variables i9)])) : Nat × va_E))) ++ ((fm (fun i9 => ((st_a_roles i9, .inl (st_k_roles i9, 6, .inl (st_roles i9))) : Nat × va_E))) ++ ([(a1, .inr (3, [.int a1_size_, .int a1_highest_, .int a1_full_, .ref a1_keys_, .ref a1_stages_, .ref a1_amounts_, .ref a1_predicates_, .ref a1_next_, .ref a1_slots_, .ref a1_oldest_, .ref a1_newest_, .ref a1_known_, .ref a1_knownBefore_, .int a1_visible_])), (a1_keys_, .inl (k_a1_keys, 20000, .inr (.inl F_a1_keys))), (a1_next_, .inl (k_a1_next, 20000, .inl F_a1_next)), (a1_oldest_, .inl (k_a1_oldest, 64, .inl F_a1_oldest)), (a1_known_, .inl (k_a1_known, 64, .inl F_a1_known)), (a1_knownBefore_, .inl (k_a1_knownBefore, 64, .inl F_a1_knownBefore))] : va_W)))) := hD
      obtain ⟨g29, eg29⟩ : ∃ z9 : Nat → Int32, z9 = upd F_lasts size_.toNatClampNeg r5 := ⟨_, rfl⟩
      rw [← eg29] at hP hD
      have hw := hw g29 eg29
      refine lv_aload_n hx hb dc_Ix_provide_149 rfl (lv_at hl 0 rfl) ?_
      refine va_get (D := (dC, dI)) (ci := 4) (v := .ref froms_) (C := "StrataBase$Indexes") (T := tb_Ix) (N := 9) hx hb hT in_Ix hown hK hP 0 rfl rfl 5 (by decide) (hT _ wd_357) (fun _ h9 => h9) rfl dc_Ix_provide_150 ?_
      refine lv_aload_n hx hb dc_Ix_provide_153 rfl (lv_at hl 0 rfl) ?_
      refine va_get (D := (dC, dI)) (ci := 4) (v := .int size_) (C := "StrataBase$Indexes") (T := tb_Ix) (N := 9) hx hb hT in_Ix hown hK hP 0 rfl rfl 0 (by decide) (hT _ wd_352) (fun _ h9 => h9) rfl dc_Ix_provide_154 ?_
      refine lv_aload_n hx hb dc_Ix_provide_157 rfl (lv_at hl 0 rfl) ?_
      refine va_get (D := (dC, dI)) (ci := 4) (v := .int used_) (C := "StrataBase$Indexes") (T := tb_Ix) (N := 9) hx hb hT in_Ix hown hK hP 0 rfl rfl 8 (by decide) (hT _ wd_360) (fun _ h9 => h9) rfl dc_Ix_provide_158 ?_
      obtain ⟨hv30, hw⟩ := hw
      refine va_iast hx hb hK hP hD hS 5 4 rfl rfl hv30 dc_Ix_provide_161 (fun H locs hP hD hS => ?_)
      have hP : va_P (dC, dI) vwCl (([(h0, .inr (4, [.int size_, .ref shapes_, .ref fixed_, .ref firsts_, .ref lasts_, .ref froms_, .ref tos_, .ref pool_, .int used_])), (shapes_, .inl (k_shapes, 64, .inl g22)), (fixed_, .inl (k_fixed, 64, .inr (.inl g25))), (firsts_, .inl (k_firsts, 64, .inl g27)), (lasts_, .inl (k_lasts, 64, .inl g29)), (froms_, .inl (k_froms, 64, .inl (upd F_froms size_.toNatClampNeg used_))), (tos_, .inl (k_tos, 64, .inl F_tos)), (pool_, .inl (k_pool, n_pool, .inr (.inl F_pool)))] : va_W) ++ ((fm (fun i9 => ((sa i9, .inr (10, [.int (st_literal i9), .int (st_scans i9), .int (st_freshOnly i9), .int (st_bound i9), .int (st_live i9), .int (st_soughtMask i9), .int (st_givenMask i9), .int (st_sought i9), .int (st_width i9), .int (st_predicate i9), .int (st_ordered i9), .int (st_shape i9), .long (st_fixed i9), .int (st_from i9), .int (st_to i9), .ref (st_a_roles i9), .ref (st_a_variables i9)])) : Nat × va_E))) ++ ((fm (fun i9 => ((st_a_roles i9, .inl (st_k_roles i9, 6, .inl (st_roles i9))) : Nat × va_E))) ++ ([(a1, .inr (3, [.int a1_size_, .int a1_highest_, .int a1_full_, .ref a1_keys_, .ref a1_stages_, .ref a1_amounts_, .ref a1_predicates_, .ref a1_next_, .ref a1_slots_, .ref a1_oldest_, .ref a1_newest_, .ref a1_known_, .ref a1_knownBefore_, .int a1_visible_])), (a1_keys_, .inl (k_a1_keys, 20000, .inr (.inl F_a1_keys))), (a1_next_, .inl (k_a1_next, 20000, .inl F_a1_next)), (a1_oldest_, .inl (k_a1_oldest, 64, .inl F_a1_oldest)), (a1_known_, .inl (k_a1_known, 64, .inl F_a1_known)), (a1_knownBefore_, .inl (k_a1_knownBefore, 64, .inl F_a1_knownBefore))] : va_W)))) H := hP
      have hD : va_D A (([(h0, .inr (4, [.int size_, .ref shapes_, .ref fixed_, .ref firsts_, .ref lasts_, .ref froms_, .ref tos_, .ref pool_, .int used_])), (shapes_, .inl (k_shapes, 64, .inl g22)), (fixed_, .inl (k_fixed, 64, .inr (.inl g25))), (firsts_, .inl (k_firsts, 64, .inl g27)), (lasts_, .inl (k_lasts, 64, .inl g29)), (froms_, .inl (k_froms, 64, .inl (upd F_froms size_.toNatClampNeg used_))), (tos_, .inl (k_tos, 64, .inl F_tos)), (pool_, .inl (k_pool, n_pool, .inr (.inl F_pool)))] : va_W) ++ ((fm (fun i9 => ((sa i9, .inr (10, [.int (st_literal i9), .int (st_scans i9), .int (st_freshOnly i9), .int (st_bound i9), .int (st_live i9), .int (st_soughtMask i9), .int (st_givenMask i9), .int (st_sought i9), .int (st_width i9), .int (st_predicate i9), .int (st_ordered i9), .int (st_shape i9), .long (st_fixed i9), .int (st_from i9), .int (st_to i9), .ref (st_a_roles i9), .ref (st_a_variables i9)])) : Nat × va_E))) ++ ((fm (fun i9 => ((st_a_roles i9, .inl (st_k_roles i9, 6, .inl (st_roles i9))) : Nat × va_E))) ++ ([(a1, .inr (3, [.int a1_size_, .int a1_highest_, .int a1_full_, .ref a1_keys_, .ref a1_stages_, .ref a1_amounts_, .ref a1_predicates_, .ref a1_next_, .ref a1_slots_, .ref a1_oldest_, .ref a1_newest_, .ref a1_known_, .ref a1_knownBefore_, .int a1_visible_])), (a1_keys_, .inl (k_a1_keys, 20000, .inr (.inl F_a1_keys))), (a1_next_, .inl (k_a1_next, 20000, .inl F_a1_next)), (a1_oldest_, .inl (k_a1_oldest, 64, .inl F_a1_oldest)), (a1_known_, .inl (k_a1_known, 64, .inl F_a1_known)), (a1_knownBefore_, .inl (k_a1_knownBefore, 64, .inl F_a1_knownBefore))] : va_W)))) := hD
      obtain ⟨g31, eg31⟩ : ∃ z9 : Nat → Int32, z9 = upd F_froms size_.toNatClampNeg used_ := ⟨_, rfl⟩
      rw [← eg31] at hP hD
      have hw := hw g31 eg31
      refine lv_aload_n hx hb dc_Ix_provide_162 rfl (lv_at hl 0 rfl) ?_
      refine lv_aload_n hx hb dc_Ix_provide_163 rfl (lv_at hl 1 rfl) ?_
      refine lv_aload_n hx hb dc_Ix_provide_164 rfl (lv_at hl 2 rfl) ?_
      refine lv_iload_n hx hb dc_Ix_provide_165 rfl (lv_at hl 3 rfl) ?_
      refine lv_iload hx hb dc_Ix_provide_166 (lv_at hl 4 rfl) ?_
      have hPc := hP.sub (ws' := (([(h0, .inr (4, [.int size_, .ref shapes_, .ref fixed_, .ref firsts_, .ref lasts_, .ref froms_, .ref tos_, .ref pool_, .int used_])), (pool_, .inl (k_pool, n_pool, .inr (.inl F_pool)))] : va_W) ++ ((fm (fun i9 => ((sa i9, .inr (10, [.int (st_literal i9), .int (st_scans i9), .int (st_freshOnly i9), .int (st_bound i9), .int (st_live i9), .int (st_soughtMask i9), .int (st_givenMask i9), .int (st_sought i9), .int (st_width i9), .int (st_predicate i9), .int (st_ordered i9), .int (st_shape i9), .long (st_fixed i9), .int (st_from i9), .int (st_to i9), .ref (st_a_roles i9), .ref (st_a_variables i9)])) : Nat × va_E))) ++ ((fm (fun i9 => ((st_a_roles i9, .inl (st_k_roles i9, 6, .inl (st_roles i9))) : Nat × va_E))) ++ ([(a1, .inr (3, [.int a1_size_, .int a1_highest_, .int a1_full_, .ref a1_keys_, .ref a1_stages_, .ref a1_amounts_, .ref a1_predicates_, .ref a1_next_, .ref a1_slots_, .ref a1_oldest_, .ref a1_newest_, .ref a1_known_, .ref a1_knownBefore_, .int a1_visible_])), (a1_keys_, .inl (k_a1_keys, 20000, .inr (.inl F_a1_keys))), (a1_next_, .inl (k_a1_next, 20000, .inl F_a1_next))] : va_W))))) [0, 7, 8, 9, 10, 11, 12, 13, 14, 15, 16, 17, 18, 19, 20, 21, 22, 23, 24, 25, 26, 27, 28, 29, 30, 31, 32, 33, 34] rfl
      have hDc := hD.sub (ws' := (([(h0, .inr (4, [.int size_, .ref shapes_, .ref fixed_, .ref firsts_, .ref lasts_, .ref froms_, .ref tos_, .ref pool_, .int used_])), (pool_, .inl (k_pool, n_pool, .inr (.inl F_pool)))] : va_W) ++ ((fm (fun i9 => ((sa i9, .inr (10, [.int (st_literal i9), .int (st_scans i9), .int (st_freshOnly i9), .int (st_bound i9), .int (st_live i9), .int (st_soughtMask i9), .int (st_givenMask i9), .int (st_sought i9), .int (st_width i9), .int (st_predicate i9), .int (st_ordered i9), .int (st_shape i9), .long (st_fixed i9), .int (st_from i9), .int (st_to i9), .ref (st_a_roles i9), .ref (st_a_variables i9)])) : Nat × va_E))) ++ ((fm (fun i9 => ((st_a_roles i9, .inl (st_k_roles i9, 6, .inl (st_roles i9))) : Nat × va_E))) ++ ([(a1, .inr (3, [.int a1_size_, .int a1_highest_, .int a1_full_, .ref a1_keys_, .ref a1_stages_, .ref a1_amounts_, .ref a1_predicates_, .ref a1_next_, .ref a1_slots_, .ref a1_oldest_, .ref a1_newest_, .ref a1_known_, .ref a1_knownBefore_, .int a1_visible_])), (a1_keys_, .inl (k_a1_keys, 20000, .inr (.inl F_a1_keys))), (a1_next_, .inl (k_a1_next, 20000, .inl F_a1_next))] : va_W))))) [0, 7, 8, 9, 10, 11, 12, 13, 14, 15, 16, 17, 18, 19, 20, 21, 22, 23, 24, 25, 26, 27, 28, 29, 30, 31, 32, 33, 34] (by decide) rfl
      have hKc := hK.sub (tys' := (([(k_pool, .long)] : List (ClassId × FieldType)) ++ ((fm (fun i9 => ((st_k_roles i9, .int) : ClassId × FieldType))) ++ ([(k_a1_keys, .long), (k_a1_next, .int)] : List (ClassId × FieldType))))) [6, 7, 8, 9, 10, 11, 12, 13, 14, 15, 16, 17, 18, 19, 20] rfl
      have hFc := va_free (wc := (([(h0, .inr (4, [.int size_, .ref shapes_, .ref fixed_, .ref firsts_, .ref lasts_, .ref froms_, .ref tos_, .ref pool_, .int used_])), (pool_, .inl (k_pool, n_pool, .inr (.inl F_pool)))] : va_W) ++ ((fm (fun i9 => ((sa i9, .inr (10, [.int (st_literal i9), .int (st_scans i9), .int (st_freshOnly i9), .int (st_bound i9), .int (st_live i9), .int (st_soughtMask i9), .int (st_givenMask i9), .int (st_sought i9), .int (st_width i9), .int (st_predicate i9), .int (st_ordered i9), .int (st_shape i9), .long (st_fixed i9), .int (st_from i9), .int (st_to i9), .ref (st_a_roles i9), .ref (st_a_variables i9)])) : Nat × va_E))) ++ ((fm (fun i9 => ((st_a_roles i9, .inl (st_k_roles i9, 6, .inl (st_roles i9))) : Nat × va_E))) ++ ([(a1, .inr (3, [.int a1_size_, .int a1_highest_, .int a1_full_, .ref a1_keys_, .ref a1_stages_, .ref a1_amounts_, .ref a1_predicates_, .ref a1_next_, .ref a1_slots_, .ref a1_oldest_, .ref a1_newest_, .ref a1_known_, .ref a1_knownBefore_, .int a1_visible_])), (a1_keys_, .inl (k_a1_keys, 20000, .inr (.inl F_a1_keys))), (a1_next_, .inl (k_a1_next, 20000, .inl F_a1_next))] : va_W))))) hD hS hA [0, 7, 8, 9, 10, 11, 12, 13, 14, 15, 16, 17, 18, 19, 20, 21, 22, 23, 24, 25, 26, 27, 28, 29, 30, 31, 32, 33, 34] rfl
      refine va_callv (va_runV (As := [.ref (sa X0), .ref a1, .int r3, .int r5]) (rest := []) ⟨hx, hb, hml, hown, hT⟩ (met_Ix_collect l dC dI n_pool h0 shapes_ fixed_ firsts_ lasts_ froms_ tos_ pool_ a1 a1_keys_ a1_stages_ a1_amounts_ a1_predicates_ a1_next_ a1_slots_ a1_oldest_ a1_newest_ a1_known_ a1_knownBefore_ r3 r5 size_ used_ F_pool a1_size_ a1_highest_ a1_full_ a1_visible_ F_a1_keys F_a1_next k_pool k_a1_keys k_a1_next gaps_Ix F_gaps_Ix sa st_literal st_scans st_freshOnly st_bound st_live st_soughtMask st_givenMask st_sought st_width st_predicate st_ordered st_shape st_fixed st_from st_to st_a_roles st_a_variables st_k_roles st_roles X0 H.size hw) (cwV 4 hT (gd_V wd_1149 wd_1151 sl_Ix_collect wd_10 wd_1152) rfl rfl rfl (by decide +kernel) ⟨Nat.le_of_ble_eq_true rfl, Nat.le_of_ble_eq_true rfl⟩) ⟨fun a U g mk q => by obtain ⟨q0, q1, qP, qK, qD, qZ0, qG0⟩ := q; exact ⟨q0, q1, qP, va_K.moved (u := U) (U := U.calling g mk a) (Vm.Alike.refl U.vm) qK, qD, va_Z.moved (u := U) (U := U.calling g mk a) (Vm.Alike.refl U.vm) qZ0, va_T.moved (u := U) (U := U.calling g mk a) (Vm.Alike.refl U.vm) qG0⟩, va_recv hK hP (q0 := 0) (ci := 4) rfl rfl, fun U hU hW => ⟨rfl, by rw [hU], by rw [hU]; exact hPc, va_K.moved hW.alike hKc, hDc.weaken (fun _ _ _ _ => trivial), by rw [hU]; exact va_Z.moved hW.alike ((hZ_Ix.kept (fun a h1 h2 => hS.2.1 a h1 h2)).narrow hFc), by rw [hU]; exact va_T.moved hW.alike ((hG_Ix.kept (fun a h1 h2 => hS.2.1 a h1 h2)).narrow hFc)⟩⟩ rfl rfl hl.1 rfl (lv_room (Nat.le_of_ble_eq_true rfl)) dc_Ix_provide_168 ⟨(Nat.le_of_ble_eq_true rfl), (Nat.le_of_ble_eq_true rfl)⟩) hS (fun q _ h => hFc q h) hFc (fun u9 t H1 locs ht hvm hw hB hz1 hk1 hS => ?_)
      obtain ⟨o32, o33⟩ := u9
      obtain ⟨hP1, hK1, hD1⟩ := hB
      rw [ht] at hP1
      have hK1 := va_K.moved hvm.symm hK1
      obtain ⟨hP, hD⟩ := va_join (wr := [(shapes_, .inl (k_shapes, 64, .inl g22)), (fixed_, .inl (k_fixed, 64, .inr (.inl g25))), (firsts_, .inl (k_firsts, 64, .inl g27)), (lasts_, .inl (k_lasts, 64, .inl g29)), (froms_, .inl (k_froms, 64, .inl g31)), (tos_, .inl (k_tos, 64, .inl F_tos)), (a1_oldest_, .inl (k_a1_oldest, 64, .inl F_a1_oldest)), (a1_known_, .inl (k_a1_known, 64, .inl F_a1_known)), (a1_knownBefore_, .inl (k_a1_knownBefore, 64, .inl F_a1_knownBefore))]) (w1 := (([(h0, .inr (4, [.int size_, .ref shapes_, .ref fixed_, .ref firsts_, .ref lasts_, .ref froms_, .ref tos_, .ref pool_, .int o32])), (pool_, .inl (k_pool, n_pool, .inr (.inl o33)))] : va_W) ++ ((fm (fun i9 => ((sa i9, .inr (10, [.int (st_literal i9), .int (st_scans i9), .int (st_freshOnly i9), .int (st_bound i9), .int (st_live i9), .int (st_soughtMask i9), .int (st_givenMask i9), .int (st_sought i9), .int (st_width i9), .int (st_predicate i9), .int (st_ordered i9), .int (st_shape i9), .long (st_fixed i9), .int (st_from i9), .int (st_to i9), .ref (st_a_roles i9), .ref (st_a_variables i9)])) : Nat × va_E))) ++ ((fm (fun i9 => ((st_a_roles i9, .inl (st_k_roles i9, 6, .inl (st_roles i9))) : Nat × va_E))) ++ ([(a1, .inr (3, [.int a1_size_, .int a1_highest_, .int a1_full_, .ref a1_keys_, .ref a1_stages_, .ref a1_amounts_, .ref a1_predicates_, .ref a1_next_, .ref a1_slots_, .ref a1_oldest_, .ref a1_newest_, .ref a1_known_, .ref a1_knownBefore_, .int a1_visible_])), (a1_keys_, .inl (k_a1_keys, 20000, .inr (.inl F_a1_keys))), (a1_next_, .inl (k_a1_next, 20000, .inl F_a1_next))] : va_W))))) hP hD [0, 7, 8, 9, 10, 11, 12, 13, 14, 15, 16, 17, 18, 19, 20, 21, 22, 23, 24, 25, 26, 27, 28, 29, 30, 31, 32, 33, 34] [1, 2, 3, 4, 5, 6, 35, 36, 37] rfl rfl (by decide) (by decide) hk1 hFc hP1 hD1
      have hK := (hK.sub (tys' := [(k_shapes, .int), (k_fixed, .long), (k_firsts, .int), (k_lasts, .int), (k_froms, .int), (k_tos, .int), (k_a1_oldest, .int), (k_a1_known, .int), (k_a1_knownBefore, .int)]) [0, 1, 2, 3, 4, 5, 21, 22, 23] rfl).app hK1
      generalize H1 = H at hP hS ⊢
      have hP : va_P (dC, dI) vwCl (([(shapes_, .inl (k_shapes, 64, .inl g22)), (fixed_, .inl (k_fixed, 64, .inr (.inl g25))), (firsts_, .inl (k_firsts, 64, .inl g27)), (lasts_, .inl (k_lasts, 64, .inl g29)), (froms_, .inl (k_froms, 64, .inl g31)), (tos_, .inl (k_tos, 64, .inl F_tos)), (a1_oldest_, .inl (k_a1_oldest, 64, .inl F_a1_oldest)), (a1_known_, .inl (k_a1_known, 64, .inl F_a1_known)), (a1_knownBefore_, .inl (k_a1_knownBefore, 64, .inl F_a1_knownBefore)), (h0, .inr (4, [.int size_, .ref shapes_, .ref fixed_, .ref firsts_, .ref lasts_, .ref froms_, .ref tos_, .ref pool_, .int o32])), (pool_, .inl (k_pool, n_pool, .inr (.inl o33)))] : va_W) ++ ((fm (fun i9 => ((sa i9, .inr (10, [.int (st_literal i9), .int (st_scans i9), .int (st_freshOnly i9), .int (st_bound i9), .int (st_live i9), .int (st_soughtMask i9), .int (st_givenMask i9), .int (st_sought i9), .int (st_width i9), .int (st_predicate i9), .int (st_ordered i9), .int (st_shape i9), .long (st_fixed i9), .int (st_from i9), .int (st_to i9), .ref (st_a_roles i9), .ref (st_a_variables i9)])) : Nat × va_E))) ++ ((fm (fun i9 => ((st_a_roles i9, .inl (st_k_roles i9, 6, .inl (st_roles i9))) : Nat × va_E))) ++ ([(a1, .inr (3, [.int a1_size_, .int a1_highest_, .int a1_full_, .ref a1_keys_, .ref a1_stages_, .ref a1_amounts_, .ref a1_predicates_, .ref a1_next_, .ref a1_slots_, .ref a1_oldest_, .ref a1_newest_, .ref a1_known_, .ref a1_knownBefore_, .int a1_visible_])), (a1_keys_, .inl (k_a1_keys, 20000, .inr (.inl F_a1_keys))), (a1_next_, .inl (k_a1_next, 20000, .inl F_a1_next))] : va_W)))) H := hP
      have hD : va_D A (([(shapes_, .inl (k_shapes, 64, .inl g22)), (fixed_, .inl (k_fixed, 64, .inr (.inl g25))), (firsts_, .inl (k_firsts, 64, .inl g27)), (lasts_, .inl (k_lasts, 64, .inl g29)), (froms_, .inl (k_froms, 64, .inl g31)), (tos_, .inl (k_tos, 64, .inl F_tos)), (a1_oldest_, .inl (k_a1_oldest, 64, .inl F_a1_oldest)), (a1_known_, .inl (k_a1_known, 64, .inl F_a1_known)), (a1_knownBefore_, .inl (k_a1_knownBefore, 64, .inl F_a1_knownBefore)), (h0, .inr (4, [.int size_, .ref shapes_, .ref fixed_, .ref firsts_, .ref lasts_, .ref froms_, .ref tos_, .ref pool_, .int o32])), (pool_, .inl (k_pool, n_pool, .inr (.inl o33)))] : va_W) ++ ((fm (fun i9 => ((sa i9, .inr (10, [.int (st_literal i9), .int (st_scans i9), .int (st_freshOnly i9), .int (st_bound i9), .int (st_live i9), .int (st_soughtMask i9), .int (st_givenMask i9), .int (st_sought i9), .int (st_width i9), .int (st_predicate i9), .int (st_ordered i9), .int (st_shape i9), .long (st_fixed i9), .int (st_from i9), .int (st_to i9), .ref (st_a_roles i9), .ref (st_a_variables i9)])) : Nat × va_E))) ++ ((fm (fun i9 => ((st_a_roles i9, .inl (st_k_roles i9, 6, .inl (st_roles i9))) : Nat × va_E))) ++ ([(a1, .inr (3, [.int a1_size_, .int a1_highest_, .int a1_full_, .ref a1_keys_, .ref a1_stages_, .ref a1_amounts_, .ref a1_predicates_, .ref a1_next_, .ref a1_slots_, .ref a1_oldest_, .ref a1_newest_, .ref a1_known_, .ref a1_knownBefore_, .int a1_visible_])), (a1_keys_, .inl (k_a1_keys, 20000, .inr (.inl F_a1_keys))), (a1_next_, .inl (k_a1_next, 20000, .inl F_a1_next))] : va_W)))) := hD
      have hK : va_K (dC, dI) vwCl (([(k_shapes, .int), (k_fixed, .long), (k_firsts, .int), (k_lasts, .int), (k_froms, .int), (k_tos, .int), (k_a1_oldest, .int), (k_a1_known, .int), (k_a1_knownBefore, .int), (k_pool, .long)] : List (ClassId × FieldType)) ++ ((fm (fun i9 => ((st_k_roles i9, .int) : ClassId × FieldType))) ++ ([(k_a1_keys, .long), (k_a1_next, .int)] : List (ClassId × FieldType)))) s := hK
      refine lv_aload_n hx hb dc_Ix_provide_171 rfl (lv_at hl 0 rfl) ?_
      refine va_get (D := (dC, dI)) (ci := 4) (v := .ref tos_) (C := "StrataBase$Indexes") (T := tb_Ix) (N := 9) hx hb hT in_Ix hown hK hP 9 rfl rfl 6 (by decide) (hT _ wd_358) (fun _ h9 => h9) rfl dc_Ix_provide_172 ?_
      refine lv_aload_n hx hb dc_Ix_provide_175 rfl (lv_at hl 0 rfl) ?_
      refine va_get (D := (dC, dI)) (ci := 4) (v := .int size_) (C := "StrataBase$Indexes") (T := tb_Ix) (N := 9) hx hb hT in_Ix hown hK hP 9 rfl rfl 0 (by decide) (hT _ wd_352) (fun _ h9 => h9) rfl dc_Ix_provide_176 ?_
      refine lv_aload_n hx hb dc_Ix_provide_179 rfl (lv_at hl 0 rfl) ?_
      refine va_get (D := (dC, dI)) (ci := 4) (v := .int o32) (C := "StrataBase$Indexes") (T := tb_Ix) (N := 9) hx hb hT in_Ix hown hK hP 9 rfl rfl 8 (by decide) (hT _ wd_360) (fun _ h9 => h9) rfl dc_Ix_provide_180 ?_
      obtain ⟨hv35, hw⟩ := hw
      refine va_iast hx hb hK hP hD hS 5 5 rfl rfl hv35 dc_Ix_provide_183 (fun H locs hP hD hS => ?_)
      have hP : va_P (dC, dI) vwCl (([(shapes_, .inl (k_shapes, 64, .inl g22)), (fixed_, .inl (k_fixed, 64, .inr (.inl g25))), (firsts_, .inl (k_firsts, 64, .inl g27)), (lasts_, .inl (k_lasts, 64, .inl g29)), (froms_, .inl (k_froms, 64, .inl g31)), (tos_, .inl (k_tos, 64, .inl (upd F_tos size_.toNatClampNeg o32))), (a1_oldest_, .inl (k_a1_oldest, 64, .inl F_a1_oldest)), (a1_known_, .inl (k_a1_known, 64, .inl F_a1_known)), (a1_knownBefore_, .inl (k_a1_knownBefore, 64, .inl F_a1_knownBefore)), (h0, .inr (4, [.int size_, .ref shapes_, .ref fixed_, .ref firsts_, .ref lasts_, .ref froms_, .ref tos_, .ref pool_, .int o32])), (pool_, .inl (k_pool, n_pool, .inr (.inl o33)))] : va_W) ++ ((fm (fun i9 => ((sa i9, .inr (10, [.int (st_literal i9), .int (st_scans i9), .int (st_freshOnly i9), .int (st_bound i9), .int (st_live i9), .int (st_soughtMask i9), .int (st_givenMask i9), .int (st_sought i9), .int (st_width i9), .int (st_predicate i9), .int (st_ordered i9), .int (st_shape i9), .long (st_fixed i9), .int (st_from i9), .int (st_to i9), .ref (st_a_roles i9), .ref (st_a_variables i9)])) : Nat × va_E))) ++ ((fm (fun i9 => ((st_a_roles i9, .inl (st_k_roles i9, 6, .inl (st_roles i9))) : Nat × va_E))) ++ ([(a1, .inr (3, [.int a1_size_, .int a1_highest_, .int a1_full_, .ref a1_keys_, .ref a1_stages_, .ref a1_amounts_, .ref a1_predicates_, .ref a1_next_, .ref a1_slots_, .ref a1_oldest_, .ref a1_newest_, .ref a1_known_, .ref a1_knownBefore_, .int a1_visible_])), (a1_keys_, .inl (k_a1_keys, 20000, .inr (.inl F_a1_keys))), (a1_next_, .inl (k_a1_next, 20000, .inl F_a1_next))] : va_W)))) H := hP
      have hD : va_D A (([(shapes_, .inl (k_shapes, 64, .inl g22)), (fixed_, .inl (k_fixed, 64, .inr (.inl g25))), (firsts_, .inl (k_firsts, 64, .inl g27)), (lasts_, .inl (k_lasts, 64, .inl g29)), (froms_, .inl (k_froms, 64, .inl g31)), (tos_, .inl (k_tos, 64, .inl (upd F_tos size_.toNatClampNeg o32))), (a1_oldest_, .inl (k_a1_oldest, 64, .inl F_a1_oldest)), (a1_known_, .inl (k_a1_known, 64, .inl F_a1_known)), (a1_knownBefore_, .inl (k_a1_knownBefore, 64, .inl F_a1_knownBefore)), (h0, .inr (4, [.int size_, .ref shapes_, .ref fixed_, .ref firsts_, .ref lasts_, .ref froms_, .ref tos_, .ref pool_, .int o32])), (pool_, .inl (k_pool, n_pool, .inr (.inl o33)))] : va_W) ++ ((fm (fun i9 => ((sa i9, .inr (10, [.int (st_literal i9), .int (st_scans i9), .int (st_freshOnly i9), .int (st_bound i9), .int (st_live i9), .int (st_soughtMask i9), .int (st_givenMask i9), .int (st_sought i9), .int (st_width i9), .int (st_predicate i9), .int (st_ordered i9), .int (st_shape i9), .long (st_fixed i9), .int (st_from i9), .int (st_to i9), .ref (st_a_roles i9), .ref (st_a_variables i9)])) : Nat × va_E))) ++ ((fm (fun i9 => ((st_a_roles i9, .inl (st_k_roles i9, 6, .inl (st_roles i9))) : Nat × va_E))) ++ ([(a1, .inr (3, [.int a1_size_, .int a1_highest_, .int a1_full_, .ref a1_keys_, .ref a1_stages_, .ref a1_amounts_, .ref a1_predicates_, .ref a1_next_, .ref a1_slots_, .ref a1_oldest_, .ref a1_newest_, .ref a1_known_, .ref a1_knownBefore_, .int a1_visible_])), (a1_keys_, .inl (k_a1_keys, 20000, .inr (.inl F_a1_keys))), (a1_next_, .inl (k_a1_next, 20000, .inl F_a1_next))] : va_W)))) := hD
      obtain ⟨g36, eg36⟩ : ∃ z9 : Nat → Int32, z9 = upd F_tos size_.toNatClampNeg o32 := ⟨_, rfl⟩
      rw [← eg36] at hP hD
      have hw := hw g36 eg36
      refine lv_aload_n hx hb dc_Ix_provide_184 rfl (lv_at hl 0 rfl) ?_
      refine lv_dup hx hb dc_Ix_provide_185 rfl ?_
      refine va_get (D := (dC, dI)) (ci := 4) (v := .int size_) (C := "StrataBase$Indexes") (T := tb_Ix) (N := 9) hx hb hT in_Ix hown hK hP 9 rfl rfl 0 (by decide) (hT _ wd_352) (fun _ h9 => h9) rfl dc_Ix_provide_186 ?_
      refine lv_iconst (v := 1) hx hb dc_Ix_provide_189 (by decide) ?_
      refine lv_iadd hx hb dc_Ix_provide_190 ?_
      refine lv_topi (fun y37 ey37 => ?_)
      have hw := hw y37 ey37
      refine va_put (D := (dC, dI)) (ci := 4) (v := .int y37) (ty := .int) (C := "StrataBase$Indexes") (T := tb_Ix) (N := 9) hx hb hT in_Ix ty_Ix tk_Ix nm_Ix hown hK hP hD hS 9 rfl rfl 0 (by decide) (hT _ wd_352) (fun _ h9 => h9) rfl (by decide +kernel) rfl rfl (Nat.le_of_ble_eq_true rfl) dc_Ix_provide_191 (fun H locs hP hD hS => ?_)
      have hP : va_P (dC, dI) vwCl (([(shapes_, .inl (k_shapes, 64, .inl g22)), (fixed_, .inl (k_fixed, 64, .inr (.inl g25))), (firsts_, .inl (k_firsts, 64, .inl g27)), (lasts_, .inl (k_lasts, 64, .inl g29)), (froms_, .inl (k_froms, 64, .inl g31)), (tos_, .inl (k_tos, 64, .inl g36)), (a1_oldest_, .inl (k_a1_oldest, 64, .inl F_a1_oldest)), (a1_known_, .inl (k_a1_known, 64, .inl F_a1_known)), (a1_knownBefore_, .inl (k_a1_knownBefore, 64, .inl F_a1_knownBefore)), (h0, .inr (4, [.int y37, .ref shapes_, .ref fixed_, .ref firsts_, .ref lasts_, .ref froms_, .ref tos_, .ref pool_, .int o32])), (pool_, .inl (k_pool, n_pool, .inr (.inl o33)))] : va_W) ++ ((fm (fun i9 => ((sa i9, .inr (10, [.int (st_literal i9), .int (st_scans i9), .int (st_freshOnly i9), .int (st_bound i9), .int (st_live i9), .int (st_soughtMask i9), .int (st_givenMask i9), .int (st_sought i9), .int (st_width i9), .int (st_predicate i9), .int (st_ordered i9), .int (st_shape i9), .long (st_fixed i9), .int (st_from i9), .int (st_to i9), .ref (st_a_roles i9), .ref (st_a_variables i9)])) : Nat × va_E))) ++ ((fm (fun i9 => ((st_a_roles i9, .inl (st_k_roles i9, 6, .inl (st_roles i9))) : Nat × va_E))) ++ ([(a1, .inr (3, [.int a1_size_, .int a1_highest_, .int a1_full_, .ref a1_keys_, .ref a1_stages_, .ref a1_amounts_, .ref a1_predicates_, .ref a1_next_, .ref a1_slots_, .ref a1_oldest_, .ref a1_newest_, .ref a1_known_, .ref a1_knownBefore_, .int a1_visible_])), (a1_keys_, .inl (k_a1_keys, 20000, .inr (.inl F_a1_keys))), (a1_next_, .inl (k_a1_next, 20000, .inl F_a1_next))] : va_W)))) H := hP
      have hD : va_D A (([(shapes_, .inl (k_shapes, 64, .inl g22)), (fixed_, .inl (k_fixed, 64, .inr (.inl g25))), (firsts_, .inl (k_firsts, 64, .inl g27)), (lasts_, .inl (k_lasts, 64, .inl g29)), (froms_, .inl (k_froms, 64, .inl g31)), (tos_, .inl (k_tos, 64, .inl g36)), (a1_oldest_, .inl (k_a1_oldest, 64, .inl F_a1_oldest)), (a1_known_, .inl (k_a1_known, 64, .inl F_a1_known)), (a1_knownBefore_, .inl (k_a1_knownBefore, 64, .inl F_a1_knownBefore)), (h0, .inr (4, [.int y37, .ref shapes_, .ref fixed_, .ref firsts_, .ref lasts_, .ref froms_, .ref tos_, .ref pool_, .int o32])), (pool_, .inl (k_pool, n_pool, .inr (.inl o33)))] : va_W) ++ ((fm (fun i9 => ((sa i9, .inr (10, [.int (st_literal i9), .int (st_scans i9), .int (st_freshOnly i9), .int (st_bound i9), .int (st_live i9), .int (st_soughtMask i9), .int (st_givenMask i9), .int (st_sought i9), .int (st_width i9), .int (st_predicate i9), .int (st_ordered i9), .int (st_shape i9), .long (st_fixed i9), .int (st_from i9), .int (st_to i9), .ref (st_a_roles i9), .ref (st_a_variables i9)])) : Nat × va_E))) ++ ((fm (fun i9 => ((st_a_roles i9, .inl (st_k_roles i9, 6, .inl (st_roles i9))) : Nat × va_E))) ++ ([(a1, .inr (3, [.int a1_size_, .int a1_highest_, .int a1_full_, .ref a1_keys_, .ref a1_stages_, .ref a1_amounts_, .ref a1_predicates_, .ref a1_next_, .ref a1_slots_, .ref a1_oldest_, .ref a1_newest_, .ref a1_known_, .ref a1_knownBefore_, .int a1_visible_])), (a1_keys_, .inl (k_a1_keys, 20000, .inr (.inl F_a1_keys))), (a1_next_, .inl (k_a1_next, 20000, .inl F_a1_next))] : va_W)))) := hD
      exact k19 (y37, o32, g22, g25, g27, g29, g31, g36, o33) hw _ _ _ ⟨hK.sub [0, 1, 2, 3, 4, 5, 9, 10, 11, 12, 13, 14, 15, 16, 17, 18, 19, 20, 21, 22, 23, 6, 7, 8] rfl, hP.sub [9, 0, 1, 2, 3, 4, 5, 10, 11, 12, 13, 14, 15, 16, 17, 18, 19, 20, 21, 22, 23, 24, 25, 26, 27, 28, 29, 30, 31, 32, 33, 34, 35, 36, 37, 6, 7, 8] rfl, hD.sub [9, 0, 1, 2, 3, 4, 5, 10, 11, 12, 13, 14, 15, 16, 17, 18, 19, 20, 21, 22, 23, 24, 25, 26, 27, 28, 29, 30, 31, 32, 33, 34, 35, 36, 37, 6, 7, 8] (by decide) rfl, hS, lv_sub hl [0, 1, 5] rfl⟩
  intro x9 hw H locs ls hI
  obtain ⟨v38, v39, v40, v41, v42, v43, v44, v45, v46⟩ := x9
  obtain ⟨hK, hP, hD, hS, hl⟩ := hI
  unfold jw_met_Ix_provide_194 at hw
  refine W.eq (g2 := F0 m 194 ls []) rfl ?_
  refine lv_aload_n hx hb dc_Ix_provide_194 rfl (lv_at hl 1 rfl) ?_
  refine lv_aload_n hx hb dc_Ix_provide_195 rfl (lv_at hl 0 rfl) ?_
  refine va_get (D := (dC, dI)) (ci := 4) (v := .ref froms_) (C := "StrataBase$Indexes") (T := tb_Ix) (N := 9) hx hb hT in_Ix hown hK hP 0 rfl rfl 5 (by decide) (hT _ wd_357) (fun _ h9 => h9) rfl dc_Ix_provide_196 ?_
  refine lv_iload hx hb dc_Ix_provide_199 (lv_at hl 2 rfl) ?_
  obtain ⟨hv47, hw⟩ := hw
  refine va_iald hx hb hK hP 5 4 rfl rfl hv47 dc_Ix_provide_201 ?_
  refine lv_topi (fun y48 ey48 => ?_)
  have hw := hw y48 ey48
  refine va_put (D := (dC, dI)) (ci := 10) (v := .int y48) (ty := .int) (C := "StrataBase$Step") (T := tb_St) (N := 17) hx hb hT in_St ty_St tk_St nm_St hown hK hP hD hS (8 + X0) (show ((([(h0, .inr (4, [.int v38, .ref shapes_, .ref fixed_, .ref firsts_, .ref lasts_, .ref froms_, .ref tos_, .ref pool_, .int v39])), (shapes_, .inl (k_shapes, 64, .inl v40)), (fixed_, .inl (k_fixed, 64, .inr (.inl v41))), (firsts_, .inl (k_firsts, 64, .inl v42)), (lasts_, .inl (k_lasts, 64, .inl v43)), (froms_, .inl (k_froms, 64, .inl v44)), (tos_, .inl (k_tos, 64, .inl v45)), (pool_, .inl (k_pool, n_pool, .inr (.inl v46)))] : va_W) ++ ((fm (fun i9 => ((sa i9, .inr (10, [.int (st_literal i9), .int (st_scans i9), .int (st_freshOnly i9), .int (st_bound i9), .int (st_live i9), .int (st_soughtMask i9), .int (st_givenMask i9), .int (st_sought i9), .int (st_width i9), .int (st_predicate i9), .int (st_ordered i9), .int (st_shape i9), .long (st_fixed i9), .int (st_from i9), .int (st_to i9), .ref (st_a_roles i9), .ref (st_a_variables i9)])) : Nat × va_E))) ++ ((fm (fun i9 => ((st_a_roles i9, .inl (st_k_roles i9, 6, .inl (st_roles i9))) : Nat × va_E))) ++ ([(a1, .inr (3, [.int a1_size_, .int a1_highest_, .int a1_full_, .ref a1_keys_, .ref a1_stages_, .ref a1_amounts_, .ref a1_predicates_, .ref a1_next_, .ref a1_slots_, .ref a1_oldest_, .ref a1_newest_, .ref a1_known_, .ref a1_knownBefore_, .int a1_visible_])), (a1_keys_, .inl (k_a1_keys, 20000, .inr (.inl F_a1_keys))), (a1_next_, .inl (k_a1_next, 20000, .inl F_a1_next)), (a1_oldest_, .inl (k_a1_oldest, 64, .inl F_a1_oldest)), (a1_known_, .inl (k_a1_known, 64, .inl F_a1_known)), (a1_knownBefore_, .inl (k_a1_knownBefore, 64, .inl F_a1_knownBefore))] : va_W)))) : va_W)[8 + X0]? = some (sa X0, .inr (10, [.int (st_literal X0), .int (st_scans X0), .int (st_freshOnly X0), .int (st_bound X0), .int (st_live X0), .int (st_soughtMask X0), .int (st_givenMask X0), .int (st_sought X0), .int (st_width X0), .int (st_predicate X0), .int (st_ordered X0), .int (st_shape X0), .long (st_fixed X0), .int (st_from X0), .int (st_to X0), .ref (st_a_roles X0), .ref (st_a_variables X0)])) from fm_get hX_X0 rfl) rfl 13 (by decide) (hT _ wd_412) (fun _ h9 => h9) rfl (by decide +kernel) rfl rfl (Nat.le_of_ble_eq_true rfl) dc_Ix_provide_202 (fun H locs hP hD hS => ?_)
  have hP : va_P (dC, dI) vwCl (([(h0, .inr (4, [.int v38, .ref shapes_, .ref fixed_, .ref firsts_, .ref lasts_, .ref froms_, .ref tos_, .ref pool_, .int v39])), (shapes_, .inl (k_shapes, 64, .inl v40)), (fixed_, .inl (k_fixed, 64, .inr (.inl v41))), (firsts_, .inl (k_firsts, 64, .inl v42)), (lasts_, .inl (k_lasts, 64, .inl v43)), (froms_, .inl (k_froms, 64, .inl v44)), (tos_, .inl (k_tos, 64, .inl v45)), (pool_, .inl (k_pool, n_pool, .inr (.inl v46)))] : va_W) ++ ((fm (fun i9 => ((sa i9, .inr (10, [.int (st_literal i9), .int (st_scans i9), .int (st_freshOnly i9), .int (st_bound i9), .int (st_live i9), .int (st_soughtMask i9), .int (st_givenMask i9), .int (st_sought i9), .int (st_width i9), .int (st_predicate i9), .int (st_ordered i9), .int (st_shape i9), .long (st_fixed i9), .int ((fup st_from X0 y48) i9), .int (st_to i9), .ref (st_a_roles i9), .ref (st_a_variables i9)])) : Nat × va_E))) ++ ((fm (fun i9 => ((st_a_roles i9, .inl (st_k_roles i9, 6, .inl (st_roles i9))) : Nat × va_E))) ++ ([(a1, .inr (3, [.int a1_size_, .int a1_highest_, .int a1_full_, .ref a1_keys_, .ref a1_stages_, .ref a1_amounts_, .ref a1_predicates_, .ref a1_next_, .ref a1_slots_, .ref a1_oldest_, .ref a1_newest_, .ref a1_known_, .ref a1_knownBefore_, .int a1_visible_])), (a1_keys_, .inl (k_a1_keys, 20000, .inr (.inl F_a1_keys))), (a1_next_, .inl (k_a1_next, 20000, .inl F_a1_next)), (a1_oldest_, .inl (k_a1_oldest, 64, .inl F_a1_oldest)), (a1_known_, .inl (k_a1_known, 64, .inl F_a1_known)), (a1_knownBefore_, .inl (k_a1_knownBefore, 64, .inl F_a1_knownBefore))] : va_W)))) H := Eq.mp (congrArg (fun z9 => va_P (dC, dI) vwCl z9 H) (fm_set (L := ([(h0, .inr (4, [.int v38, .ref shapes_, .ref fixed_, .ref firsts_, .ref lasts_, .ref froms_, .ref tos_, .ref pool_, .int v39])), (shapes_, .inl (k_shapes, 64, .inl v40)), (fixed_, .inl (k_fixed, 64, .inr (.inl v41))), (firsts_, .inl (k_firsts, 64, .inl v42)), (lasts_, .inl (k_lasts, 64, .inl v43)), (froms_, .inl (k_froms, 64, .inl v44)), (tos_, .inl (k_tos, 64, .inl v45)), (pool_, .inl (k_pool, n_pool, .inr (.inl v46)))] : va_W)) (R := ((fm (fun i9 => ((st_a_roles i9, .inl (st_k_roles i9, 6, .inl (st_roles i9))) : Nat × va_E))) ++ ([(a1, .inr (3, [.int a1_size_, .int a1_highest_, .int a1_full_, .ref a1_keys_, .ref a1_stages_, .ref a1_amounts_, .ref a1_predicates_, .ref a1_next_, .ref a1_slots_, .ref a1_oldest_, .ref a1_newest_, .ref a1_known_, .ref a1_knownBefore_, .int a1_visible_])), (a1_keys_, .inl (k_a1_keys, 20000, .inr (.inl F_a1_keys))), (a1_next_, .inl (k_a1_next, 20000, .inl F_a1_next)), (a1_oldest_, .inl (k_a1_oldest, 64, .inl F_a1_oldest)), (a1_known_, .inl (k_a1_known, 64, .inl F_a1_known)), (a1_knownBefore_, .inl (k_a1_knownBefore, 64, .inl F_a1_knownBefore))] : va_W))) (g := fun i9 => ((sa i9, .inr (10, [.int (st_literal i9), .int (st_scans i9), .int (st_freshOnly i9), .int (st_bound i9), .int (st_live i9), .int (st_soughtMask i9), .int (st_givenMask i9), .int (st_sought i9), .int (st_width i9), .int (st_predicate i9), .int (st_ordered i9), .int (st_shape i9), .long (st_fixed i9), .int (st_from i9), .int (st_to i9), .ref (st_a_roles i9), .ref (st_a_variables i9)])) : Nat × va_E)) (g2 := fun i9 => ((sa i9, .inr (10, [.int (st_literal i9), .int (st_scans i9), .int (st_freshOnly i9), .int (st_bound i9), .int (st_live i9), .int (st_soughtMask i9), .int (st_givenMask i9), .int (st_sought i9), .int (st_width i9), .int (st_predicate i9), .int (st_ordered i9), .int (st_shape i9), .long (st_fixed i9), .int ((fup st_from X0 y48) i9), .int (st_to i9), .ref (st_a_roles i9), .ref (st_a_variables i9)])) : Nat × va_E)) hX_X0 rfl (congrArg (fun z9 => ((sa X0, .inr (10, [.int (st_literal X0), .int (st_scans X0), .int (st_freshOnly X0), .int (st_bound X0), .int (st_live X0), .int (st_soughtMask X0), .int (st_givenMask X0), .int (st_sought X0), .int (st_width X0), .int (st_predicate X0), .int (st_ordered X0), .int (st_shape X0), .long (st_fixed X0), .int z9, .int (st_to X0), .ref (st_a_roles X0), .ref (st_a_variables X0)])) : Nat × va_E)) (fup_self st_from X0 y48).symm) (fun i8 h8 => congrArg (fun z9 => ((sa i8, .inr (10, [.int (st_literal i8), .int (st_scans i8), .int (st_freshOnly i8), .int (st_bound i8), .int (st_live i8), .int (st_soughtMask i8), .int (st_givenMask i8), .int (st_sought i8), .int (st_width i8), .int (st_predicate i8), .int (st_ordered i8), .int (st_shape i8), .long (st_fixed i8), .int z9, .int (st_to i8), .ref (st_a_roles i8), .ref (st_a_variables i8)])) : Nat × va_E)) (fup_ne st_from y48 h8)))) hP
  have hD : va_D A (([(h0, .inr (4, [.int v38, .ref shapes_, .ref fixed_, .ref firsts_, .ref lasts_, .ref froms_, .ref tos_, .ref pool_, .int v39])), (shapes_, .inl (k_shapes, 64, .inl v40)), (fixed_, .inl (k_fixed, 64, .inr (.inl v41))), (firsts_, .inl (k_firsts, 64, .inl v42)), (lasts_, .inl (k_lasts, 64, .inl v43)), (froms_, .inl (k_froms, 64, .inl v44)), (tos_, .inl (k_tos, 64, .inl v45)), (pool_, .inl (k_pool, n_pool, .inr (.inl v46)))] : va_W) ++ ((fm (fun i9 => ((sa i9, .inr (10, [.int (st_literal i9), .int (st_scans i9), .int (st_freshOnly i9), .int (st_bound i9), .int (st_live i9), .int (st_soughtMask i9), .int (st_givenMask i9), .int (st_sought i9), .int (st_width i9), .int (st_predicate i9), .int (st_ordered i9), .int (st_shape i9), .long (st_fixed i9), .int ((fup st_from X0 y48) i9), .int (st_to i9), .ref (st_a_roles i9), .ref (st_a_variables i9)])) : Nat × va_E))) ++ ((fm (fun i9 => ((st_a_roles i9, .inl (st_k_roles i9, 6, .inl (st_roles i9))) : Nat × va_E))) ++ ([(a1, .inr (3, [.int a1_size_, .int a1_highest_, .int a1_full_, .ref a1_keys_, .ref a1_stages_, .ref a1_amounts_, .ref a1_predicates_, .ref a1_next_, .ref a1_slots_, .ref a1_oldest_, .ref a1_newest_, .ref a1_known_, .ref a1_knownBefore_, .int a1_visible_])), (a1_keys_, .inl (k_a1_keys, 20000, .inr (.inl F_a1_keys))), (a1_next_, .inl (k_a1_next, 20000, .inl F_a1_next)), (a1_oldest_, .inl (k_a1_oldest, 64, .inl F_a1_oldest)), (a1_known_, .inl (k_a1_known, 64, .inl F_a1_known)), (a1_knownBefore_, .inl (k_a1_knownBefore, 64, .inl F_a1_knownBefore))] : va_W)))) := Eq.mp (congrArg (fun z9 => va_D A z9) (fm_set (L := ([(h0, .inr (4, [.int v38, .ref shapes_, .ref fixed_, .ref firsts_, .ref lasts_, .ref froms_, .ref tos_, .ref pool_, .int v39])), (shapes_, .inl (k_shapes, 64, .inl v40)), (fixed_, .inl (k_fixed, 64, .inr (.inl v41))), (firsts_, .inl (k_firsts, 64, .inl v42)), (lasts_, .inl (k_lasts, 64, .inl v43)), (froms_, .inl (k_froms, 64, .inl v44)), (tos_, .inl (k_tos, 64, .inl v45)), (pool_, .inl (k_pool, n_pool, .inr (.inl v46)))] : va_W)) (R := ((fm (fun i9 => ((st_a_roles i9, .inl (st_k_roles i9, 6, .inl (st_roles i9))) : Nat × va_E))) ++ ([(a1, .inr (3, [.int a1_size_, .int a1_highest_, .int a1_full_, .ref a1_keys_, .ref a1_stages_, .ref a1_amounts_, .ref a1_predicates_, .ref a1_next_, .ref a1_slots_, .ref a1_oldest_, .ref a1_newest_, .ref a1_known_, .ref a1_knownBefore_, .int a1_visible_])), (a1_keys_, .inl (k_a1_keys, 20000, .inr (.inl F_a1_keys))), (a1_next_, .inl (k_a1_next, 20000, .inl F_a1_next)), (a1_oldest_, .inl (k_a1_oldest, 64, .inl F_a1_oldest)), (a1_known_, .inl (k_a1_known, 64, .inl F_a1_known)), (a1_knownBefore_, .inl (k_a1_knownBefore, 64, .inl F_a1_knownBefore))] : va_W))) (g := fun i9 => ((sa i9, .inr (10, [.int (st_literal i9), .int (st_scans i9), .int (st_freshOnly i9), .int (st_bound i9), .int (st_live i9), .int (st_soughtMask i9), .int (st_givenMask i9), .int (st_sought i9), .int (st_width i9), .int (st_predicate i9), .int (st_ordered i9), .int (st_shape i9), .long (st_fixed i9), .int (st_from i9), .int (st_to i9), .ref (st_a_roles i9), .ref (st_a_variables i9)])) : Nat × va_E)) (g2 := fun i9 => ((sa i9, .inr (10, [.int (st_literal i9), .int (st_scans i9), .int (st_freshOnly i9), .int (st_bound i9), .int (st_live i9), .int (st_soughtMask i9), .int (st_givenMask i9), .int (st_sought i9), .int (st_width i9), .int (st_predicate i9), .int (st_ordered i9), .int (st_shape i9), .long (st_fixed i9), .int ((fup st_from X0 y48) i9), .int (st_to i9), .ref (st_a_roles i9), .ref (st_a_variables i9)])) : Nat × va_E)) hX_X0 rfl (congrArg (fun z9 => ((sa X0, .inr (10, [.int (st_literal X0), .int (st_scans X0), .int (st_freshOnly X0), .int (st_bound X0), .int (st_live X0), .int (st_soughtMask X0), .int (st_givenMask X0), .int (st_sought X0), .int (st_width X0), .int (st_predicate X0), .int (st_ordered X0), .int (st_shape X0), .long (st_fixed X0), .int z9, .int (st_to X0), .ref (st_a_roles X0), .ref (st_a_variables X0)])) : Nat × va_E)) (fup_self st_from X0 y48).symm) (fun i8 h8 => congrArg (fun z9 => ((sa i8, .inr (10, [.int (st_literal i8), .int (st_scans i8), .int (st_freshOnly i8), .int (st_bound i8), .int (st_live i8), .int (st_soughtMask i8), .int (st_givenMask i8), .int (st_sought i8), .int (st_width i8), .int (st_predicate i8), .int (st_ordered i8), .int (st_shape i8), .long (st_fixed i8), .int z9, .int (st_to i8), .ref (st_a_roles i8), .ref (st_a_variables i8)])) : Nat × va_E)) (fup_ne st_from y48 h8)))) hD
  obtain ⟨g49, eg49⟩ : ∃ z9 : Nat → Int32, z9 = fup st_from X0 y48 := ⟨_, rfl⟩
  rw [← eg49] at hP hD
  have hw := hw g49 eg49
  have hP : va_P (dC, dI) vwCl (([(h0, .inr (4, [.int v38, .ref shapes_, .ref fixed_, .ref firsts_, .ref lasts_, .ref froms_, .ref tos_, .ref pool_, .int v39])), (shapes_, .inl (k_shapes, 64, .inl v40)), (fixed_, .inl (k_fixed, 64, .inr (.inl v41))), (firsts_, .inl (k_firsts, 64, .inl v42)), (lasts_, .inl (k_lasts, 64, .inl v43)), (froms_, .inl (k_froms, 64, .inl v44)), (tos_, .inl (k_tos, 64, .inl v45)), (pool_, .inl (k_pool, n_pool, .inr (.inl v46)))] : va_W) ++ ((fm (fun i9 => ((sa i9, .inr (10, [.int (st_literal i9), .int (st_scans i9), .int (st_freshOnly i9), .int (st_bound i9), .int (st_live i9), .int (st_soughtMask i9), .int (st_givenMask i9), .int (st_sought i9), .int (st_width i9), .int (st_predicate i9), .int (st_ordered i9), .int (st_shape i9), .long (st_fixed i9), .int (g49 i9), .int (st_to i9), .ref (st_a_roles i9), .ref (st_a_variables i9)])) : Nat × va_E))) ++ ((fm (fun i9 => ((st_a_roles i9, .inl (st_k_roles i9, 6, .inl (st_roles i9))) : Nat × va_E))) ++ ([(a1, .inr (3, [.int a1_size_, .int a1_highest_, .int a1_full_, .ref a1_keys_, .ref a1_stages_, .ref a1_amounts_, .ref a1_predicates_, .ref a1_next_, .ref a1_slots_, .ref a1_oldest_, .ref a1_newest_, .ref a1_known_, .ref a1_knownBefore_, .int a1_visible_])), (a1_keys_, .inl (k_a1_keys, 20000, .inr (.inl F_a1_keys))), (a1_next_, .inl (k_a1_next, 20000, .inl F_a1_next)), (a1_oldest_, .inl (k_a1_oldest, 64, .inl F_a1_oldest)), (a1_known_, .inl (k_a1_known, 64, .inl F_a1_known)), (a1_knownBefore_, .inl (k_a1_knownBefore, 64, .inl F_a1_knownBefore))] : va_W)))) H := hP
  have hD : va_D A (([(h0, .inr (4, [.int v38, .ref shapes_, .ref fixed_, .ref firsts_, .ref lasts_, .ref froms_, .ref tos_, .ref pool_, .int v39])), (shapes_, .inl (k_shapes, 64, .inl v40)), (fixed_, .inl (k_fixed, 64, .inr (.inl v41))), (firsts_, .inl (k_firsts, 64, .inl v42)), (lasts_, .inl (k_lasts, 64, .inl v43)), (froms_, .inl (k_froms, 64, .inl v44)), (tos_, .inl (k_tos, 64, .inl v45)), (pool_, .inl (k_pool, n_pool, .inr (.inl v46)))] : va_W) ++ ((fm (fun i9 => ((sa i9, .inr (10, [.int (st_literal i9), .int (st_scans i9), .int (st_freshOnly i9), .int (st_bound i9), .int (st_live i9), .int (st_soughtMask i9), .int (st_givenMask i9), .int (st_sought i9), .int (st_width i9), .int (st_predicate i9), .int (st_ordered i9), .int (st_shape i9), .long (st_fixed i9), .int (g49 i9), .int (st_to i9), .ref (st_a_roles i9), .ref (st_a_variables i9)])) : Nat × va_E))) ++ ((fm (fun i9 => ((st_a_roles i9, .inl (st_k_roles i9, 6, .inl (st_roles i9))) : Nat × va_E))) ++ ([(a1, .inr (3, [.int a1_size_, .int a1_highest_, .int a1_full_, .ref a1_keys_, .ref a1_stages_, .ref a1_amounts_, .ref a1_predicates_, .ref a1_next_, .ref a1_slots_, .ref a1_oldest_, .ref a1_newest_, .ref a1_known_, .ref a1_knownBefore_, .int a1_visible_])), (a1_keys_, .inl (k_a1_keys, 20000, .inr (.inl F_a1_keys))), (a1_next_, .inl (k_a1_next, 20000, .inl F_a1_next)), (a1_oldest_, .inl (k_a1_oldest, 64, .inl F_a1_oldest)), (a1_known_, .inl (k_a1_known, 64, .inl F_a1_known)), (a1_knownBefore_, .inl (k_a1_knownBefore, 64, .inl F_a1_knownBefore))] : va_W)))) := hD
  refine lv_aload_n hx hb dc_Ix_provide_205 rfl (lv_at hl 1 rfl) ?_
  refine lv_aload_n hx hb dc_Ix_provide_206 rfl (lv_at hl 0 rfl) ?_
  refine va_get (D := (dC, dI)) (ci := 4) (v := .ref tos_) (C := "StrataBase$Indexes") (T := tb_Ix) (N := 9) hx hb hT in_Ix hown hK hP 0 rfl rfl 6 (by decide) (hT _ wd_358) (fun _ h9 => h9) rfl dc_Ix_provide_207 ?_
  refine lv_iload hx hb dc_Ix_provide_210 (lv_at hl 2 rfl) ?_
  obtain ⟨hv50, hw⟩ := hw
  refine va_iald hx hb hK hP 6 5 rfl rfl hv50 dc_Ix_provide_212 ?_
  refine lv_topi (fun y51 ey51 => ?_)
  have hw := hw y51 ey51
  refine va_put (D := (dC, dI)) (ci := 10) (v := .int y51) (ty := .int) (C := "StrataBase$Step") (T := tb_St) (N := 17) hx hb hT in_St ty_St tk_St nm_St hown hK hP hD hS (8 + X0) (show ((([(h0, .inr (4, [.int v38, .ref shapes_, .ref fixed_, .ref firsts_, .ref lasts_, .ref froms_, .ref tos_, .ref pool_, .int v39])), (shapes_, .inl (k_shapes, 64, .inl v40)), (fixed_, .inl (k_fixed, 64, .inr (.inl v41))), (firsts_, .inl (k_firsts, 64, .inl v42)), (lasts_, .inl (k_lasts, 64, .inl v43)), (froms_, .inl (k_froms, 64, .inl v44)), (tos_, .inl (k_tos, 64, .inl v45)), (pool_, .inl (k_pool, n_pool, .inr (.inl v46)))] : va_W) ++ ((fm (fun i9 => ((sa i9, .inr (10, [.int (st_literal i9), .int (st_scans i9), .int (st_freshOnly i9), .int (st_bound i9), .int (st_live i9), .int (st_soughtMask i9), .int (st_givenMask i9), .int (st_sought i9), .int (st_width i9), .int (st_predicate i9), .int (st_ordered i9), .int (st_shape i9), .long (st_fixed i9), .int (g49 i9), .int (st_to i9), .ref (st_a_roles i9), .ref (st_a_variables i9)])) : Nat × va_E))) ++ ((fm (fun i9 => ((st_a_roles i9, .inl (st_k_roles i9, 6, .inl (st_roles i9))) : Nat × va_E))) ++ ([(a1, .inr (3, [.int a1_size_, .int a1_highest_, .int a1_full_, .ref a1_keys_, .ref a1_stages_, .ref a1_amounts_, .ref a1_predicates_, .ref a1_next_, .ref a1_slots_, .ref a1_oldest_, .ref a1_newest_, .ref a1_known_, .ref a1_knownBefore_, .int a1_visible_])), (a1_keys_, .inl (k_a1_keys, 20000, .inr (.inl F_a1_keys))), (a1_next_, .inl (k_a1_next, 20000, .inl F_a1_next)), (a1_oldest_, .inl (k_a1_oldest, 64, .inl F_a1_oldest)), (a1_known_, .inl (k_a1_known, 64, .inl F_a1_known)), (a1_knownBefore_, .inl (k_a1_knownBefore, 64, .inl F_a1_knownBefore))] : va_W)))) : va_W)[8 + X0]? = some (sa X0, .inr (10, [.int (st_literal X0), .int (st_scans X0), .int (st_freshOnly X0), .int (st_bound X0), .int (st_live X0), .int (st_soughtMask X0), .int (st_givenMask X0), .int (st_sought X0), .int (st_width X0), .int (st_predicate X0), .int (st_ordered X0), .int (st_shape X0), .long (st_fixed X0), .int (g49 X0), .int (st_to X0), .ref (st_a_roles X0), .ref (st_a_variables X0)])) from fm_get hX_X0 rfl) rfl 14 (by decide) (hT _ wd_414) (fun _ h9 => h9) rfl (by decide +kernel) rfl rfl (Nat.le_of_ble_eq_true rfl) dc_Ix_provide_213 (fun H locs hP hD hS => ?_)
  have hP : va_P (dC, dI) vwCl (([(h0, .inr (4, [.int v38, .ref shapes_, .ref fixed_, .ref firsts_, .ref lasts_, .ref froms_, .ref tos_, .ref pool_, .int v39])), (shapes_, .inl (k_shapes, 64, .inl v40)), (fixed_, .inl (k_fixed, 64, .inr (.inl v41))), (firsts_, .inl (k_firsts, 64, .inl v42)), (lasts_, .inl (k_lasts, 64, .inl v43)), (froms_, .inl (k_froms, 64, .inl v44)), (tos_, .inl (k_tos, 64, .inl v45)), (pool_, .inl (k_pool, n_pool, .inr (.inl v46)))] : va_W) ++ ((fm (fun i9 => ((sa i9, .inr (10, [.int (st_literal i9), .int (st_scans i9), .int (st_freshOnly i9), .int (st_bound i9), .int (st_live i9), .int (st_soughtMask i9), .int (st_givenMask i9), .int (st_sought i9), .int (st_width i9), .int (st_predicate i9), .int (st_ordered i9), .int (st_shape i9), .long (st_fixed i9), .int (g49 i9), .int ((fup st_to X0 y51) i9), .ref (st_a_roles i9), .ref (st_a_variables i9)])) : Nat × va_E))) ++ ((fm (fun i9 => ((st_a_roles i9, .inl (st_k_roles i9, 6, .inl (st_roles i9))) : Nat × va_E))) ++ ([(a1, .inr (3, [.int a1_size_, .int a1_highest_, .int a1_full_, .ref a1_keys_, .ref a1_stages_, .ref a1_amounts_, .ref a1_predicates_, .ref a1_next_, .ref a1_slots_, .ref a1_oldest_, .ref a1_newest_, .ref a1_known_, .ref a1_knownBefore_, .int a1_visible_])), (a1_keys_, .inl (k_a1_keys, 20000, .inr (.inl F_a1_keys))), (a1_next_, .inl (k_a1_next, 20000, .inl F_a1_next)), (a1_oldest_, .inl (k_a1_oldest, 64, .inl F_a1_oldest)), (a1_known_, .inl (k_a1_known, 64, .inl F_a1_known)), (a1_knownBefore_, .inl (k_a1_knownBefore, 64, .inl F_a1_knownBefore))] : va_W)))) H := Eq.mp (congrArg (fun z9 => va_P (dC, dI) vwCl z9 H) (fm_set (L := ([(h0, .inr (4, [.int v38, .ref shapes_, .ref fixed_, .ref firsts_, .ref lasts_, .ref froms_, .ref tos_, .ref pool_, .int v39])), (shapes_, .inl (k_shapes, 64, .inl v40)), (fixed_, .inl (k_fixed, 64, .inr (.inl v41))), (firsts_, .inl (k_firsts, 64, .inl v42)), (lasts_, .inl (k_lasts, 64, .inl v43)), (froms_, .inl (k_froms, 64, .inl v44)), (tos_, .inl (k_tos, 64, .inl v45)), (pool_, .inl (k_pool, n_pool, .inr (.inl v46)))] : va_W)) (R := ((fm (fun i9 => ((st_a_roles i9, .inl (st_k_roles i9, 6, .inl (st_roles i9))) : Nat × va_E))) ++ ([(a1, .inr (3, [.int a1_size_, .int a1_highest_, .int a1_full_, .ref a1_keys_, .ref a1_stages_, .ref a1_amounts_, .ref a1_predicates_, .ref a1_next_, .ref a1_slots_, .ref a1_oldest_, .ref a1_newest_, .ref a1_known_, .ref a1_knownBefore_, .int a1_visible_])), (a1_keys_, .inl (k_a1_keys, 20000, .inr (.inl F_a1_keys))), (a1_next_, .inl (k_a1_next, 20000, .inl F_a1_next)), (a1_oldest_, .inl (k_a1_oldest, 64, .inl F_a1_oldest)), (a1_known_, .inl (k_a1_known, 64, .inl F_a1_known)), (a1_knownBefore_, .inl (k_a1_knownBefore, 64, .inl F_a1_knownBefore))] : va_W))) (g := fun i9 => ((sa i9, .inr (10, [.int (st_literal i9), .int (st_scans i9), .int (st_freshOnly i9), .int (st_bound i9), .int (st_live i9), .int (st_soughtMask i9), .int (st_givenMask i9), .int (st_sought i9), .int (st_width i9), .int (st_predicate i9), .int (st_ordered i9), .int (st_shape i9), .long (st_fixed i9), .int (g49 i9), .int (st_to i9), .ref (st_a_roles i9), .ref (st_a_variables i9)])) : Nat × va_E)) (g2 := fun i9 => ((sa i9, .inr (10, [.int (st_literal i9), .int (st_scans i9), .int (st_freshOnly i9), .int (st_bound i9), .int (st_live i9), .int (st_soughtMask i9), .int (st_givenMask i9), .int (st_sought i9), .int (st_width i9), .int (st_predicate i9), .int (st_ordered i9), .int (st_shape i9), .long (st_fixed i9), .int (g49 i9), .int ((fup st_to X0 y51) i9), .ref (st_a_roles i9), .ref (st_a_variables i9)])) : Nat × va_E)) hX_X0 rfl (congrArg (fun z9 => ((sa X0, .inr (10, [.int (st_literal X0), .int (st_scans X0), .int (st_freshOnly X0), .int (st_bound X0), .int (st_live X0), .int (st_soughtMask X0), .int (st_givenMask X0), .int (st_sought X0), .int (st_width X0), .int (st_predicate X0), .int (st_ordered X0), .int (st_shape X0), .long (st_fixed X0), .int (g49 X0), .int z9, .ref (st_a_roles X0), .ref (st_a_variables X0)])) : Nat × va_E)) (fup_self st_to X0 y51).symm) (fun i8 h8 => congrArg (fun z9 => ((sa i8, .inr (10, [.int (st_literal i8), .int (st_scans i8), .int (st_freshOnly i8), .int (st_bound i8), .int (st_live i8), .int (st_soughtMask i8), .int (st_givenMask i8), .int (st_sought i8), .int (st_width i8), .int (st_predicate i8), .int (st_ordered i8), .int (st_shape i8), .long (st_fixed i8), .int (g49 i8), .int z9, .ref (st_a_roles i8), .ref (st_a_variables i8)])) : Nat × va_E)) (fup_ne st_to y51 h8)))) hP
  have hD : va_D A (([(h0, .inr (4, [.int v38, .ref shapes_, .ref fixed_, .ref firsts_, .ref lasts_, .ref froms_, .ref tos_, .ref pool_, .int v39])), (shapes_, .inl (k_shapes, 64, .inl v40)), (fixed_, .inl (k_fixed, 64, .inr (.inl v41))), (firsts_, .inl (k_firsts, 64, .inl v42)), (lasts_, .inl (k_lasts, 64, .inl v43)), (froms_, .inl (k_froms, 64, .inl v44)), (tos_, .inl (k_tos, 64, .inl v45)), (pool_, .inl (k_pool, n_pool, .inr (.inl v46)))] : va_W) ++ ((fm (fun i9 => ((sa i9, .inr (10, [.int (st_literal i9), .int (st_scans i9), .int (st_freshOnly i9), .int (st_bound i9), .int (st_live i9), .int (st_soughtMask i9), .int (st_givenMask i9), .int (st_sought i9), .int (st_width i9), .int (st_predicate i9), .int (st_ordered i9), .int (st_shape i9), .long (st_fixed i9), .int (g49 i9), .int ((fup st_to X0 y51) i9), .ref (st_a_roles i9), .ref (st_a_variables i9)])) : Nat × va_E))) ++ ((fm (fun i9 => ((st_a_roles i9, .inl (st_k_roles i9, 6, .inl (st_roles i9))) : Nat × va_E))) ++ ([(a1, .inr (3, [.int a1_size_, .int a1_highest_, .int a1_full_, .ref a1_keys_, .ref a1_stages_, .ref a1_amounts_, .ref a1_predicates_, .ref a1_next_, .ref a1_slots_, .ref a1_oldest_, .ref a1_newest_, .ref a1_known_, .ref a1_knownBefore_, .int a1_visible_])), (a1_keys_, .inl (k_a1_keys, 20000, .inr (.inl F_a1_keys))), (a1_next_, .inl (k_a1_next, 20000, .inl F_a1_next)), (a1_oldest_, .inl (k_a1_oldest, 64, .inl F_a1_oldest)), (a1_known_, .inl (k_a1_known, 64, .inl F_a1_known)), (a1_knownBefore_, .inl (k_a1_knownBefore, 64, .inl F_a1_knownBefore))] : va_W)))) := Eq.mp (congrArg (fun z9 => va_D A z9) (fm_set (L := ([(h0, .inr (4, [.int v38, .ref shapes_, .ref fixed_, .ref firsts_, .ref lasts_, .ref froms_, .ref tos_, .ref pool_, .int v39])), (shapes_, .inl (k_shapes, 64, .inl v40)), (fixed_, .inl (k_fixed, 64, .inr (.inl v41))), (firsts_, .inl (k_firsts, 64, .inl v42)), (lasts_, .inl (k_lasts, 64, .inl v43)), (froms_, .inl (k_froms, 64, .inl v44)), (tos_, .inl (k_tos, 64, .inl v45)), (pool_, .inl (k_pool, n_pool, .inr (.inl v46)))] : va_W)) (R := ((fm (fun i9 => ((st_a_roles i9, .inl (st_k_roles i9, 6, .inl (st_roles i9))) : Nat × va_E))) ++ ([(a1, .inr (3, [.int a1_size_, .int a1_highest_, .int a1_full_, .ref a1_keys_, .ref a1_stages_, .ref a1_amounts_, .ref a1_predicates_, .ref a1_next_, .ref a1_slots_, .ref a1_oldest_, .ref a1_newest_, .ref a1_known_, .ref a1_knownBefore_, .int a1_visible_])), (a1_keys_, .inl (k_a1_keys, 20000, .inr (.inl F_a1_keys))), (a1_next_, .inl (k_a1_next, 20000, .inl F_a1_next)), (a1_oldest_, .inl (k_a1_oldest, 64, .inl F_a1_oldest)), (a1_known_, .inl (k_a1_known, 64, .inl F_a1_known)), (a1_knownBefore_, .inl (k_a1_knownBefore, 64, .inl F_a1_knownBefore))] : va_W))) (g := fun i9 => ((sa i9, .inr (10, [.int (st_literal i9), .int (st_scans i9), .int (st_freshOnly i9), .int (st_bound i9), .int (st_live i9), .int (st_soughtMask i9), .int (st_givenMask i9), .int (st_sought i9), .int (st_width i9), .int (st_predicate i9), .int (st_ordered i9), .int (st_shape i9), .long (st_fixed i9), .int (g49 i9), .int (st_to i9), .ref (st_a_roles i9), .ref (st_a_variables i9)])) : Nat × va_E)) (g2 := fun i9 => ((sa i9, .inr (10, [.int (st_literal i9), .int (st_scans i9), .int (st_freshOnly i9), .int (st_bound i9), .int (st_live i9), .int (st_soughtMask i9), .int (st_givenMask i9), .int (st_sought i9), .int (st_width i9), .int (st_predicate i9), .int (st_ordered i9), .int (st_shape i9), .long (st_fixed i9), .int (g49 i9), .int ((fup st_to X0 y51) i9), .ref (st_a_roles i9), .ref (st_a_variables i9)])) : Nat × va_E)) hX_X0 rfl (congrArg (fun z9 => ((sa X0, .inr (10, [.int (st_literal X0), .int (st_scans X0), .int (st_freshOnly X0), .int (st_bound X0), .int (st_live X0), .int (st_soughtMask X0), .int (st_givenMask X0), .int (st_sought X0), .int (st_width X0), .int (st_predicate X0), .int (st_ordered X0), .int (st_shape X0), .long (st_fixed X0), .int (g49 X0), .int z9, .ref (st_a_roles X0), .ref (st_a_variables X0)])) : Nat × va_E)) (fup_self st_to X0 y51).symm) (fun i8 h8 => congrArg (fun z9 => ((sa i8, .inr (10, [.int (st_literal i8), .int (st_scans i8), .int (st_freshOnly i8), .int (st_bound i8), .int (st_live i8), .int (st_soughtMask i8), .int (st_givenMask i8), .int (st_sought i8), .int (st_width i8), .int (st_predicate i8), .int (st_ordered i8), .int (st_shape i8), .long (st_fixed i8), .int (g49 i8), .int z9, .ref (st_a_roles i8), .ref (st_a_variables i8)])) : Nat × va_E)) (fup_ne st_to y51 h8)))) hD
  obtain ⟨g52, eg52⟩ : ∃ z9 : Nat → Int32, z9 = fup st_to X0 y51 := ⟨_, rfl⟩
  rw [← eg52] at hP hD
  have hw := hw g52 eg52
  have hP : va_P (dC, dI) vwCl (([(h0, .inr (4, [.int v38, .ref shapes_, .ref fixed_, .ref firsts_, .ref lasts_, .ref froms_, .ref tos_, .ref pool_, .int v39])), (shapes_, .inl (k_shapes, 64, .inl v40)), (fixed_, .inl (k_fixed, 64, .inr (.inl v41))), (firsts_, .inl (k_firsts, 64, .inl v42)), (lasts_, .inl (k_lasts, 64, .inl v43)), (froms_, .inl (k_froms, 64, .inl v44)), (tos_, .inl (k_tos, 64, .inl v45)), (pool_, .inl (k_pool, n_pool, .inr (.inl v46)))] : va_W) ++ ((fm (fun i9 => ((sa i9, .inr (10, [.int (st_literal i9), .int (st_scans i9), .int (st_freshOnly i9), .int (st_bound i9), .int (st_live i9), .int (st_soughtMask i9), .int (st_givenMask i9), .int (st_sought i9), .int (st_width i9), .int (st_predicate i9), .int (st_ordered i9), .int (st_shape i9), .long (st_fixed i9), .int (g49 i9), .int (g52 i9), .ref (st_a_roles i9), .ref (st_a_variables i9)])) : Nat × va_E))) ++ ((fm (fun i9 => ((st_a_roles i9, .inl (st_k_roles i9, 6, .inl (st_roles i9))) : Nat × va_E))) ++ ([(a1, .inr (3, [.int a1_size_, .int a1_highest_, .int a1_full_, .ref a1_keys_, .ref a1_stages_, .ref a1_amounts_, .ref a1_predicates_, .ref a1_next_, .ref a1_slots_, .ref a1_oldest_, .ref a1_newest_, .ref a1_known_, .ref a1_knownBefore_, .int a1_visible_])), (a1_keys_, .inl (k_a1_keys, 20000, .inr (.inl F_a1_keys))), (a1_next_, .inl (k_a1_next, 20000, .inl F_a1_next)), (a1_oldest_, .inl (k_a1_oldest, 64, .inl F_a1_oldest)), (a1_known_, .inl (k_a1_known, 64, .inl F_a1_known)), (a1_knownBefore_, .inl (k_a1_knownBefore, 64, .inl F_a1_knownBefore))] : va_W)))) H := hP
  have hD : va_D A (([(h0, .inr (4, [.int v38, .ref shapes_, .ref fixed_, .ref firsts_, .ref lasts_, .ref froms_, .ref tos_, .ref pool_, .int v39])), (shapes_, .inl (k_shapes, 64, .inl v40)), (fixed_, .inl (k_fixed, 64, .inr (.inl v41))), (firsts_, .inl (k_firsts, 64, .inl v42)), (lasts_, .inl (k_lasts, 64, .inl v43)), (froms_, .inl (k_froms, 64, .inl v44)), (tos_, .inl (k_tos, 64, .inl v45)), (pool_, .inl (k_pool, n_pool, .inr (.inl v46)))] : va_W) ++ ((fm (fun i9 => ((sa i9, .inr (10, [.int (st_literal i9), .int (st_scans i9), .int (st_freshOnly i9), .int (st_bound i9), .int (st_live i9), .int (st_soughtMask i9), .int (st_givenMask i9), .int (st_sought i9), .int (st_width i9), .int (st_predicate i9), .int (st_ordered i9), .int (st_shape i9), .long (st_fixed i9), .int (g49 i9), .int (g52 i9), .ref (st_a_roles i9), .ref (st_a_variables i9)])) : Nat × va_E))) ++ ((fm (fun i9 => ((st_a_roles i9, .inl (st_k_roles i9, 6, .inl (st_roles i9))) : Nat × va_E))) ++ ([(a1, .inr (3, [.int a1_size_, .int a1_highest_, .int a1_full_, .ref a1_keys_, .ref a1_stages_, .ref a1_amounts_, .ref a1_predicates_, .ref a1_next_, .ref a1_slots_, .ref a1_oldest_, .ref a1_newest_, .ref a1_known_, .ref a1_knownBefore_, .int a1_visible_])), (a1_keys_, .inl (k_a1_keys, 20000, .inr (.inl F_a1_keys))), (a1_next_, .inl (k_a1_next, 20000, .inl F_a1_next)), (a1_oldest_, .inl (k_a1_oldest, 64, .inl F_a1_oldest)), (a1_known_, .inl (k_a1_known, 64, .inl F_a1_known)), (a1_knownBefore_, .inl (k_a1_knownBefore, 64, .inl F_a1_knownBefore))] : va_W)))) := hD
  refine W.widen (k := 0) (n := 0) (Nat.le_of_ble_eq_true rfl) (Nat.le_of_ble_eq_true rfl) ?_
  exact W.vret hx hb hr (fun t ht hW => ⟨⟨(v38, v39, v40, v41, v42, v43, v44, v45, v46, g49, g52), rfl, hw, by rw [ht]; exact hP, va_K.moved hW.alike hK, hD⟩, hS.F ht⟩) hS.2.2 dc_Ix_provide_216

def lw_met_Ix_seek_6 (post : Int32 → Unit → Prop) (n_pool : Nat) (F_pool : Nat → Int64) (a2 : Int64) : Nat → (Int32 × Int32) → Prop
  | 0, _ => False
  | n1_ + 1, (v2, v3) => ((v2 ≤ v3 → (post v3 ())) ∧ (¬ (v2 ≤ v3) → (∀ y4 : Int32, y4 = v3 + v2 → (∀ y5 : Int32, y5 = (y4.toUInt32 >>> ((1 : Int32).toUInt32 &&& Int32.toUInt32 31)).toInt32 → (vp_in y5 n_pool ∧ (∀ y7 : Int64, y7 = F_pool y5.toNatClampNeg → (((a2 ≤ y7 → (lw_met_Ix_seek_6 post n_pool F_pool a2 n1_ (y5, v3))) ∧ (¬ (a2 ≤ y7) → (∀ y8 : Int32, y8 = y5 + (1 : Int32) → (lw_met_Ix_seek_6 post n_pool F_pool a2 n1_ (v2, y8))))))))))))
def wp_met_Ix_seek (post : Int32 → Unit → Prop) (n_pool : Nat) (a0 : Int32) (a1 : Int32) (a2 : Int64) (F_pool : Nat → Int64) : Prop := ∃ n9 : Nat, lw_met_Ix_seek_6 post n_pool F_pool a2 n9 (a1, a0)
set_option maxHeartbeats 4000000 in
set_option maxRecDepth 100000 in
theorem met_Ix_seek (l : Launch) (dC : Nat → ClassId) (dI : Nat → Nat → Nat) (n_pool : Nat) (h0 : Nat) (shapes_ : Nat) (fixed_ : Nat) (firsts_ : Nat) (lasts_ : Nat) (froms_ : Nat) (tos_ : Nat) (pool_ : Nat) (a0 : Int32) (a1 : Int32) (a2 : Int64) (size_ : Int32) (used_ : Int32) (F_pool : Nat → Int64) (k_pool : ClassId) (sz : Nat) {post : Int32 → Unit → Prop} (hw : wp_met_Ix_seek post n_pool a0 a1 a2 F_pool) : Met l my_Ix_seek (Cond.code my_Ix_seek cd_Ix_seek 8 (some (.int)) :: tblG) ({ frames := 0, cells := 0, slots := 0, locals := 0 }) (va_Pc [.ref h0, .int a0, .int a1, .long a2] (fun U => U.heap.size = sz ∧ va_P (dC, dI) vwCl [(h0, .inr (4, [.int size_, .ref shapes_, .ref fixed_, .ref firsts_, .ref lasts_, .ref froms_, .ref tos_, .ref pool_, .int used_])), (pool_, .inl (k_pool, n_pool, .inr (.inl F_pool)))] U.heap ∧ va_K (dC, dI) vwCl [(k_pool, .long)] U ∧ va_D (fun _ => True) [(h0, .inr (4, [.int size_, .ref shapes_, .ref fixed_, .ref firsts_, .ref lasts_, .ref froms_, .ref tos_, .ref pool_, .int used_])), (pool_, .inl (k_pool, n_pool, .inr (.inl F_pool)))])) (va_Qi post (fun (u : Unit) (t : State) => va_P (dC, dI) vwCl [(h0, .inr (4, [.int size_, .ref shapes_, .ref fixed_, .ref firsts_, .ref lasts_, .ref froms_, .ref tos_, .ref pool_, .int used_])), (pool_, .inl (k_pool, n_pool, .inr (.inl F_pool)))] t.heap ∧ va_K (dC, dI) vwCl [(k_pool, .long)] t ∧ va_D (va_A [(h0, .inr (4, [.int size_, .ref shapes_, .ref fixed_, .ref firsts_, .ref lasts_, .ref froms_, .ref tos_, .ref pool_, .int used_])), (pool_, .inl (k_pool, n_pool, .inr (.inl F_pool)))] sz) [(h0, .inr (4, [.int size_, .ref shapes_, .ref fixed_, .ref firsts_, .ref lasts_, .ref froms_, .ref tos_, .ref pool_, .int used_])), (pool_, .inl (k_pool, n_pool, .inr (.inl F_pool)))]) (va_A [(h0, .inr (4, [.int size_, .ref shapes_, .ref fixed_, .ref firsts_, .ref lasts_, .ref froms_, .ref tos_, .ref pool_, .int used_])), (pool_, .inl (k_pool, n_pool, .inr (.inl F_pool)))] sz)) 0 0 (va_A [(h0, .inr (4, [.int size_, .ref shapes_, .ref fixed_, .ref firsts_, .ref lasts_, .ref froms_, .ref tos_, .ref pool_, .int used_])), (pool_, .inl (k_pool, n_pool, .inr (.inl F_pool)))] sz) := by
  refine Met.ofW (cc := cd_Ix_seek) (maxL := 8) (ret := (some (.int))) (by decide) rfl ?_
  intro p e s m args below meth c s₁ B hml hv
  obtain ⟨rfl, hsz, hP, hK, hD0⟩ := hv
  have hx := B.exec
  have hb := B.bytes
  have hr := B.returns
  have hT : ∀ w ∈ tblG, w.before _ s = true := fun w h => atoms_spec (ws := (Cond.code my_Ix_seek cd_Ix_seek 8 (some (.int)) :: tblG)) B.pre w (List.mem_cons_of_mem _ h)
  have hown : s.vm.findClass "StrataBase$Indexes" = some m.cls := findClass_of_methodNamed B.named
  have hlocks := B.notSynchronized
  subst hsz
  have hD := hD0.self (sz := s.heap.size)
  generalize hAe : va_A [(h0, .inr (4, [.int size_, .ref shapes_, .ref fixed_, .ref firsts_, .ref lasts_, .ref froms_, .ref tos_, .ref pool_, .int used_])), (pool_, .inl (k_pool, n_pool, .inr (.inl F_pool)))] s.heap.size = A at hD ⊢
  have hA : ∀ q : Nat, s.heap.size ≤ q → A q := fun q h => by rw [← hAe]; exact Or.inr h
  have hS : va_S A s.heap s.heap [] := va_S.rf
  have hl := lv_entry ([.ref h0, .int a0, .int a1, .long a2]) (n := 8) (Nat.le_of_ble_eq_true rfl)
  rw [lg_entry_eq]
  generalize (lg_sl ([.ref h0, .int a0, .int a1, .long a2]) ++ List.replicate (8 - (lg_sl ([.ref h0, .int a0, .int a1, .long a2])).length) Slot.unset).toArray = ls at hl ⊢
  have hl : lv_has ls 8 [(0, .ref h0), (1, .int a0), (2, .int a1), (3, .long a2)] := hl
  unfold wp_met_Ix_seek at hw
  refine lv_iload_n hx hb dc_Ix_seek_0 rfl (lv_at hl 1 rfl) ?_
  refine lv_istore (lv' := [(5, .int a0), (0, .ref h0), (1, .int a0), (2, .int a1), (3, .long a2)]) hx hb dc_Ix_seek_1 hl (by decide) rfl (fun ls hl => ?_)
  refine lv_iload_n hx hb dc_Ix_seek_3 rfl (lv_at hl 3 rfl) ?_
  refine lv_istore (lv' := [(6, .int a1), (5, .int a0), (0, .ref h0), (1, .int a0), (2, .int a1), (3, .long a2)]) hx hb dc_Ix_seek_4 hl (by decide) rfl (fun ls hl => ?_)
  obtain ⟨n9, hw⟩ := hw
  refine lp_fuel (σ := Int32 × Int32) _ (fun x9 H locs ls => match x9 with | (v2, v3) => va_K (dC, dI) vwCl [(k_pool, .long)] s ∧ va_P (dC, dI) vwCl [(h0, .inr (4, [.int size_, .ref shapes_, .ref fixed_, .ref firsts_, .ref lasts_, .ref froms_, .ref tos_, .ref pool_, .int used_])), (pool_, .inl (k_pool, n_pool, .inr (.inl F_pool)))] H ∧ va_D A [(h0, .inr (4, [.int size_, .ref shapes_, .ref fixed_, .ref firsts_, .ref lasts_, .ref froms_, .ref tos_, .ref pool_, .int used_])), (pool_, .inl (k_pool, n_pool, .inr (.inl F_pool)))] ∧ va_S A s.heap H locs ∧ lv_has ls 8 [(6, .int v2), (5, .int v3), (0, .ref h0), (3, .long a2)]) (fun x9 h9 => by simp only [lw_met_Ix_seek_6] at h9) ?_ hw ⟨hK.sub [0] rfl, hP.sub [0, 1] rfl, hD.sub [0, 1] (by decide) rfl, hS, lv_sub hl [0, 1, 2, 5] rfl⟩
  intro n1_ x9 hw ih1 H locs ls hI
  obtain ⟨v2, v3⟩ := x9
  obtain ⟨hK, hP, hD, hS, hl⟩ := hI
  unfold lw_met_Ix_seek_6 at hw
  refine lv_iload hx hb dc_Ix_seek_6 (lv_at hl 1 rfl) ?_
  refine lv_iload hx hb dc_Ix_seek_8 (lv_at hl 0 rfl) ?_
  refine lv_icmp_ge (tgt := 50) hx hb dc_Ix_seek_10 (by decide) (fun h10 => ?_) (fun h10 => ?_)
  · have hw := hw.1 h10
    refine lv_iload hx hb dc_Ix_seek_50 (lv_at hl 1 rfl) ?_
    refine W.widen (k := 0) (n := 0) (Nat.le_of_ble_eq_true rfl) (Nat.le_of_ble_eq_true rfl) ?_
    exact W.iret (v := v3) hx hb hr (fun t ht hW => ⟨⟨v3, (), rfl, hw, by rw [ht]; exact hP, va_K.moved hW.alike hK, hD⟩, hS.F ht⟩) hS.2.2 dc_Ix_seek_52
  · have hw := hw.2 h10
    refine lv_iload hx hb dc_Ix_seek_13 (lv_at hl 1 rfl) ?_
    refine lv_iload hx hb dc_Ix_seek_15 (lv_at hl 0 rfl) ?_
    refine lv_iadd hx hb dc_Ix_seek_17 ?_
    refine lv_topi (fun y4 ey4 => ?_)
    have hw := hw y4 ey4
    refine lv_iconst (v := 1) hx hb dc_Ix_seek_18 (by decide) ?_
    refine lv_iushr (v := (y4.toUInt32 >>> ((1 : Int32).toUInt32 &&& Int32.toUInt32 31)).toInt32) hx hb dc_Ix_seek_19 rfl ?_
    refine lv_topi (fun y5 ey5 => ?_)
    have hw := hw y5 ey5
    refine lv_istore (lv' := [(7, .int y5), (6, .int v2), (5, .int v3), (0, .ref h0), (3, .long a2)]) hx hb dc_Ix_seek_20 hl (by decide) rfl (fun ls hl => ?_)
    refine lv_aload_n hx hb dc_Ix_seek_22 rfl (lv_at hl 3 rfl) ?_
    refine va_get (D := (dC, dI)) (ci := 4) (v := .ref pool_) (C := "StrataBase$Indexes") (T := tb_Ix) (N := 9) hx hb hT in_Ix hown hK hP 0 rfl rfl 7 (by decide) (hT _ wd_359) (fun _ h9 => h9) rfl dc_Ix_seek_23 ?_
    refine lv_iload hx hb dc_Ix_seek_26 (lv_at hl 0 rfl) ?_
    obtain ⟨hv6, hw⟩ := hw
    refine va_lald hx hb hK hP 1 0 rfl rfl hv6 dc_Ix_seek_28 ?_
    refine lv_topl (fun y7 ey7 => ?_)
    have hw := hw y7 ey7
    refine lv_lload_n hx hb dc_Ix_seek_29 rfl (lv_at hl 4 rfl) ?_
    refine W.lcmp hx hb dc_Ix_seek_30 ?_
    refine lv_if_ge (tgt := 43) hx hb dc_Ix_seek_31 (by decide) (fun h31 => ?_) (fun h31 => ?_)
    · have h31 : a2 ≤ y7 := (lg_cmp_ge _ _).mp h31
      have hw := hw.1 h31
      refine lv_iload hx hb dc_Ix_seek_43 (lv_at hl 0 rfl) ?_
      refine lv_istore (lv' := [(6, .int y5), (7, .int y5), (5, .int v3), (0, .ref h0), (3, .long a2)]) hx hb dc_Ix_seek_45 hl (by decide) rfl (fun ls hl => ?_)
      refine lv_goto (tgt := 6) hx hb dc_Ix_seek_47 (by decide) ?_
      exact ih1 (y5, v3) hw _ _ _ ⟨hK.sub [0] rfl, hP.sub [0, 1] rfl, hD.sub [0, 1] (by decide) rfl, hS, lv_sub hl [0, 2, 3, 4] rfl⟩
    · have h31 : ¬ (a2 ≤ y7) := fun z9 => h31 ((lg_cmp_ge _ _).mpr z9)
      have hw := hw.2 h31
      refine lv_iload hx hb dc_Ix_seek_34 (lv_at hl 0 rfl) ?_
      refine lv_iconst (v := 1) hx hb dc_Ix_seek_36 (by decide) ?_
      refine lv_iadd hx hb dc_Ix_seek_37 ?_
      refine lv_topi (fun y8 ey8 => ?_)
      have hw := hw y8 ey8
      refine lv_istore (lv' := [(5, .int y8), (7, .int y5), (6, .int v2), (0, .ref h0), (3, .long a2)]) hx hb dc_Ix_seek_38 hl (by decide) rfl (fun ls hl => ?_)
      refine lv_goto (tgt := 47) hx hb dc_Ix_seek_40 (by decide) ?_
      refine lv_goto (tgt := 6) hx hb dc_Ix_seek_47 (by decide) ?_
      exact ih1 (v2, y8) hw _ _ _ ⟨hK.sub [0] rfl, hP.sub [0, 1] rfl, hD.sub [0, 1] (by decide) rfl, hS, lv_sub hl [2, 0, 3, 4] rfl⟩

def wp_met_Ix_at (post : Int64 → Unit → Prop) (n_pool : Nat) (a0 : Int32) (F_pool : Nat → Int64) : Prop := vp_in a0 n_pool ∧ (∀ y2 : Int64, y2 = F_pool a0.toNatClampNeg → (post y2 ()))
set_option maxHeartbeats 4000000 in
set_option maxRecDepth 100000 in
theorem met_Ix_at (l : Launch) (dC : Nat → ClassId) (dI : Nat → Nat → Nat) (n_pool : Nat) (h0 : Nat) (shapes_ : Nat) (fixed_ : Nat) (firsts_ : Nat) (lasts_ : Nat) (froms_ : Nat) (tos_ : Nat) (pool_ : Nat) (a0 : Int32) (size_ : Int32) (used_ : Int32) (F_pool : Nat → Int64) (k_pool : ClassId) (sz : Nat) {post : Int64 → Unit → Prop} (hw : wp_met_Ix_at post n_pool a0 F_pool) : Met l my_Ix_at (Cond.code my_Ix_at cd_Ix_at 2 (some (.long)) :: tblG) ({ frames := 0, cells := 0, slots := 0, locals := 0 }) (va_Pc [.ref h0, .int a0] (fun U => U.heap.size = sz ∧ va_P (dC, dI) vwCl [(h0, .inr (4, [.int size_, .ref shapes_, .ref fixed_, .ref firsts_, .ref lasts_, .ref froms_, .ref tos_, .ref pool_, .int used_])), (pool_, .inl (k_pool, n_pool, .inr (.inl F_pool)))] U.heap ∧ va_K (dC, dI) vwCl [(k_pool, .long)] U ∧ va_D (fun _ => True) [(h0, .inr (4, [.int size_, .ref shapes_, .ref fixed_, .ref firsts_, .ref lasts_, .ref froms_, .ref tos_, .ref pool_, .int used_])), (pool_, .inl (k_pool, n_pool, .inr (.inl F_pool)))])) (va_Ql post (fun (u : Unit) (t : State) => va_P (dC, dI) vwCl [(h0, .inr (4, [.int size_, .ref shapes_, .ref fixed_, .ref firsts_, .ref lasts_, .ref froms_, .ref tos_, .ref pool_, .int used_])), (pool_, .inl (k_pool, n_pool, .inr (.inl F_pool)))] t.heap ∧ va_K (dC, dI) vwCl [(k_pool, .long)] t ∧ va_D (va_A [(h0, .inr (4, [.int size_, .ref shapes_, .ref fixed_, .ref firsts_, .ref lasts_, .ref froms_, .ref tos_, .ref pool_, .int used_])), (pool_, .inl (k_pool, n_pool, .inr (.inl F_pool)))] sz) [(h0, .inr (4, [.int size_, .ref shapes_, .ref fixed_, .ref firsts_, .ref lasts_, .ref froms_, .ref tos_, .ref pool_, .int used_])), (pool_, .inl (k_pool, n_pool, .inr (.inl F_pool)))]) (va_A [(h0, .inr (4, [.int size_, .ref shapes_, .ref fixed_, .ref firsts_, .ref lasts_, .ref froms_, .ref tos_, .ref pool_, .int used_])), (pool_, .inl (k_pool, n_pool, .inr (.inl F_pool)))] sz)) 0 0 (va_A [(h0, .inr (4, [.int size_, .ref shapes_, .ref fixed_, .ref firsts_, .ref lasts_, .ref froms_, .ref tos_, .ref pool_, .int used_])), (pool_, .inl (k_pool, n_pool, .inr (.inl F_pool)))] sz) := by
  refine Met.ofW (cc := cd_Ix_at) (maxL := 2) (ret := (some (.long))) (by decide) rfl ?_
  intro p e s m args below meth c s₁ B hml hv
  obtain ⟨rfl, hsz, hP, hK, hD0⟩ := hv
  have hx := B.exec
  have hb := B.bytes
  have hr := B.returns
  have hT : ∀ w ∈ tblG, w.before _ s = true := fun w h => atoms_spec (ws := (Cond.code my_Ix_at cd_Ix_at 2 (some (.long)) :: tblG)) B.pre w (List.mem_cons_of_mem _ h)
  have hown : s.vm.findClass "StrataBase$Indexes" = some m.cls := findClass_of_methodNamed B.named
  have hlocks := B.notSynchronized
  subst hsz
  have hD := hD0.self (sz := s.heap.size)
  generalize hAe : va_A [(h0, .inr (4, [.int size_, .ref shapes_, .ref fixed_, .ref firsts_, .ref lasts_, .ref froms_, .ref tos_, .ref pool_, .int used_])), (pool_, .inl (k_pool, n_pool, .inr (.inl F_pool)))] s.heap.size = A at hD ⊢
  have hA : ∀ q : Nat, s.heap.size ≤ q → A q := fun q h => by rw [← hAe]; exact Or.inr h
  have hS : va_S A s.heap s.heap [] := va_S.rf
  have hl := lv_entry ([.ref h0, .int a0]) (n := 2) (Nat.le_of_ble_eq_true rfl)
  rw [lg_entry_eq]
  generalize (lg_sl ([.ref h0, .int a0]) ++ List.replicate (2 - (lg_sl ([.ref h0, .int a0])).length) Slot.unset).toArray = ls at hl ⊢
  have hl : lv_has ls 2 [(0, .ref h0), (1, .int a0)] := hl
  unfold wp_met_Ix_at at hw
  refine lv_aload_n hx hb dc_Ix_at_0 rfl (lv_at hl 0 rfl) ?_
  refine va_get (D := (dC, dI)) (ci := 4) (v := .ref pool_) (C := "StrataBase$Indexes") (T := tb_Ix) (N := 9) hx hb hT in_Ix hown hK hP 0 rfl rfl 7 (by decide) (hT _ wd_359) (fun _ h9 => h9) rfl dc_Ix_at_1 ?_
  refine lv_iload_n hx hb dc_Ix_at_4 rfl (lv_at hl 1 rfl) ?_
  obtain ⟨hv1, hw⟩ := hw
  refine va_lald hx hb hK hP 1 0 rfl rfl hv1 dc_Ix_at_5 ?_
  refine lv_topl (fun y2 ey2 => ?_)
  have hw := hw y2 ey2
  refine W.widen (k := 0) (n := 0) (Nat.le_of_ble_eq_true rfl) (Nat.le_of_ble_eq_true rfl) ?_
  exact W.lret (v := y2) hx hb hr (fun t ht hW => ⟨⟨y2, (), rfl, hw, by rw [ht]; exact hP, va_K.moved hW.alike hK, hD⟩, hS.F ht⟩) hS.2.2 dc_Ix_at_6
