theorem dX8_isLoose_11 : decode cX8_isLoose 11 = .ok (.aload_n 0, 1) := by decide +kernel
theorem dX8_isLoose_12 : decode cX8_isLoose 12 = .ok (.getfield 28, 3) := by decide +kernel
theorem dX8_isLoose_15 : decode cX8_isLoose 15 = .ok (.iload_n 1, 1) := by decide +kernel
theorem dX8_isLoose_16 : decode cX8_isLoose 16 = .ok (.invokestatic 51, 3) := by decide +kernel
theorem dX8_isLoose_19 : decode cX8_isLoose 19 = .ok (.ifCond .ne 7, 3) := by decide +kernel
theorem dX8_isLoose_22 : decode cX8_isLoose 22 = .ok (.iconst 1, 1) := by decide +kernel
theorem dX8_isLoose_23 : decode cX8_isLoose 23 = .ok (.goto 4, 3) := by decide +kernel
theorem dX8_isLoose_26 : decode cX8_isLoose 26 = .ok (.iconst 0, 1) := by decide +kernel
theorem dX8_isLoose_27 : decode cX8_isLoose 27 = .ok (.ireturn, 1) := by decide +kernel
theorem dX8_addNode_0 : decode cX8_addNode 0 = .ok (.aload_n 0, 1) := by decide +kernel
theorem dX8_addNode_1 : decode cX8_addNode 1 = .ok (.getfield 48, 3) := by decide +kernel
theorem dX8_addNode_4 : decode cX8_addNode 4 = .ok (.istore 4, 2) := by decide +kernel
theorem dX8_addNode_6 : decode cX8_addNode 6 = .ok (.aload_n 0, 1) := by decide +kernel
theorem dX8_addNode_7 : decode cX8_addNode 7 = .ok (.getfield 19, 3) := by decide +kernel
theorem dX8_addNode_10 : decode cX8_addNode 10 = .ok (.iload 4, 2) := by decide +kernel
theorem dX8_addNode_12 : decode cX8_addNode 12 = .ok (.iload_n 1, 1) := by decide +kernel
theorem dX8_addNode_13 : decode cX8_addNode 13 = .ok (.invokestatic 55, 3) := by decide +kernel
theorem dX8_addNode_16 : decode cX8_addNode 16 = .ok (.aload_n 0, 1) := by decide +kernel
theorem dX8_addNode_17 : decode cX8_addNode 17 = .ok (.getfield 22, 3) := by decide +kernel
theorem dX8_addNode_20 : decode cX8_addNode 20 = .ok (.iload 4, 2) := by decide +kernel
theorem dX8_addNode_22 : decode cX8_addNode 22 = .ok (.iload_n 2, 1) := by decide +kernel
theorem dX8_addNode_23 : decode cX8_addNode 23 = .ok (.invokestatic 55, 3) := by decide +kernel
theorem dX8_addNode_26 : decode cX8_addNode 26 = .ok (.aload_n 0, 1) := by decide +kernel
theorem dX8_addNode_27 : decode cX8_addNode 27 = .ok (.getfield 25, 3) := by decide +kernel
theorem dX8_addNode_30 : decode cX8_addNode 30 = .ok (.iload 4, 2) := by decide +kernel
theorem dX8_addNode_32 : decode cX8_addNode 32 = .ok (.iload_n 3, 1) := by decide +kernel
theorem dX8_addNode_33 : decode cX8_addNode 33 = .ok (.invokestatic 55, 3) := by decide +kernel
theorem dX8_addNode_36 : decode cX8_addNode 36 = .ok (.aload_n 0, 1) := by decide +kernel
theorem dX8_addNode_37 : decode cX8_addNode 37 = .ok (.getfield 28, 3) := by decide +kernel
theorem dX8_addNode_40 : decode cX8_addNode 40 = .ok (.iload 4, 2) := by decide +kernel
theorem dX8_addNode_42 : decode cX8_addNode 42 = .ok (.iconst 0, 1) := by decide +kernel
theorem dX8_addNode_43 : decode cX8_addNode 43 = .ok (.invokestatic 55, 3) := by decide +kernel
theorem dX8_addNode_46 : decode cX8_addNode 46 = .ok (.iload_n 1, 1) := by decide +kernel
theorem dX8_addNode_47 : decode cX8_addNode 47 = .ok (.iconst 2, 1) := by decide +kernel
theorem dX8_addNode_48 : decode cX8_addNode 48 = .ok (.if_icmp .lt 21, 3) := by decide +kernel
theorem dX8_addNode_51 : decode cX8_addNode 51 = .ok (.aload_n 0, 1) := by decide +kernel
theorem dX8_addNode_52 : decode cX8_addNode 52 = .ok (.getfield 28, 3) := by decide +kernel
theorem dX8_addNode_55 : decode cX8_addNode 55 = .ok (.iload_n 2, 1) := by decide +kernel
theorem dX8_addNode_56 : decode cX8_addNode 56 = .ok (.iconst 1, 1) := by decide +kernel
theorem dX8_addNode_57 : decode cX8_addNode 57 = .ok (.invokestatic 55, 3) := by decide +kernel
theorem dX8_addNode_60 : decode cX8_addNode 60 = .ok (.aload_n 0, 1) := by decide +kernel
theorem dX8_addNode_61 : decode cX8_addNode 61 = .ok (.getfield 28, 3) := by decide +kernel
theorem dX8_addNode_64 : decode cX8_addNode 64 = .ok (.iload_n 3, 1) := by decide +kernel
theorem dX8_addNode_65 : decode cX8_addNode 65 = .ok (.iconst 1, 1) := by decide +kernel
theorem dX8_addNode_66 : decode cX8_addNode 66 = .ok (.invokestatic 55, 3) := by decide +kernel
theorem dX8_addNode_69 : decode cX8_addNode 69 = .ok (.aload_n 0, 1) := by decide +kernel
theorem dX8_addNode_70 : decode cX8_addNode 70 = .ok (.dup, 1) := by decide +kernel
theorem dX8_addNode_71 : decode cX8_addNode 71 = .ok (.getfield 48, 3) := by decide +kernel
theorem dX8_addNode_74 : decode cX8_addNode 74 = .ok (.iconst 1, 1) := by decide +kernel
theorem dX8_addNode_75 : decode cX8_addNode 75 = .ok (.iadd, 1) := by decide +kernel
theorem dX8_addNode_76 : decode cX8_addNode 76 = .ok (.putfield 48, 3) := by decide +kernel
theorem dX8_addNode_79 : decode cX8_addNode 79 = .ok (.iload 4, 2) := by decide +kernel
theorem dX8_addNode_81 : decode cX8_addNode 81 = .ok (.ireturn, 1) := by decide +kernel
theorem dX8_addStatement_0 : decode cX8_addStatement 0 = .ok (.aload_n 0, 1) := by decide +kernel
theorem dX8_addStatement_1 : decode cX8_addStatement 1 = .ok (.iload_n 1, 1) := by decide +kernel
theorem dX8_addStatement_2 : decode cX8_addStatement 2 = .ok (.invokevirtual 59, 3) := by decide +kernel
theorem dX8_addStatement_5 : decode cX8_addStatement 5 = .ok (.istore 4, 2) := by decide +kernel
theorem dX8_addStatement_7 : decode cX8_addStatement 7 = .ok (.aload_n 0, 1) := by decide +kernel
theorem dX8_addStatement_8 : decode cX8_addStatement 8 = .ok (.getfield 34, 3) := by decide +kernel
theorem dX8_addStatement_11 : decode cX8_addStatement 11 = .ok (.iload_n 1, 1) := by decide +kernel
theorem dX8_addStatement_12 : decode cX8_addStatement 12 = .ok (.iload 4, 2) := by decide +kernel
theorem dX8_addStatement_14 : decode cX8_addStatement 14 = .ok (.invokestatic 63, 3) := by decide +kernel
theorem dX8_addStatement_17 : decode cX8_addStatement 17 = .ok (.iload_n 2, 1) := by decide +kernel
theorem dX8_addStatement_18 : decode cX8_addStatement 18 = .ok (.invokestatic 55, 3) := by decide +kernel
theorem dX8_addStatement_21 : decode cX8_addStatement 21 = .ok (.aload_n 0, 1) := by decide +kernel
theorem dX8_addStatement_22 : decode cX8_addStatement 22 = .ok (.getfield 37, 3) := by decide +kernel
theorem dX8_addStatement_25 : decode cX8_addStatement 25 = .ok (.iload_n 1, 1) := by decide +kernel
theorem dX8_addStatement_26 : decode cX8_addStatement 26 = .ok (.iload 4, 2) := by decide +kernel
theorem dX8_addStatement_28 : decode cX8_addStatement 28 = .ok (.invokestatic 63, 3) := by decide +kernel
theorem dX8_addStatement_31 : decode cX8_addStatement 31 = .ok (.iload_n 3, 1) := by decide +kernel
theorem dX8_addStatement_32 : decode cX8_addStatement 32 = .ok (.invokestatic 55, 3) := by decide +kernel
theorem dX8_addStatement_35 : decode cX8_addStatement 35 = .ok (.aload_n 0, 1) := by decide +kernel
theorem dX8_addStatement_36 : decode cX8_addStatement 36 = .ok (.getfield 28, 3) := by decide +kernel
theorem dX8_addStatement_39 : decode cX8_addStatement 39 = .ok (.iload_n 3, 1) := by decide +kernel
theorem dX8_addStatement_40 : decode cX8_addStatement 40 = .ok (.iconst 1, 1) := by decide +kernel
theorem dX8_addStatement_41 : decode cX8_addStatement 41 = .ok (.invokestatic 55, 3) := by decide +kernel
theorem dX8_addStatement_44 : decode cX8_addStatement 44 = .ok (.aload_n 0, 1) := by decide +kernel
theorem dX8_addStatement_45 : decode cX8_addStatement 45 = .ok (.getfield 31, 3) := by decide +kernel
theorem dX8_addStatement_48 : decode cX8_addStatement 48 = .ok (.iload_n 1, 1) := by decide +kernel
theorem dX8_addStatement_49 : decode cX8_addStatement 49 = .ok (.iload 4, 2) := by decide +kernel
theorem dX8_addStatement_51 : decode cX8_addStatement 51 = .ok (.iconst 1, 1) := by decide +kernel
theorem dX8_addStatement_52 : decode cX8_addStatement 52 = .ok (.iadd, 1) := by decide +kernel
theorem dX8_addStatement_53 : decode cX8_addStatement 53 = .ok (.invokestatic 55, 3) := by decide +kernel
theorem dX8_addStatement_56 : decode cX8_addStatement 56 = .ok (.aload_n 0, 1) := by decide +kernel
theorem dX8_addStatement_57 : decode cX8_addStatement 57 = .ok (.dup, 1) := by decide +kernel
theorem dX8_addStatement_58 : decode cX8_addStatement 58 = .ok (.getfield 67, 3) := by decide +kernel
theorem dX8_addStatement_61 : decode cX8_addStatement 61 = .ok (.iconst 1, 1) := by decide +kernel
theorem dX8_addStatement_62 : decode cX8_addStatement 62 = .ok (.iadd, 1) := by decide +kernel
theorem dX8_addStatement_63 : decode cX8_addStatement 63 = .ok (.putfield 67, 3) := by decide +kernel
theorem dX8_addStatement_66 : decode cX8_addStatement 66 = .ok (.iload 4, 2) := by decide +kernel
theorem dX8_addStatement_68 : decode cX8_addStatement 68 = .ok (.iconst 1, 1) := by decide +kernel
theorem dX8_addStatement_69 : decode cX8_addStatement 69 = .ok (.iadd, 1) := by decide +kernel
theorem dX8_addStatement_70 : decode cX8_addStatement 70 = .ok (.ireturn, 1) := by decide +kernel
theorem dX8_looseCount_0 : decode cX8_looseCount 0 = .ok (.iconst 0, 1) := by decide +kernel
theorem dX8_looseCount_1 : decode cX8_looseCount 1 = .ok (.istore_n 1, 1) := by decide +kernel
theorem dX8_looseCount_2 : decode cX8_looseCount 2 = .ok (.iconst 0, 1) := by decide +kernel
theorem dX8_looseCount_3 : decode cX8_looseCount 3 = .ok (.istore_n 2, 1) := by decide +kernel
theorem dX8_looseCount_4 : decode cX8_looseCount 4 = .ok (.iload_n 2, 1) := by decide +kernel
theorem dX8_looseCount_5 : decode cX8_looseCount 5 = .ok (.aload_n 0, 1) := by decide +kernel
theorem dX8_looseCount_6 : decode cX8_looseCount 6 = .ok (.getfield 48, 3) := by decide +kernel
theorem dX8_looseCount_9 : decode cX8_looseCount 9 = .ok (.if_icmp .ge 20, 3) := by decide +kernel
theorem dX8_looseCount_12 : decode cX8_looseCount 12 = .ok (.aload_n 0, 1) := by decide +kernel
theorem dX8_looseCount_13 : decode cX8_looseCount 13 = .ok (.iload_n 2, 1) := by decide +kernel
theorem dX8_looseCount_14 : decode cX8_looseCount 14 = .ok (.invokevirtual 44, 3) := by decide +kernel
theorem dX8_looseCount_17 : decode cX8_looseCount 17 = .ok (.ifCond .eq 6, 3) := by decide +kernel
theorem dX8_looseCount_20 : decode cX8_looseCount 20 = .ok (.iinc 1 1, 3) := by decide +kernel
theorem dX8_looseCount_23 : decode cX8_looseCount 23 = .ok (.iinc 2 1, 3) := by decide +kernel
theorem dX8_looseCount_26 : decode cX8_looseCount 26 = .ok (.goto (-22), 3) := by decide +kernel
theorem dX8_looseCount_29 : decode cX8_looseCount 29 = .ok (.iload_n 1, 1) := by decide +kernel
theorem dX8_looseCount_30 : decode cX8_looseCount 30 = .ok (.ireturn, 1) := by decide +kernel
theorem dX8_statementsIn_0 : decode cX8_statementsIn 0 = .ok (.aload_n 0, 1) := by decide +kernel
theorem dX8_statementsIn_1 : decode cX8_statementsIn 1 = .ok (.getfield 31, 3) := by decide +kernel
theorem dX8_statementsIn_4 : decode cX8_statementsIn 4 = .ok (.iload_n 1, 1) := by decide +kernel
theorem dX8_statementsIn_5 : decode cX8_statementsIn 5 = .ok (.invokestatic 51, 3) := by decide +kernel
theorem dX8_statementsIn_8 : decode cX8_statementsIn 8 = .ok (.ireturn, 1) := by decide +kernel
theorem dX8_variableOf_0 : decode cX8_variableOf 0 = .ok (.aload_n 0, 1) := by decide +kernel
theorem dX8_variableOf_1 : decode cX8_variableOf 1 = .ok (.getfield 34, 3) := by decide +kernel
theorem dX8_variableOf_4 : decode cX8_variableOf 4 = .ok (.iload_n 1, 1) := by decide +kernel
theorem dX8_variableOf_5 : decode cX8_variableOf 5 = .ok (.iload_n 2, 1) := by decide +kernel
theorem dX8_variableOf_6 : decode cX8_variableOf 6 = .ok (.invokestatic 63, 3) := by decide +kernel
theorem dX8_variableOf_9 : decode cX8_variableOf 9 = .ok (.invokestatic 51, 3) := by decide +kernel
theorem dX8_variableOf_12 : decode cX8_variableOf 12 = .ok (.ireturn, 1) := by decide +kernel
theorem dX8_rootOf_0 : decode cX8_rootOf 0 = .ok (.aload_n 0, 1) := by decide +kernel
theorem dX8_rootOf_1 : decode cX8_rootOf 1 = .ok (.getfield 37, 3) := by decide +kernel
theorem dX8_rootOf_4 : decode cX8_rootOf 4 = .ok (.iload_n 1, 1) := by decide +kernel
theorem dX8_rootOf_5 : decode cX8_rootOf 5 = .ok (.iload_n 2, 1) := by decide +kernel
theorem dX8_rootOf_6 : decode cX8_rootOf 6 = .ok (.invokestatic 63, 3) := by decide +kernel
theorem dX8_rootOf_9 : decode cX8_rootOf 9 = .ok (.invokestatic 51, 3) := by decide +kernel
theorem dX8_rootOf_12 : decode cX8_rootOf 12 = .ok (.ireturn, 1) := by decide +kernel
theorem dX8_roundsOf_0 : decode cX8_roundsOf 0 = .ok (.iload_n 1, 1) := by decide +kernel
theorem dX8_roundsOf_1 : decode cX8_roundsOf 1 = .ok (.iconst (-1), 1) := by decide +kernel
theorem dX8_roundsOf_2 : decode cX8_roundsOf 2 = .ok (.if_icmp .ne 7, 3) := by decide +kernel
theorem dX8_roundsOf_5 : decode cX8_roundsOf 5 = .ok (.iconst 1, 1) := by decide +kernel
theorem dX8_roundsOf_6 : decode cX8_roundsOf 6 = .ok (.goto 11, 3) := by decide +kernel
theorem dX8_roundsOf_9 : decode cX8_roundsOf 9 = .ok (.aload_n 0, 1) := by decide +kernel
theorem dX8_roundsOf_10 : decode cX8_roundsOf 10 = .ok (.getfield 15, 3) := by decide +kernel
theorem dX8_roundsOf_13 : decode cX8_roundsOf 13 = .ok (.iload_n 1, 1) := by decide +kernel
theorem dX8_roundsOf_14 : decode cX8_roundsOf 14 = .ok (.invokestatic 51, 3) := by decide +kernel
theorem dX8_roundsOf_17 : decode cX8_roundsOf 17 = .ok (.ireturn, 1) := by decide +kernel
theorem dX8_placeOf_0 : decode cX8_placeOf 0 = .ok (.iload_n 0, 1) := by decide +kernel
theorem dX8_placeOf_1 : decode cX8_placeOf 1 = .ok (.bipush 24, 2) := by decide +kernel
theorem dX8_placeOf_3 : decode cX8_placeOf 3 = .ok (.imul, 1) := by decide +kernel
theorem dX8_placeOf_4 : decode cX8_placeOf 4 = .ok (.iload_n 1, 1) := by decide +kernel
theorem dX8_placeOf_5 : decode cX8_placeOf 5 = .ok (.iadd, 1) := by decide +kernel
theorem dX8_placeOf_6 : decode cX8_placeOf 6 = .ok (.ireturn, 1) := by decide +kernel
theorem dX9_init_0 : decode cX9_init 0 = .ok (.aload_n 0, 1) := by decide +kernel
theorem dX9_init_1 : decode cX9_init 1 = .ok (.invokespecial 3, 3) := by decide +kernel
theorem dX9_init_4 : decode cX9_init 4 = .ok (.aload_n 0, 1) := by decide +kernel
theorem dX9_init_5 : decode cX9_init 5 = .ok (.aload_n 1, 1) := by decide +kernel
theorem dX9_init_6 : decode cX9_init 6 = .ok (.putfield 9, 3) := by decide +kernel
theorem dX9_init_9 : decode cX9_init 9 = .ok (.aload_n 0, 1) := by decide +kernel
theorem dX9_init_10 : decode cX9_init 10 = .ok (.aload_n 2, 1) := by decide +kernel
theorem dX9_init_11 : decode cX9_init 11 = .ok (.putfield 15, 3) := by decide +kernel
theorem dX9_init_14 : decode cX9_init 14 = .ok (.aload_n 0, 1) := by decide +kernel
theorem dX9_init_15 : decode cX9_init 15 = .ok (.sipush 528, 3) := by decide +kernel
theorem dX9_init_18 : decode cX9_init 18 = .ok (.newarray .int, 2) := by decide +kernel
theorem dX9_init_20 : decode cX9_init 20 = .ok (.putfield 19, 3) := by decide +kernel
theorem dX9_init_23 : decode cX9_init 23 = .ok (.aload_n 0, 1) := by decide +kernel
theorem dX9_init_24 : decode cX9_init 24 = .ok (.bipush 11, 2) := by decide +kernel
theorem dX9_init_26 : decode cX9_init 26 = .ok (.newarray .int, 2) := by decide +kernel
theorem dX9_init_28 : decode cX9_init 28 = .ok (.putfield 23, 3) := by decide +kernel
theorem dX9_init_31 : decode cX9_init 31 = .ok (.aload_n 0, 1) := by decide +kernel
theorem dX9_init_32 : decode cX9_init 32 = .ok (.bipush 88, 2) := by decide +kernel
theorem dX9_init_34 : decode cX9_init 34 = .ok (.newarray .int, 2) := by decide +kernel
theorem dX9_init_36 : decode cX9_init 36 = .ok (.putfield 26, 3) := by decide +kernel
theorem dX9_init_39 : decode cX9_init 39 = .ok (.aload_n 0, 1) := by decide +kernel
theorem dX9_init_40 : decode cX9_init 40 = .ok (.bipush 11, 2) := by decide +kernel
theorem dX9_init_42 : decode cX9_init 42 = .ok (.newarray .int, 2) := by decide +kernel
theorem dX9_init_44 : decode cX9_init 44 = .ok (.putfield 29, 3) := by decide +kernel
theorem dX9_init_47 : decode cX9_init 47 = .ok (.return_, 1) := by decide +kernel
theorem dX9_go_0 : decode cX9_go 0 = .ok (.aload_n 0, 1) := by decide +kernel
theorem dX9_go_1 : decode cX9_go 1 = .ok (.iconst 0, 1) := by decide +kernel
theorem dX9_go_2 : decode cX9_go 2 = .ok (.putfield 32, 3) := by decide +kernel
theorem dX9_go_5 : decode cX9_go 5 = .ok (.aload_n 0, 1) := by decide +kernel
theorem dX9_go_6 : decode cX9_go 6 = .ok (.iconst 0, 1) := by decide +kernel
theorem dX9_go_7 : decode cX9_go 7 = .ok (.putfield 36, 3) := by decide +kernel
theorem dX9_go_10 : decode cX9_go 10 = .ok (.aload_n 0, 1) := by decide +kernel
theorem dX9_go_11 : decode cX9_go 11 = .ok (.iconst 0, 1) := by decide +kernel
theorem dX9_go_12 : decode cX9_go 12 = .ok (.putfield 39, 3) := by decide +kernel
theorem dX9_go_15 : decode cX9_go 15 = .ok (.aload_n 0, 1) := by decide +kernel
theorem dX9_go_16 : decode cX9_go 16 = .ok (.iconst (-1), 1) := by decide +kernel
theorem dX9_go_17 : decode cX9_go 17 = .ok (.putfield 42, 3) := by decide +kernel
theorem dX9_go_20 : decode cX9_go 20 = .ok (.aload_n 0, 1) := by decide +kernel
theorem dX9_go_21 : decode cX9_go 21 = .ok (.getfield 19, 3) := by decide +kernel
theorem dX9_go_24 : decode cX9_go 24 = .ok (.iconst (-1), 1) := by decide +kernel
theorem dX9_go_25 : decode cX9_go 25 = .ok (.invokestatic 45, 3) := by decide +kernel
theorem dX9_go_28 : decode cX9_go 28 = .ok (.aload_n 0, 1) := by decide +kernel
theorem dX9_go_29 : decode cX9_go 29 = .ok (.getfield 23, 3) := by decide +kernel
theorem dX9_go_32 : decode cX9_go 32 = .ok (.iconst 0, 1) := by decide +kernel
theorem dX9_go_33 : decode cX9_go 33 = .ok (.invokestatic 45, 3) := by decide +kernel
theorem dX9_go_36 : decode cX9_go 36 = .ok (.aload_n 0, 1) := by decide +kernel
theorem dX9_go_37 : decode cX9_go 37 = .ok (.getfield 26, 3) := by decide +kernel
theorem dX9_go_40 : decode cX9_go 40 = .ok (.iconst 0, 1) := by decide +kernel
theorem dX9_go_41 : decode cX9_go 41 = .ok (.invokestatic 45, 3) := by decide +kernel
theorem dX9_go_44 : decode cX9_go 44 = .ok (.aload_n 0, 1) := by decide +kernel
theorem dX9_go_45 : decode cX9_go 45 = .ok (.getfield 29, 3) := by decide +kernel
theorem dX9_go_48 : decode cX9_go 48 = .ok (.iconst 0, 1) := by decide +kernel
theorem dX9_go_49 : decode cX9_go 49 = .ok (.invokestatic 45, 3) := by decide +kernel
theorem dX9_go_52 : decode cX9_go 52 = .ok (.aload_n 0, 1) := by decide +kernel
theorem dX9_go_53 : decode cX9_go 53 = .ok (.aload_n 1, 1) := by decide +kernel
theorem dX9_go_54 : decode cX9_go 54 = .ok (.iconst 0, 1) := by decide +kernel
theorem dX9_go_55 : decode cX9_go 55 = .ok (.aload_n 1, 1) := by decide +kernel
theorem dX9_go_56 : decode cX9_go 56 = .ok (.aload_n 2, 1) := by decide +kernel
theorem dX9_go_57 : decode cX9_go 57 = .ok (.iconst 0, 1) := by decide +kernel
theorem dX9_go_58 : decode cX9_go 58 = .ok (.invokestatic 49, 3) := by decide +kernel
theorem dX9_go_61 : decode cX9_go 61 = .ok (.invokevirtual 53, 3) := by decide +kernel
theorem dX9_go_64 : decode cX9_go 64 = .ok (.invokevirtual 59, 3) := by decide +kernel
theorem dX9_go_67 : decode cX9_go 67 = .ok (.iconst 0, 1) := by decide +kernel
theorem dX9_go_68 : decode cX9_go 68 = .ok (.istore_n 3, 1) := by decide +kernel
theorem dX9_go_69 : decode cX9_go 69 = .ok (.iload_n 3, 1) := by decide +kernel
theorem dX9_go_70 : decode cX9_go 70 = .ok (.iconst 4, 1) := by decide +kernel
theorem dX9_go_71 : decode cX9_go 71 = .ok (.if_icmp .ge 68, 3) := by decide +kernel
theorem dX9_go_74 : decode cX9_go 74 = .ok (.aload_n 1, 1) := by decide +kernel
theorem dX9_go_75 : decode cX9_go 75 = .ok (.aload_n 2, 1) := by decide +kernel
theorem dX9_go_76 : decode cX9_go 76 = .ok (.iload_n 3, 1) := by decide +kernel
theorem dX9_go_77 : decode cX9_go 77 = .ok (.invokestatic 49, 3) := by decide +kernel
theorem dX9_go_80 : decode cX9_go 80 = .ok (.invokevirtual 53, 3) := by decide +kernel
theorem dX9_go_83 : decode cX9_go 83 = .ok (.istore 4, 2) := by decide +kernel
theorem dX9_go_85 : decode cX9_go 85 = .ok (.aload_n 1, 1) := by decide +kernel
theorem dX9_go_86 : decode cX9_go 86 = .ok (.aload_n 2, 1) := by decide +kernel
theorem dX9_go_87 : decode cX9_go 87 = .ok (.iload_n 3, 1) := by decide +kernel
theorem dX9_go_88 : decode cX9_go 88 = .ok (.iconst 1, 1) := by decide +kernel
theorem dX9_go_89 : decode cX9_go 89 = .ok (.iadd, 1) := by decide +kernel
theorem dX9_go_90 : decode cX9_go 90 = .ok (.invokestatic 49, 3) := by decide +kernel
theorem dX9_go_93 : decode cX9_go 93 = .ok (.invokevirtual 53, 3) := by decide +kernel
theorem dX9_go_96 : decode cX9_go 96 = .ok (.istore 5, 2) := by decide +kernel
theorem dX9_go_98 : decode cX9_go 98 = .ok (.aload_n 0, 1) := by decide +kernel
theorem dX9_go_99 : decode cX9_go 99 = .ok (.getfield 9, 3) := by decide +kernel
theorem dX9_go_102 : decode cX9_go 102 = .ok (.iload_n 3, 1) := by decide +kernel
theorem dX9_go_103 : decode cX9_go 103 = .ok (.invokevirtual 63, 3) := by decide +kernel
theorem dX9_go_106 : decode cX9_go 106 = .ok (.istore 6, 2) := by decide +kernel
theorem dX9_go_108 : decode cX9_go 108 = .ok (.iconst 0, 1) := by decide +kernel
theorem dX9_go_109 : decode cX9_go 109 = .ok (.istore 7, 2) := by decide +kernel
theorem dX9_go_111 : decode cX9_go 111 = .ok (.iload 7, 2) := by decide +kernel
theorem dX9_go_113 : decode cX9_go 113 = .ok (.iload 6, 2) := by decide +kernel
theorem dX9_go_115 : decode cX9_go 115 = .ok (.if_icmp .ge 18, 3) := by decide +kernel
theorem dX9_go_118 : decode cX9_go 118 = .ok (.aload_n 0, 1) := by decide +kernel
theorem dX9_go_119 : decode cX9_go 119 = .ok (.aload_n 1, 1) := by decide +kernel
theorem dX9_go_120 : decode cX9_go 120 = .ok (.iload 4, 2) := by decide +kernel
theorem dX9_go_122 : decode cX9_go 122 = .ok (.iload 5, 2) := by decide +kernel
theorem dX9_go_124 : decode cX9_go 124 = .ok (.invokevirtual 59, 3) := by decide +kernel
theorem dX9_go_127 : decode cX9_go 127 = .ok (.iinc 7 1, 3) := by decide +kernel
theorem dX9_go_130 : decode cX9_go 130 = .ok (.goto (-19), 3) := by decide +kernel
theorem dX9_go_133 : decode cX9_go 133 = .ok (.iinc 3 1, 3) := by decide +kernel
theorem dX9_go_136 : decode cX9_go 136 = .ok (.goto (-67), 3) := by decide +kernel
theorem dX9_go_139 : decode cX9_go 139 = .ok (.return_, 1) := by decide +kernel
theorem dX9_goThrough_0 : decode cX9_goThrough 0 = .ok (.iload_n 2, 1) := by decide +kernel
theorem dX9_goThrough_1 : decode cX9_goThrough 1 = .ok (.istore 4, 2) := by decide +kernel
theorem dX9_goThrough_3 : decode cX9_goThrough 3 = .ok (.iload 4, 2) := by decide +kernel
theorem dX9_goThrough_5 : decode cX9_goThrough 5 = .ok (.iload_n 3, 1) := by decide +kernel
theorem dX9_goThrough_6 : decode cX9_goThrough 6 = .ok (.if_icmp .ge 166, 3) := by decide +kernel
theorem dX9_goThrough_9 : decode cX9_goThrough 9 = .ok (.aload_n 1, 1) := by decide +kernel
theorem dX9_goThrough_10 : decode cX9_goThrough 10 = .ok (.iload 4, 2) := by decide +kernel
theorem dX9_goThrough_12 : decode cX9_goThrough 12 = .ok (.invokevirtual 68, 3) := by decide +kernel
theorem dX9_goThrough_15 : decode cX9_goThrough 15 = .ok (.istore 5, 2) := by decide +kernel
theorem dX9_goThrough_17 : decode cX9_goThrough 17 = .ok (.aload_n 1, 1) := by decide +kernel
theorem dX9_goThrough_18 : decode cX9_goThrough 18 = .ok (.iload 4, 2) := by decide +kernel
theorem dX9_goThrough_20 : decode cX9_goThrough 20 = .ok (.iconst 1, 1) := by decide +kernel
theorem dX9_goThrough_21 : decode cX9_goThrough 21 = .ok (.invokevirtual 71, 3) := by decide +kernel
theorem dX9_goThrough_24 : decode cX9_goThrough 24 = .ok (.istore 6, 2) := by decide +kernel
theorem dX9_goThrough_26 : decode cX9_goThrough 26 = .ok (.aload_n 1, 1) := by decide +kernel
theorem dX9_goThrough_27 : decode cX9_goThrough 27 = .ok (.iload 4, 2) := by decide +kernel
theorem dX9_goThrough_29 : decode cX9_goThrough 29 = .ok (.iconst 2, 1) := by decide +kernel
theorem dX9_goThrough_30 : decode cX9_goThrough 30 = .ok (.invokevirtual 71, 3) := by decide +kernel
theorem dX9_goThrough_33 : decode cX9_goThrough 33 = .ok (.istore 7, 2) := by decide +kernel
theorem dX9_goThrough_35 : decode cX9_goThrough 35 = .ok (.aload_n 1, 1) := by decide +kernel
theorem dX9_goThrough_36 : decode cX9_goThrough 36 = .ok (.iload 4, 2) := by decide +kernel
theorem dX9_goThrough_38 : decode cX9_goThrough 38 = .ok (.iconst 3, 1) := by decide +kernel
theorem dX9_goThrough_39 : decode cX9_goThrough 39 = .ok (.invokevirtual 71, 3) := by decide +kernel
theorem dX9_goThrough_42 : decode cX9_goThrough 42 = .ok (.istore 8, 2) := by decide +kernel
theorem dX9_goThrough_44 : decode cX9_goThrough 44 = .ok (.aload_n 1, 1) := by decide +kernel
theorem dX9_goThrough_45 : decode cX9_goThrough 45 = .ok (.iload 4, 2) := by decide +kernel
theorem dX9_goThrough_47 : decode cX9_goThrough 47 = .ok (.iconst 4, 1) := by decide +kernel
theorem dX9_goThrough_48 : decode cX9_goThrough 48 = .ok (.invokevirtual 71, 3) := by decide +kernel
theorem dX9_goThrough_51 : decode cX9_goThrough 51 = .ok (.istore 9, 2) := by decide +kernel
theorem dX9_goThrough_53 : decode cX9_goThrough 53 = .ok (.aload_n 0, 1) := by decide +kernel
theorem dX9_goThrough_54 : decode cX9_goThrough 54 = .ok (.getfield 42, 3) := by decide +kernel
theorem dX9_goThrough_57 : decode cX9_goThrough 57 = .ok (.iconst 1, 1) := by decide +kernel
theorem dX9_goThrough_58 : decode cX9_goThrough 58 = .ok (.iadd, 1) := by decide +kernel
theorem dX9_goThrough_59 : decode cX9_goThrough 59 = .ok (.aload_n 0, 1) := by decide +kernel
theorem dX9_goThrough_60 : decode cX9_goThrough 60 = .ok (.iload 5, 2) := by decide +kernel
theorem dX9_goThrough_62 : decode cX9_goThrough 62 = .ok (.iload 6, 2) := by decide +kernel
theorem dX9_goThrough_64 : decode cX9_goThrough 64 = .ok (.iload 7, 2) := by decide +kernel
theorem dX9_goThrough_66 : decode cX9_goThrough 66 = .ok (.iload 8, 2) := by decide +kernel
theorem dX9_goThrough_68 : decode cX9_goThrough 68 = .ok (.iload 9, 2) := by decide +kernel
theorem dX9_goThrough_70 : decode cX9_goThrough 70 = .ok (.invokevirtual 75, 3) := by decide +kernel
theorem dX9_goThrough_73 : decode cX9_goThrough 73 = .ok (.invokestatic 79, 3) := by decide +kernel
theorem dX9_goThrough_76 : decode cX9_goThrough 76 = .ok (.istore 10, 2) := by decide +kernel
theorem dX9_goThrough_78 : decode cX9_goThrough 78 = .ok (.aload_n 0, 1) := by decide +kernel
theorem dX9_goThrough_79 : decode cX9_goThrough 79 = .ok (.dup, 1) := by decide +kernel
theorem dX9_goThrough_80 : decode cX9_goThrough 80 = .ok (.getfield 39, 3) := by decide +kernel
theorem dX9_goThrough_83 : decode cX9_goThrough 83 = .ok (.iload 10, 2) := by decide +kernel
theorem dX9_goThrough_85 : decode cX9_goThrough 85 = .ok (.aload_n 0, 1) := by decide +kernel
theorem dX9_goThrough_86 : decode cX9_goThrough 86 = .ok (.getfield 42, 3) := by decide +kernel
theorem dX9_goThrough_89 : decode cX9_goThrough 89 = .ok (.isub, 1) := by decide +kernel
theorem dX9_goThrough_90 : decode cX9_goThrough 90 = .ok (.iconst 1, 1) := by decide +kernel
theorem dX9_goThrough_91 : decode cX9_goThrough 91 = .ok (.isub, 1) := by decide +kernel
theorem dX9_goThrough_92 : decode cX9_goThrough 92 = .ok (.iadd, 1) := by decide +kernel
theorem dX9_goThrough_93 : decode cX9_goThrough 93 = .ok (.putfield 39, 3) := by decide +kernel
theorem dX9_goThrough_96 : decode cX9_goThrough 96 = .ok (.aload_n 0, 1) := by decide +kernel
theorem dX9_goThrough_97 : decode cX9_goThrough 97 = .ok (.iload 10, 2) := by decide +kernel
theorem dX9_goThrough_99 : decode cX9_goThrough 99 = .ok (.putfield 42, 3) := by decide +kernel
theorem dX9_goThrough_102 : decode cX9_goThrough 102 = .ok (.aload_n 0, 1) := by decide +kernel
theorem dX9_goThrough_103 : decode cX9_goThrough 103 = .ok (.dup, 1) := by decide +kernel
theorem dX9_goThrough_104 : decode cX9_goThrough 104 = .ok (.getfield 32, 3) := by decide +kernel
theorem dX9_goThrough_107 : decode cX9_goThrough 107 = .ok (.iconst 1, 1) := by decide +kernel
theorem dX9_goThrough_108 : decode cX9_goThrough 108 = .ok (.iadd, 1) := by decide +kernel
theorem dX9_goThrough_109 : decode cX9_goThrough 109 = .ok (.putfield 32, 3) := by decide +kernel
theorem dX9_goThrough_112 : decode cX9_goThrough 112 = .ok (.aload_n 0, 1) := by decide +kernel
theorem dX9_goThrough_113 : decode cX9_goThrough 113 = .ok (.iload 10, 2) := by decide +kernel
theorem dX9_goThrough_115 : decode cX9_goThrough 115 = .ok (.aload_n 0, 1) := by decide +kernel
theorem dX9_goThrough_116 : decode cX9_goThrough 116 = .ok (.getfield 15, 3) := by decide +kernel
theorem dX9_goThrough_119 : decode cX9_goThrough 119 = .ok (.iload 5, 2) := by decide +kernel
theorem dX9_goThrough_121 : decode cX9_goThrough 121 = .ok (.invokevirtual 84, 3) := by decide +kernel
theorem dX9_goThrough_124 : decode cX9_goThrough 124 = .ok (.iadd, 1) := by decide +kernel
theorem dX9_goThrough_125 : decode cX9_goThrough 125 = .ok (.putfield 36, 3) := by decide +kernel
theorem dX9_goThrough_128 : decode cX9_goThrough 128 = .ok (.aload_n 0, 1) := by decide +kernel
theorem dX9_goThrough_129 : decode cX9_goThrough 129 = .ok (.getfield 19, 3) := by decide +kernel
theorem dX9_goThrough_132 : decode cX9_goThrough 132 = .ok (.iload 4, 2) := by decide +kernel
theorem dX9_goThrough_134 : decode cX9_goThrough 134 = .ok (.invokestatic 49, 3) := by decide +kernel
theorem dX9_goThrough_137 : decode cX9_goThrough 137 = .ok (.iconst (-1), 1) := by decide +kernel
theorem dX9_goThrough_138 : decode cX9_goThrough 138 = .ok (.if_icmp .ne 14, 3) := by decide +kernel
theorem dX9_goThrough_141 : decode cX9_goThrough 141 = .ok (.aload_n 0, 1) := by decide +kernel
theorem dX9_goThrough_142 : decode cX9_goThrough 142 = .ok (.getfield 19, 3) := by decide +kernel
theorem dX9_goThrough_145 : decode cX9_goThrough 145 = .ok (.iload 4, 2) := by decide +kernel
theorem dX9_goThrough_147 : decode cX9_goThrough 147 = .ok (.iload 10, 2) := by decide +kernel
theorem dX9_goThrough_149 : decode cX9_goThrough 149 = .ok (.invokestatic 89, 3) := by decide +kernel
theorem dX9_goThrough_152 : decode cX9_goThrough 152 = .ok (.aload_n 0, 1) := by decide +kernel
theorem dX9_goThrough_153 : decode cX9_goThrough 153 = .ok (.iload 5, 2) := by decide +kernel
theorem dX9_goThrough_155 : decode cX9_goThrough 155 = .ok (.iload 6, 2) := by decide +kernel
theorem dX9_goThrough_157 : decode cX9_goThrough 157 = .ok (.iload 7, 2) := by decide +kernel
theorem dX9_goThrough_159 : decode cX9_goThrough 159 = .ok (.iload 8, 2) := by decide +kernel
theorem dX9_goThrough_161 : decode cX9_goThrough 161 = .ok (.iload 9, 2) := by decide +kernel
theorem dX9_goThrough_163 : decode cX9_goThrough 163 = .ok (.invokevirtual 93, 3) := by decide +kernel
theorem dX9_goThrough_166 : decode cX9_goThrough 166 = .ok (.iinc 4 1, 3) := by decide +kernel
theorem dX9_goThrough_169 : decode cX9_goThrough 169 = .ok (.goto (-166), 3) := by decide +kernel
theorem dX9_goThrough_172 : decode cX9_goThrough 172 = .ok (.return_, 1) := by decide +kernel
theorem dX9_readyFor_0 : decode cX9_readyFor 0 = .ok (.iload_n 1, 1) := by decide +kernel
theorem dX9_readyFor_1 : decode cX9_readyFor 1 = .ok (.tableswitch 143 1 9 #[51, 60, 60, 60, 51, 81, 143, 114, 123], 51) := by decide +kernel
theorem dX9_readyFor_52 : decode cX9_readyFor 52 = .ok (.aload_n 0, 1) := by decide +kernel
theorem dX9_readyFor_53 : decode cX9_readyFor 53 = .ok (.getfield 29, 3) := by decide +kernel
theorem dX9_readyFor_56 : decode cX9_readyFor 56 = .ok (.iload_n 3, 1) := by decide +kernel
theorem dX9_readyFor_57 : decode cX9_readyFor 57 = .ok (.invokestatic 49, 3) := by decide +kernel
theorem dX9_readyFor_60 : decode cX9_readyFor 60 = .ok (.ireturn, 1) := by decide +kernel
theorem dX9_readyFor_61 : decode cX9_readyFor 61 = .ok (.aload_n 0, 1) := by decide +kernel
theorem dX9_readyFor_62 : decode cX9_readyFor 62 = .ok (.getfield 29, 3) := by decide +kernel
theorem dX9_readyFor_65 : decode cX9_readyFor 65 = .ok (.iload_n 3, 1) := by decide +kernel
theorem dX9_readyFor_66 : decode cX9_readyFor 66 = .ok (.invokestatic 49, 3) := by decide +kernel
theorem dX9_readyFor_69 : decode cX9_readyFor 69 = .ok (.aload_n 0, 1) := by decide +kernel
theorem dX9_readyFor_70 : decode cX9_readyFor 70 = .ok (.getfield 29, 3) := by decide +kernel
theorem dX9_readyFor_73 : decode cX9_readyFor 73 = .ok (.iload 4, 2) := by decide +kernel
theorem dX9_readyFor_75 : decode cX9_readyFor 75 = .ok (.invokestatic 49, 3) := by decide +kernel
theorem dX9_readyFor_78 : decode cX9_readyFor 78 = .ok (.invokestatic 79, 3) := by decide +kernel
theorem dX9_readyFor_81 : decode cX9_readyFor 81 = .ok (.ireturn, 1) := by decide +kernel
theorem dX9_readyFor_82 : decode cX9_readyFor 82 = .ok (.aload_n 0, 1) := by decide +kernel
theorem dX9_readyFor_83 : decode cX9_readyFor 83 = .ok (.getfield 29, 3) := by decide +kernel
theorem dX9_readyFor_86 : decode cX9_readyFor 86 = .ok (.iload_n 3, 1) := by decide +kernel
theorem dX9_readyFor_87 : decode cX9_readyFor 87 = .ok (.invokestatic 49, 3) := by decide +kernel
theorem dX9_readyFor_90 : decode cX9_readyFor 90 = .ok (.aload_n 0, 1) := by decide +kernel
theorem dX9_readyFor_91 : decode cX9_readyFor 91 = .ok (.getfield 29, 3) := by decide +kernel
theorem dX9_readyFor_94 : decode cX9_readyFor 94 = .ok (.iload 4, 2) := by decide +kernel
theorem dX9_readyFor_96 : decode cX9_readyFor 96 = .ok (.invokestatic 49, 3) := by decide +kernel
theorem dX9_readyFor_99 : decode cX9_readyFor 99 = .ok (.aload_n 0, 1) := by decide +kernel
theorem dX9_readyFor_100 : decode cX9_readyFor 100 = .ok (.getfield 29, 3) := by decide +kernel
theorem dX9_readyFor_103 : decode cX9_readyFor 103 = .ok (.iload 5, 2) := by decide +kernel
theorem dX9_readyFor_105 : decode cX9_readyFor 105 = .ok (.invokestatic 49, 3) := by decide +kernel
theorem dX9_readyFor_108 : decode cX9_readyFor 108 = .ok (.invokestatic 79, 3) := by decide +kernel
theorem dX9_readyFor_111 : decode cX9_readyFor 111 = .ok (.invokestatic 79, 3) := by decide +kernel
theorem dX9_readyFor_114 : decode cX9_readyFor 114 = .ok (.ireturn, 1) := by decide +kernel
theorem dX9_readyFor_115 : decode cX9_readyFor 115 = .ok (.aload_n 0, 1) := by decide +kernel
theorem dX9_readyFor_116 : decode cX9_readyFor 116 = .ok (.getfield 29, 3) := by decide +kernel
theorem dX9_readyFor_119 : decode cX9_readyFor 119 = .ok (.iload_n 2, 1) := by decide +kernel
theorem dX9_readyFor_120 : decode cX9_readyFor 120 = .ok (.invokestatic 49, 3) := by decide +kernel
theorem dX9_readyFor_123 : decode cX9_readyFor 123 = .ok (.ireturn, 1) := by decide +kernel
theorem dX9_readyFor_124 : decode cX9_readyFor 124 = .ok (.aload_n 0, 1) := by decide +kernel
theorem dX9_readyFor_125 : decode cX9_readyFor 125 = .ok (.getfield 29, 3) := by decide +kernel
theorem dX9_readyFor_128 : decode cX9_readyFor 128 = .ok (.iconst 0, 1) := by decide +kernel
theorem dX9_readyFor_129 : decode cX9_readyFor 129 = .ok (.invokestatic 49, 3) := by decide +kernel
theorem dX9_readyFor_132 : decode cX9_readyFor 132 = .ok (.aload_n 0, 1) := by decide +kernel
theorem dX9_readyFor_133 : decode cX9_readyFor 133 = .ok (.getfield 29, 3) := by decide +kernel
theorem dX9_readyFor_136 : decode cX9_readyFor 136 = .ok (.iconst 1, 1) := by decide +kernel
theorem dX9_readyFor_137 : decode cX9_readyFor 137 = .ok (.invokestatic 49, 3) := by decide +kernel
theorem dX9_readyFor_140 : decode cX9_readyFor 140 = .ok (.invokestatic 79, 3) := by decide +kernel
theorem dX9_readyFor_143 : decode cX9_readyFor 143 = .ok (.ireturn, 1) := by decide +kernel
theorem dX9_readyFor_144 : decode cX9_readyFor 144 = .ok (.iconst 0, 1) := by decide +kernel
theorem dX9_readyFor_145 : decode cX9_readyFor 145 = .ok (.ireturn, 1) := by decide +kernel
theorem dX9_perform_0 : decode cX9_perform 0 = .ok (.iload_n 1, 1) := by decide +kernel
theorem dX9_perform_1 : decode cX9_perform 1 = .ok (.bipush 8, 2) := by decide +kernel
theorem dX9_perform_3 : decode cX9_perform 3 = .ok (.if_icmp .ne 22, 3) := by decide +kernel
theorem dX9_perform_6 : decode cX9_perform 6 = .ok (.aload_n 0, 1) := by decide +kernel
theorem dX9_perform_7 : decode cX9_perform 7 = .ok (.getfield 26, 3) := by decide +kernel
theorem dX9_perform_10 : decode cX9_perform 10 = .ok (.iload_n 3, 1) := by decide +kernel
theorem dX9_perform_11 : decode cX9_perform 11 = .ok (.aload_n 0, 1) := by decide +kernel
theorem dX9_perform_12 : decode cX9_perform 12 = .ok (.getfield 23, 3) := by decide +kernel
theorem dX9_perform_15 : decode cX9_perform 15 = .ok (.iload_n 2, 1) := by decide +kernel
theorem dX9_perform_16 : decode cX9_perform 16 = .ok (.invokestatic 49, 3) := by decide +kernel
theorem dX9_perform_19 : decode cX9_perform 19 = .ok (.invokestatic 89, 3) := by decide +kernel
theorem dX9_perform_22 : decode cX9_perform 22 = .ok (.goto 46, 3) := by decide +kernel
theorem dX9_perform_25 : decode cX9_perform 25 = .ok (.iload_n 1, 1) := by decide +kernel
theorem dX9_perform_26 : decode cX9_perform 26 = .ok (.bipush 9, 2) := by decide +kernel
theorem dX9_perform_28 : decode cX9_perform 28 = .ok (.if_icmp .ne 10, 3) := by decide +kernel
theorem dX9_perform_31 : decode cX9_perform 31 = .ok (.aload_n 0, 1) := by decide +kernel
theorem dX9_perform_32 : decode cX9_perform 32 = .ok (.invokevirtual 97, 3) := by decide +kernel
theorem dX9_perform_35 : decode cX9_perform 35 = .ok (.goto 33, 3) := by decide +kernel
theorem dX9_perform_38 : decode cX9_perform 38 = .ok (.aload_n 0, 1) := by decide +kernel
theorem dX9_perform_39 : decode cX9_perform 39 = .ok (.getfield 23, 3) := by decide +kernel
theorem dX9_perform_42 : decode cX9_perform 42 = .ok (.iload_n 2, 1) := by decide +kernel
theorem dX9_perform_43 : decode cX9_perform 43 = .ok (.aload_n 0, 1) := by decide +kernel
theorem dX9_perform_44 : decode cX9_perform 44 = .ok (.iload_n 1, 1) := by decide +kernel
theorem dX9_perform_45 : decode cX9_perform 45 = .ok (.iload_n 3, 1) := by decide +kernel
theorem dX9_perform_46 : decode cX9_perform 46 = .ok (.iload 4, 2) := by decide +kernel
theorem dX9_perform_48 : decode cX9_perform 48 = .ok (.iload 5, 2) := by decide +kernel
theorem dX9_perform_50 : decode cX9_perform 50 = .ok (.invokevirtual 100, 3) := by decide +kernel
theorem dX9_perform_53 : decode cX9_perform 53 = .ok (.invokestatic 89, 3) := by decide +kernel
theorem dX9_perform_56 : decode cX9_perform 56 = .ok (.aload_n 0, 1) := by decide +kernel
theorem dX9_perform_57 : decode cX9_perform 57 = .ok (.getfield 29, 3) := by decide +kernel
theorem dX9_perform_60 : decode cX9_perform 60 = .ok (.iload_n 2, 1) := by decide +kernel
theorem dX9_perform_61 : decode cX9_perform 61 = .ok (.aload_n 0, 1) := by decide +kernel
theorem dX9_perform_62 : decode cX9_perform 62 = .ok (.getfield 36, 3) := by decide +kernel
theorem dX9_perform_65 : decode cX9_perform 65 = .ok (.invokestatic 89, 3) := by decide +kernel
theorem dX9_perform_68 : decode cX9_perform 68 = .ok (.return_, 1) := by decide +kernel
theorem dX9_resultOf_0 : decode cX9_resultOf 0 = .ok (.aload_n 0, 1) := by decide +kernel
theorem dX9_resultOf_1 : decode cX9_resultOf 1 = .ok (.getfield 23, 3) := by decide +kernel
theorem dX9_resultOf_4 : decode cX9_resultOf 4 = .ok (.iload_n 2, 1) := by decide +kernel
theorem dX9_resultOf_5 : decode cX9_resultOf 5 = .ok (.invokestatic 49, 3) := by decide +kernel
theorem dX9_resultOf_8 : decode cX9_resultOf 8 = .ok (.istore 5, 2) := by decide +kernel
theorem dX9_resultOf_10 : decode cX9_resultOf 10 = .ok (.aload_n 0, 1) := by decide +kernel
theorem dX9_resultOf_11 : decode cX9_resultOf 11 = .ok (.getfield 23, 3) := by decide +kernel
theorem dX9_resultOf_14 : decode cX9_resultOf 14 = .ok (.iload_n 3, 1) := by decide +kernel
theorem dX9_resultOf_15 : decode cX9_resultOf 15 = .ok (.invokestatic 49, 3) := by decide +kernel
theorem dX9_resultOf_18 : decode cX9_resultOf 18 = .ok (.istore 6, 2) := by decide +kernel
theorem dX9_resultOf_20 : decode cX9_resultOf 20 = .ok (.iload_n 1, 1) := by decide +kernel
theorem dX9_resultOf_21 : decode cX9_resultOf 21 = .ok (.tableswitch 87 0 6 #[43, 45, 48, 54, 60, 66, 71], 43) := by decide +kernel
theorem dX9_resultOf_64 : decode cX9_resultOf 64 = .ok (.iload_n 2, 1) := by decide +kernel
theorem dX9_resultOf_65 : decode cX9_resultOf 65 = .ok (.ireturn, 1) := by decide +kernel
theorem dX9_resultOf_66 : decode cX9_resultOf 66 = .ok (.iload 5, 2) := by decide +kernel
theorem dX9_resultOf_68 : decode cX9_resultOf 68 = .ok (.ireturn, 1) := by decide +kernel
theorem dX9_resultOf_69 : decode cX9_resultOf 69 = .ok (.iload 5, 2) := by decide +kernel
theorem dX9_resultOf_71 : decode cX9_resultOf 71 = .ok (.iload 6, 2) := by decide +kernel
theorem dX9_resultOf_73 : decode cX9_resultOf 73 = .ok (.iadd, 1) := by decide +kernel
theorem dX9_resultOf_74 : decode cX9_resultOf 74 = .ok (.ireturn, 1) := by decide +kernel
theorem dX9_resultOf_75 : decode cX9_resultOf 75 = .ok (.iload 5, 2) := by decide +kernel
theorem dX9_resultOf_77 : decode cX9_resultOf 77 = .ok (.iload 6, 2) := by decide +kernel
theorem dX9_resultOf_79 : decode cX9_resultOf 79 = .ok (.isub, 1) := by decide +kernel
theorem dX9_resultOf_80 : decode cX9_resultOf 80 = .ok (.ireturn, 1) := by decide +kernel
theorem dX9_resultOf_81 : decode cX9_resultOf 81 = .ok (.iload 5, 2) := by decide +kernel
theorem dX9_resultOf_83 : decode cX9_resultOf 83 = .ok (.iload 6, 2) := by decide +kernel
theorem dX9_resultOf_85 : decode cX9_resultOf 85 = .ok (.imul, 1) := by decide +kernel
theorem dX9_resultOf_86 : decode cX9_resultOf 86 = .ok (.ireturn, 1) := by decide +kernel
theorem dX9_resultOf_87 : decode cX9_resultOf 87 = .ok (.iload 5, 2) := by decide +kernel
theorem dX9_resultOf_89 : decode cX9_resultOf 89 = .ok (.iload_n 3, 1) := by decide +kernel
theorem dX9_resultOf_90 : decode cX9_resultOf 90 = .ok (.iadd, 1) := by decide +kernel
theorem dX9_resultOf_91 : decode cX9_resultOf 91 = .ok (.ireturn, 1) := by decide +kernel
theorem dX9_resultOf_92 : decode cX9_resultOf 92 = .ok (.iload 5, 2) := by decide +kernel
theorem dX9_resultOf_94 : decode cX9_resultOf 94 = .ok (.iload 6, 2) := by decide +kernel
theorem dX9_resultOf_96 : decode cX9_resultOf 96 = .ok (.imul, 1) := by decide +kernel
theorem dX9_resultOf_97 : decode cX9_resultOf 97 = .ok (.aload_n 0, 1) := by decide +kernel
theorem dX9_resultOf_98 : decode cX9_resultOf 98 = .ok (.getfield 23, 3) := by decide +kernel
theorem dX9_resultOf_101 : decode cX9_resultOf 101 = .ok (.iload 4, 2) := by decide +kernel
theorem dX9_resultOf_103 : decode cX9_resultOf 103 = .ok (.invokestatic 49, 3) := by decide +kernel
theorem dX9_resultOf_106 : decode cX9_resultOf 106 = .ok (.iadd, 1) := by decide +kernel
theorem dX9_resultOf_107 : decode cX9_resultOf 107 = .ok (.ireturn, 1) := by decide +kernel
theorem dX9_resultOf_108 : decode cX9_resultOf 108 = .ok (.aload_n 0, 1) := by decide +kernel
theorem dX9_resultOf_109 : decode cX9_resultOf 109 = .ok (.getfield 26, 3) := by decide +kernel
theorem dX9_resultOf_112 : decode cX9_resultOf 112 = .ok (.iload_n 2, 1) := by decide +kernel
theorem dX9_resultOf_113 : decode cX9_resultOf 113 = .ok (.invokestatic 49, 3) := by decide +kernel
theorem dX9_resultOf_116 : decode cX9_resultOf 116 = .ok (.ireturn, 1) := by decide +kernel
theorem dX9_performCall_0 : decode cX9_performCall 0 = .ok (.iconst 3, 1) := by decide +kernel
theorem dX9_performCall_1 : decode cX9_performCall 1 = .ok (.aload_n 0, 1) := by decide +kernel
theorem dX9_performCall_2 : decode cX9_performCall 2 = .ok (.getfield 23, 3) := by decide +kernel
theorem dX9_performCall_5 : decode cX9_performCall 5 = .ok (.iconst 0, 1) := by decide +kernel
theorem dX9_performCall_6 : decode cX9_performCall 6 = .ok (.invokestatic 49, 3) := by decide +kernel
theorem dX9_performCall_9 : decode cX9_performCall 9 = .ok (.imul, 1) := by decide +kernel
theorem dX9_performCall_10 : decode cX9_performCall 10 = .ok (.iconst 2, 1) := by decide +kernel
theorem dX9_performCall_11 : decode cX9_performCall 11 = .ok (.aload_n 0, 1) := by decide +kernel
theorem dX9_performCall_12 : decode cX9_performCall 12 = .ok (.getfield 23, 3) := by decide +kernel
theorem dX9_performCall_15 : decode cX9_performCall 15 = .ok (.iconst 1, 1) := by decide +kernel
theorem dX9_performCall_16 : decode cX9_performCall 16 = .ok (.invokestatic 49, 3) := by decide +kernel
theorem dX9_performCall_19 : decode cX9_performCall 19 = .ok (.imul, 1) := by decide +kernel
theorem dX9_performCall_20 : decode cX9_performCall 20 = .ok (.iadd, 1) := by decide +kernel
theorem dX9_performCall_21 : decode cX9_performCall 21 = .ok (.iconst 1, 1) := by decide +kernel
theorem dX9_performCall_22 : decode cX9_performCall 22 = .ok (.iadd, 1) := by decide +kernel
theorem dX9_performCall_23 : decode cX9_performCall 23 = .ok (.istore_n 1, 1) := by decide +kernel
theorem dX9_performCall_24 : decode cX9_performCall 24 = .ok (.iconst 1, 1) := by decide +kernel
theorem dX9_performCall_25 : decode cX9_performCall 25 = .ok (.istore_n 2, 1) := by decide +kernel
theorem dX9_performCall_26 : decode cX9_performCall 26 = .ok (.iload_n 2, 1) := by decide +kernel
theorem dX9_performCall_27 : decode cX9_performCall 27 = .ok (.aload_n 0, 1) := by decide +kernel
theorem dX9_performCall_28 : decode cX9_performCall 28 = .ok (.getfield 15, 3) := by decide +kernel
theorem dX9_performCall_31 : decode cX9_performCall 31 = .ok (.getfield 104, 3) := by decide +kernel
theorem dX9_performCall_34 : decode cX9_performCall 34 = .ok (.if_icmp .ge 45, 3) := by decide +kernel
theorem dX9_performCall_37 : decode cX9_performCall 37 = .ok (.aload_n 0, 1) := by decide +kernel
theorem dX9_performCall_38 : decode cX9_performCall 38 = .ok (.getfield 15, 3) := by decide +kernel
theorem dX9_performCall_41 : decode cX9_performCall 41 = .ok (.getfield 106, 3) := by decide +kernel
theorem dX9_performCall_44 : decode cX9_performCall 44 = .ok (.iload_n 2, 1) := by decide +kernel
theorem dX9_performCall_45 : decode cX9_performCall 45 = .ok (.invokestatic 109, 3) := by decide +kernel
theorem dX9_performCall_48 : decode cX9_performCall 48 = .ok (.ifCond .ne 25, 3) := by decide +kernel
theorem dX9_performCall_51 : decode cX9_performCall 51 = .ok (.aload_n 0, 1) := by decide +kernel
theorem dX9_performCall_52 : decode cX9_performCall 52 = .ok (.getfield 23, 3) := by decide +kernel
theorem dX9_performCall_55 : decode cX9_performCall 55 = .ok (.iload_n 2, 1) := by decide +kernel
theorem dX9_performCall_56 : decode cX9_performCall 56 = .ok (.ldc 113, 2) := by decide +kernel
theorem dX9_performCall_58 : decode cX9_performCall 58 = .ok (.invokestatic 89, 3) := by decide +kernel
theorem dX9_performCall_61 : decode cX9_performCall 61 = .ok (.aload_n 0, 1) := by decide +kernel
theorem dX9_performCall_62 : decode cX9_performCall 62 = .ok (.getfield 29, 3) := by decide +kernel
theorem dX9_performCall_65 : decode cX9_performCall 65 = .ok (.iload_n 2, 1) := by decide +kernel
theorem dX9_performCall_66 : decode cX9_performCall 66 = .ok (.aload_n 0, 1) := by decide +kernel
theorem dX9_performCall_67 : decode cX9_performCall 67 = .ok (.getfield 42, 3) := by decide +kernel
theorem dX9_performCall_70 : decode cX9_performCall 70 = .ok (.invokestatic 89, 3) := by decide +kernel
theorem dX9_performCall_73 : decode cX9_performCall 73 = .ok (.iinc 2 1, 3) := by decide +kernel
theorem dX9_performCall_76 : decode cX9_performCall 76 = .ok (.goto (-50), 3) := by decide +kernel
theorem dX9_performCall_79 : decode cX9_performCall 79 = .ok (.aload_n 0, 1) := by decide +kernel
theorem dX9_performCall_80 : decode cX9_performCall 80 = .ok (.getfield 23, 3) := by decide +kernel
theorem dX9_performCall_83 : decode cX9_performCall 83 = .ok (.iconst 0, 1) := by decide +kernel
theorem dX9_performCall_84 : decode cX9_performCall 84 = .ok (.iload_n 1, 1) := by decide +kernel
theorem dX9_performCall_85 : decode cX9_performCall 85 = .ok (.invokestatic 89, 3) := by decide +kernel
theorem dX9_performCall_88 : decode cX9_performCall 88 = .ok (.aload_n 0, 1) := by decide +kernel
theorem dX9_performCall_89 : decode cX9_performCall 89 = .ok (.getfield 29, 3) := by decide +kernel
theorem dX9_performCall_92 : decode cX9_performCall 92 = .ok (.iconst 0, 1) := by decide +kernel
theorem dX9_performCall_93 : decode cX9_performCall 93 = .ok (.aload_n 0, 1) := by decide +kernel
theorem dX9_performCall_94 : decode cX9_performCall 94 = .ok (.getfield 36, 3) := by decide +kernel
theorem dX9_performCall_97 : decode cX9_performCall 97 = .ok (.invokestatic 89, 3) := by decide +kernel
theorem dX9_performCall_100 : decode cX9_performCall 100 = .ok (.return_, 1) := by decide +kernel
theorem dX10_init_0 : decode cX10_init 0 = .ok (.aload_n 0, 1) := by decide +kernel
theorem dX10_init_1 : decode cX10_init 1 = .ok (.invokespecial 3, 3) := by decide +kernel
theorem dX10_init_4 : decode cX10_init 4 = .ok (.aload_n 0, 1) := by decide +kernel
theorem dX10_init_5 : decode cX10_init 5 = .ok (.aload_n 1, 1) := by decide +kernel
theorem dX10_init_6 : decode cX10_init 6 = .ok (.putfield 9, 3) := by decide +kernel
theorem dX10_init_9 : decode cX10_init 9 = .ok (.aload_n 0, 1) := by decide +kernel
theorem dX10_init_10 : decode cX10_init 10 = .ok (.new 15, 3) := by decide +kernel
theorem dX10_init_13 : decode cX10_init 13 = .ok (.dup, 1) := by decide +kernel
theorem dX10_init_14 : decode cX10_init 14 = .ok (.aload_n 2, 1) := by decide +kernel
theorem dX10_init_15 : decode cX10_init 15 = .ok (.invokespecial 17, 3) := by decide +kernel
theorem dX10_init_18 : decode cX10_init 18 = .ok (.putfield 20, 3) := by decide +kernel
theorem dX10_init_21 : decode cX10_init 21 = .ok (.aload_n 0, 1) := by decide +kernel
theorem dX10_init_22 : decode cX10_init 22 = .ok (.new 24, 3) := by decide +kernel
theorem dX10_init_25 : decode cX10_init 25 = .ok (.dup, 1) := by decide +kernel
theorem dX10_init_26 : decode cX10_init 26 = .ok (.aload_n 2, 1) := by decide +kernel
theorem dX10_init_27 : decode cX10_init 27 = .ok (.invokespecial 26, 3) := by decide +kernel
theorem dX10_init_30 : decode cX10_init 30 = .ok (.putfield 27, 3) := by decide +kernel
theorem dX10_init_33 : decode cX10_init 33 = .ok (.aload_n 0, 1) := by decide +kernel
theorem dX10_init_34 : decode cX10_init 34 = .ok (.new 31, 3) := by decide +kernel
theorem dX10_init_37 : decode cX10_init 37 = .ok (.dup, 1) := by decide +kernel
theorem dX10_init_38 : decode cX10_init 38 = .ok (.aload_n 1, 1) := by decide +kernel
theorem dX10_init_39 : decode cX10_init 39 = .ok (.aload_n 2, 1) := by decide +kernel
theorem dX10_init_40 : decode cX10_init 40 = .ok (.invokespecial 33, 3) := by decide +kernel
theorem dX10_init_43 : decode cX10_init 43 = .ok (.putfield 36, 3) := by decide +kernel
theorem dX10_init_46 : decode cX10_init 46 = .ok (.return_, 1) := by decide +kernel
theorem dX10_build_0 : decode cX10_build 0 = .ok (.aload_n 0, 1) := by decide +kernel
theorem dX10_build_1 : decode cX10_build 1 = .ok (.getfield 20, 3) := by decide +kernel
theorem dX10_build_4 : decode cX10_build 4 = .ok (.aload_n 1, 1) := by decide +kernel
theorem dX10_build_5 : decode cX10_build 5 = .ok (.getfield 40, 3) := by decide +kernel
theorem dX10_build_8 : decode cX10_build 8 = .ok (.aload_n 1, 1) := by decide +kernel
theorem dX10_build_9 : decode cX10_build 9 = .ok (.getfield 46, 3) := by decide +kernel
theorem dX10_build_12 : decode cX10_build 12 = .ok (.invokevirtual 50, 3) := by decide +kernel
theorem dX10_build_15 : decode cX10_build 15 = .ok (.aload_n 0, 1) := by decide +kernel
theorem dX10_build_16 : decode cX10_build 16 = .ok (.getfield 27, 3) := by decide +kernel
theorem dX10_build_19 : decode cX10_build 19 = .ok (.aload_n 1, 1) := by decide +kernel
theorem dX10_build_20 : decode cX10_build 20 = .ok (.getfield 40, 3) := by decide +kernel
theorem dX10_build_23 : decode cX10_build 23 = .ok (.aload_n 0, 1) := by decide +kernel
theorem dX10_build_24 : decode cX10_build 24 = .ok (.getfield 20, 3) := by decide +kernel
theorem dX10_build_27 : decode cX10_build 27 = .ok (.invokevirtual 54, 3) := by decide +kernel
theorem dX10_build_30 : decode cX10_build 30 = .ok (.aload_n 0, 1) := by decide +kernel
theorem dX10_build_31 : decode cX10_build 31 = .ok (.getfield 36, 3) := by decide +kernel
theorem dX10_build_34 : decode cX10_build 34 = .ok (.aload_n 0, 1) := by decide +kernel
theorem dX10_build_35 : decode cX10_build 35 = .ok (.getfield 27, 3) := by decide +kernel
theorem dX10_build_38 : decode cX10_build 38 = .ok (.aload_n 1, 1) := by decide +kernel
theorem dX10_build_39 : decode cX10_build 39 = .ok (.getfield 58, 3) := by decide +kernel
theorem dX10_build_42 : decode cX10_build 42 = .ok (.invokevirtual 62, 3) := by decide +kernel
theorem dX10_build_45 : decode cX10_build 45 = .ok (.return_, 1) := by decide +kernel
theorem dX10_tellLine_0 : decode cX10_tellLine 0 = .ok (.iload_n 3, 1) := by decide +kernel
theorem dX10_tellLine_1 : decode cX10_tellLine 1 = .ok (.tableswitch 92 0 7 #[47, 56, 92, 92, 92, 65, 74, 83], 47) := by decide +kernel
theorem dX10_tellLine_48 : decode cX10_tellLine 48 = .ok (.aload_n 1, 1) := by decide +kernel
theorem dX10_tellLine_49 : decode cX10_tellLine 49 = .ok (.getfield 40, 3) := by decide +kernel
theorem dX10_tellLine_52 : decode cX10_tellLine 52 = .ok (.iload_n 2, 1) := by decide +kernel
theorem dX10_tellLine_53 : decode cX10_tellLine 53 = .ok (.invokevirtual 66, 3) := by decide +kernel
theorem dX10_tellLine_56 : decode cX10_tellLine 56 = .ok (.ireturn, 1) := by decide +kernel
theorem dX10_tellLine_57 : decode cX10_tellLine 57 = .ok (.aload_n 1, 1) := by decide +kernel
theorem dX10_tellLine_58 : decode cX10_tellLine 58 = .ok (.getfield 40, 3) := by decide +kernel
theorem dX10_tellLine_61 : decode cX10_tellLine 61 = .ok (.iload_n 2, 1) := by decide +kernel
theorem dX10_tellLine_62 : decode cX10_tellLine 62 = .ok (.invokevirtual 72, 3) := by decide +kernel
theorem dX10_tellLine_65 : decode cX10_tellLine 65 = .ok (.ireturn, 1) := by decide +kernel
theorem dX10_tellLine_66 : decode cX10_tellLine 66 = .ok (.aload_n 1, 1) := by decide +kernel
theorem dX10_tellLine_67 : decode cX10_tellLine 67 = .ok (.getfield 40, 3) := by decide +kernel
theorem dX10_tellLine_70 : decode cX10_tellLine 70 = .ok (.iload_n 2, 1) := by decide +kernel
theorem dX10_tellLine_71 : decode cX10_tellLine 71 = .ok (.invokevirtual 75, 3) := by decide +kernel
theorem dX10_tellLine_74 : decode cX10_tellLine 74 = .ok (.ireturn, 1) := by decide +kernel
theorem dX10_tellLine_75 : decode cX10_tellLine 75 = .ok (.aload_n 1, 1) := by decide +kernel
theorem dX10_tellLine_76 : decode cX10_tellLine 76 = .ok (.getfield 40, 3) := by decide +kernel
theorem dX10_tellLine_79 : decode cX10_tellLine 79 = .ok (.iload_n 2, 1) := by decide +kernel
theorem dX10_tellLine_80 : decode cX10_tellLine 80 = .ok (.invokevirtual 78, 3) := by decide +kernel
theorem dX10_tellLine_83 : decode cX10_tellLine 83 = .ok (.ireturn, 1) := by decide +kernel
theorem dX10_tellLine_84 : decode cX10_tellLine 84 = .ok (.aload_n 1, 1) := by decide +kernel
theorem dX10_tellLine_85 : decode cX10_tellLine 85 = .ok (.getfield 40, 3) := by decide +kernel
theorem dX10_tellLine_88 : decode cX10_tellLine 88 = .ok (.iload_n 2, 1) := by decide +kernel
theorem dX10_tellLine_89 : decode cX10_tellLine 89 = .ok (.invokevirtual 81, 3) := by decide +kernel
theorem dX10_tellLine_92 : decode cX10_tellLine 92 = .ok (.ireturn, 1) := by decide +kernel
theorem dX10_tellLine_93 : decode cX10_tellLine 93 = .ok (.aload_n 1, 1) := by decide +kernel
theorem dX10_tellLine_94 : decode cX10_tellLine 94 = .ok (.getfield 40, 3) := by decide +kernel
theorem dX10_tellLine_97 : decode cX10_tellLine 97 = .ok (.iload_n 2, 1) := by decide +kernel
theorem dX10_tellLine_98 : decode cX10_tellLine 98 = .ok (.iload_n 3, 1) := by decide +kernel
theorem dX10_tellLine_99 : decode cX10_tellLine 99 = .ok (.iconst 2, 1) := by decide +kernel
theorem dX10_tellLine_100 : decode cX10_tellLine 100 = .ok (.isub, 1) := by decide +kernel
theorem dX10_tellLine_101 : decode cX10_tellLine 101 = .ok (.invokevirtual 84, 3) := by decide +kernel
theorem dX10_tellLine_104 : decode cX10_tellLine 104 = .ok (.ireturn, 1) := by decide +kernel
theorem dX10_tellValue_0 : decode cX10_tellValue 0 = .ok (.iload_n 3, 1) := by decide +kernel
theorem dX10_tellValue_1 : decode cX10_tellValue 1 = .ok (.tableswitch 114 0 6 #[43, 52, 61, 70, 79, 88, 105], 43) := by decide +kernel
theorem dX10_tellValue_44 : decode cX10_tellValue 44 = .ok (.aload_n 1, 1) := by decide +kernel
theorem dX10_tellValue_45 : decode cX10_tellValue 45 = .ok (.getfield 46, 3) := by decide +kernel
theorem dX10_tellValue_48 : decode cX10_tellValue 48 = .ok (.iload_n 2, 1) := by decide +kernel
theorem dX10_tellValue_49 : decode cX10_tellValue 49 = .ok (.invokevirtual 88, 3) := by decide +kernel
theorem dX10_tellValue_52 : decode cX10_tellValue 52 = .ok (.ireturn, 1) := by decide +kernel
theorem dX10_tellValue_53 : decode cX10_tellValue 53 = .ok (.aload_n 1, 1) := by decide +kernel
theorem dX10_tellValue_54 : decode cX10_tellValue 54 = .ok (.getfield 46, 3) := by decide +kernel
theorem dX10_tellValue_57 : decode cX10_tellValue 57 = .ok (.iload_n 2, 1) := by decide +kernel
theorem dX10_tellValue_58 : decode cX10_tellValue 58 = .ok (.invokevirtual 93, 3) := by decide +kernel
theorem dX10_tellValue_61 : decode cX10_tellValue 61 = .ok (.ireturn, 1) := by decide +kernel
theorem dX10_tellValue_62 : decode cX10_tellValue 62 = .ok (.aload_n 1, 1) := by decide +kernel
theorem dX10_tellValue_63 : decode cX10_tellValue 63 = .ok (.getfield 46, 3) := by decide +kernel
theorem dX10_tellValue_66 : decode cX10_tellValue 66 = .ok (.iload_n 2, 1) := by decide +kernel
theorem dX10_tellValue_67 : decode cX10_tellValue 67 = .ok (.invokevirtual 96, 3) := by decide +kernel
theorem dX10_tellValue_70 : decode cX10_tellValue 70 = .ok (.ireturn, 1) := by decide +kernel
theorem dX10_tellValue_71 : decode cX10_tellValue 71 = .ok (.aload_n 0, 1) := by decide +kernel
theorem dX10_tellValue_72 : decode cX10_tellValue 72 = .ok (.getfield 20, 3) := by decide +kernel
theorem dX10_tellValue_75 : decode cX10_tellValue 75 = .ok (.iload_n 2, 1) := by decide +kernel
theorem dX10_tellValue_76 : decode cX10_tellValue 76 = .ok (.invokevirtual 99, 3) := by decide +kernel
theorem dX10_tellValue_79 : decode cX10_tellValue 79 = .ok (.ireturn, 1) := by decide +kernel
theorem dX10_tellValue_80 : decode cX10_tellValue 80 = .ok (.aload_n 0, 1) := by decide +kernel
theorem dX10_tellValue_81 : decode cX10_tellValue 81 = .ok (.getfield 20, 3) := by decide +kernel
theorem dX10_tellValue_84 : decode cX10_tellValue 84 = .ok (.iload_n 2, 1) := by decide +kernel
theorem dX10_tellValue_85 : decode cX10_tellValue 85 = .ok (.invokevirtual 102, 3) := by decide +kernel
theorem dX10_tellValue_88 : decode cX10_tellValue 88 = .ok (.ireturn, 1) := by decide +kernel
theorem dX10_tellValue_89 : decode cX10_tellValue 89 = .ok (.aload_n 0, 1) := by decide +kernel
theorem dX10_tellValue_90 : decode cX10_tellValue 90 = .ok (.getfield 20, 3) := by decide +kernel
theorem dX10_tellValue_93 : decode cX10_tellValue 93 = .ok (.iload_n 2, 1) := by decide +kernel
theorem dX10_tellValue_94 : decode cX10_tellValue 94 = .ok (.invokevirtual 105, 3) := by decide +kernel
theorem dX10_tellValue_97 : decode cX10_tellValue 97 = .ok (.ifCond .eq 7, 3) := by decide +kernel
theorem dX10_tellValue_100 : decode cX10_tellValue 100 = .ok (.iconst 1, 1) := by decide +kernel
theorem dX10_tellValue_101 : decode cX10_tellValue 101 = .ok (.goto 4, 3) := by decide +kernel
theorem dX10_tellValue_104 : decode cX10_tellValue 104 = .ok (.iconst 0, 1) := by decide +kernel
theorem dX10_tellValue_105 : decode cX10_tellValue 105 = .ok (.ireturn, 1) := by decide +kernel
theorem dX10_tellValue_106 : decode cX10_tellValue 106 = .ok (.aload_n 1, 1) := by decide +kernel
theorem dX10_tellValue_107 : decode cX10_tellValue 107 = .ok (.getfield 46, 3) := by decide +kernel
theorem dX10_tellValue_110 : decode cX10_tellValue 110 = .ok (.iload_n 2, 1) := by decide +kernel
theorem dX10_tellValue_111 : decode cX10_tellValue 111 = .ok (.invokevirtual 109, 3) := by decide +kernel
theorem dX10_tellValue_114 : decode cX10_tellValue 114 = .ok (.ireturn, 1) := by decide +kernel
theorem dX10_tellValue_115 : decode cX10_tellValue 115 = .ok (.aload_n 1, 1) := by decide +kernel
theorem dX10_tellValue_116 : decode cX10_tellValue 116 = .ok (.getfield 46, 3) := by decide +kernel
theorem dX10_tellValue_119 : decode cX10_tellValue 119 = .ok (.iload_n 2, 1) := by decide +kernel
theorem dX10_tellValue_120 : decode cX10_tellValue 120 = .ok (.invokevirtual 112, 3) := by decide +kernel
theorem dX10_tellValue_123 : decode cX10_tellValue 123 = .ok (.ireturn, 1) := by decide +kernel
theorem dX10_tellCall_0 : decode cX10_tellCall 0 = .ok (.aload_n 1, 1) := by decide +kernel
theorem dX10_tellCall_1 : decode cX10_tellCall 1 = .ok (.getfield 46, 3) := by decide +kernel
theorem dX10_tellCall_4 : decode cX10_tellCall 4 = .ok (.iload_n 2, 1) := by decide +kernel
theorem dX10_tellCall_5 : decode cX10_tellCall 5 = .ok (.invokevirtual 115, 3) := by decide +kernel
theorem dX10_tellCall_8 : decode cX10_tellCall 8 = .ok (.istore 4, 2) := by decide +kernel
theorem dX10_tellCall_10 : decode cX10_tellCall 10 = .ok (.iload_n 3, 1) := by decide +kernel
theorem dX10_tellCall_11 : decode cX10_tellCall 11 = .ok (.ifCond .ne 6, 3) := by decide +kernel
theorem dX10_tellCall_14 : decode cX10_tellCall 14 = .ok (.iload 4, 2) := by decide +kernel
theorem dX10_tellCall_16 : decode cX10_tellCall 16 = .ok (.ireturn, 1) := by decide +kernel
theorem dX10_tellCall_17 : decode cX10_tellCall 17 = .ok (.iconst 0, 1) := by decide +kernel
theorem dX10_tellCall_18 : decode cX10_tellCall 18 = .ok (.istore 5, 2) := by decide +kernel
theorem dX10_tellCall_20 : decode cX10_tellCall 20 = .ok (.iconst 0, 1) := by decide +kernel
theorem dX10_tellCall_21 : decode cX10_tellCall 21 = .ok (.istore 6, 2) := by decide +kernel
theorem dX10_tellCall_23 : decode cX10_tellCall 23 = .ok (.iconst 0, 1) := by decide +kernel
theorem dX10_tellCall_24 : decode cX10_tellCall 24 = .ok (.istore 7, 2) := by decide +kernel
theorem dX10_tellCall_26 : decode cX10_tellCall 26 = .ok (.iconst 0, 1) := by decide +kernel
theorem dX10_tellCall_27 : decode cX10_tellCall 27 = .ok (.istore 8, 2) := by decide +kernel
theorem dX10_tellCall_29 : decode cX10_tellCall 29 = .ok (.iload 8, 2) := by decide +kernel
theorem dX10_tellCall_31 : decode cX10_tellCall 31 = .ok (.aload_n 1, 1) := by decide +kernel
theorem dX10_tellCall_32 : decode cX10_tellCall 32 = .ok (.getfield 46, 3) := by decide +kernel
theorem dX10_tellCall_35 : decode cX10_tellCall 35 = .ok (.getfield 118, 3) := by decide +kernel
theorem dX10_tellCall_38 : decode cX10_tellCall 38 = .ok (.if_icmp .ge 79, 3) := by decide +kernel
theorem dX10_tellCall_41 : decode cX10_tellCall 41 = .ok (.aload_n 1, 1) := by decide +kernel
theorem dX10_tellCall_42 : decode cX10_tellCall 42 = .ok (.getfield 46, 3) := by decide +kernel
theorem dX10_tellCall_45 : decode cX10_tellCall 45 = .ok (.iload 8, 2) := by decide +kernel
theorem dX10_tellCall_47 : decode cX10_tellCall 47 = .ok (.iload 4, 2) := by decide +kernel
theorem dX10_tellCall_49 : decode cX10_tellCall 49 = .ok (.invokevirtual 122, 3) := by decide +kernel
theorem dX10_tellCall_52 : decode cX10_tellCall 52 = .ok (.ifCond .eq 59, 3) := by decide +kernel
theorem dX10_tellCall_55 : decode cX10_tellCall 55 = .ok (.iload 5, 2) := by decide +kernel
theorem dX10_tellCall_57 : decode cX10_tellCall 57 = .ok (.aload_n 0, 1) := by decide +kernel
theorem dX10_tellCall_58 : decode cX10_tellCall 58 = .ok (.getfield 20, 3) := by decide +kernel
theorem dX10_tellCall_61 : decode cX10_tellCall 61 = .ok (.iload 8, 2) := by decide +kernel
theorem dX10_tellCall_63 : decode cX10_tellCall 63 = .ok (.invokevirtual 99, 3) := by decide +kernel
theorem dX10_tellCall_66 : decode cX10_tellCall 66 = .ok (.invokestatic 126, 3) := by decide +kernel
theorem dX10_tellCall_69 : decode cX10_tellCall 69 = .ok (.ior, 1) := by decide +kernel
theorem dX10_tellCall_70 : decode cX10_tellCall 70 = .ok (.istore 5, 2) := by decide +kernel
theorem dX10_tellCall_72 : decode cX10_tellCall 72 = .ok (.iload 6, 2) := by decide +kernel
theorem dX10_tellCall_74 : decode cX10_tellCall 74 = .ok (.aload_n 0, 1) := by decide +kernel
theorem dX10_tellCall_75 : decode cX10_tellCall 75 = .ok (.getfield 20, 3) := by decide +kernel
theorem dX10_tellCall_78 : decode cX10_tellCall 78 = .ok (.iload 8, 2) := by decide +kernel
theorem dX10_tellCall_80 : decode cX10_tellCall 80 = .ok (.invokevirtual 102, 3) := by decide +kernel
theorem dX10_tellCall_83 : decode cX10_tellCall 83 = .ok (.invokestatic 126, 3) := by decide +kernel
theorem dX10_tellCall_86 : decode cX10_tellCall 86 = .ok (.ior, 1) := by decide +kernel
theorem dX10_tellCall_87 : decode cX10_tellCall 87 = .ok (.istore 6, 2) := by decide +kernel
theorem dX10_tellCall_89 : decode cX10_tellCall 89 = .ok (.iload 7, 2) := by decide +kernel
theorem dX10_tellCall_91 : decode cX10_tellCall 91 = .ok (.aload_n 0, 1) := by decide +kernel
theorem dX10_tellCall_92 : decode cX10_tellCall 92 = .ok (.getfield 20, 3) := by decide +kernel
theorem dX10_tellCall_95 : decode cX10_tellCall 95 = .ok (.iload 8, 2) := by decide +kernel
theorem dX10_tellCall_97 : decode cX10_tellCall 97 = .ok (.invokevirtual 105, 3) := by decide +kernel
theorem dX10_tellCall_100 : decode cX10_tellCall 100 = .ok (.ifCond .eq 7, 3) := by decide +kernel
theorem dX10_tellCall_103 : decode cX10_tellCall 103 = .ok (.iconst 1, 1) := by decide +kernel
theorem dX10_tellCall_104 : decode cX10_tellCall 104 = .ok (.goto 4, 3) := by decide +kernel
theorem dX10_tellCall_107 : decode cX10_tellCall 107 = .ok (.iconst 0, 1) := by decide +kernel
theorem dX10_tellCall_108 : decode cX10_tellCall 108 = .ok (.iadd, 1) := by decide +kernel
theorem dX10_tellCall_109 : decode cX10_tellCall 109 = .ok (.istore 7, 2) := by decide +kernel
theorem dX10_tellCall_111 : decode cX10_tellCall 111 = .ok (.iinc 8 1, 3) := by decide +kernel
theorem dX10_tellCall_114 : decode cX10_tellCall 114 = .ok (.goto (-85), 3) := by decide +kernel
theorem dX10_tellCall_117 : decode cX10_tellCall 117 = .ok (.iload_n 3, 1) := by decide +kernel
theorem dX10_tellCall_118 : decode cX10_tellCall 118 = .ok (.iconst 1, 1) := by decide +kernel
theorem dX10_tellCall_119 : decode cX10_tellCall 119 = .ok (.if_icmp .ne 6, 3) := by decide +kernel
theorem dX10_tellCall_122 : decode cX10_tellCall 122 = .ok (.iload 5, 2) := by decide +kernel
theorem dX10_tellCall_124 : decode cX10_tellCall 124 = .ok (.ireturn, 1) := by decide +kernel
theorem dX10_tellCall_125 : decode cX10_tellCall 125 = .ok (.iload_n 3, 1) := by decide +kernel
theorem dX10_tellCall_126 : decode cX10_tellCall 126 = .ok (.iconst 2, 1) := by decide +kernel
theorem dX10_tellCall_127 : decode cX10_tellCall 127 = .ok (.if_icmp .ne 8, 3) := by decide +kernel
theorem dX10_tellCall_130 : decode cX10_tellCall 130 = .ok (.iload 6, 2) := by decide +kernel
theorem dX10_tellCall_132 : decode cX10_tellCall 132 = .ok (.goto 5, 3) := by decide +kernel
theorem dX10_tellCall_135 : decode cX10_tellCall 135 = .ok (.iload 7, 2) := by decide +kernel
theorem dX10_tellCall_137 : decode cX10_tellCall 137 = .ok (.ireturn, 1) := by decide +kernel
theorem dX10_tellAnswer_0 : decode cX10_tellAnswer 0 = .ok (.aload_n 1, 1) := by decide +kernel
theorem dX10_tellAnswer_1 : decode cX10_tellAnswer 1 = .ok (.getfield 46, 3) := by decide +kernel
theorem dX10_tellAnswer_4 : decode cX10_tellAnswer 4 = .ok (.iload_n 2, 1) := by decide +kernel
theorem dX10_tellAnswer_5 : decode cX10_tellAnswer 5 = .ok (.invokevirtual 129, 3) := by decide +kernel
theorem dX10_tellAnswer_8 : decode cX10_tellAnswer 8 = .ok (.ifCond .ne 5, 3) := by decide +kernel
theorem dX10_tellAnswer_11 : decode cX10_tellAnswer 11 = .ok (.iconst 0, 1) := by decide +kernel
theorem dX10_tellAnswer_12 : decode cX10_tellAnswer 12 = .ok (.ireturn, 1) := by decide +kernel
theorem dX10_tellAnswer_13 : decode cX10_tellAnswer 13 = .ok (.aload_n 0, 1) := by decide +kernel
theorem dX10_tellAnswer_14 : decode cX10_tellAnswer 14 = .ok (.getfield 20, 3) := by decide +kernel
theorem dX10_tellAnswer_17 : decode cX10_tellAnswer 17 = .ok (.iload_n 2, 1) := by decide +kernel
theorem dX10_tellAnswer_18 : decode cX10_tellAnswer 18 = .ok (.invokevirtual 105, 3) := by decide +kernel
theorem dX10_tellAnswer_21 : decode cX10_tellAnswer 21 = .ok (.ifCond .eq 12, 3) := by decide +kernel
theorem dX10_tellAnswer_24 : decode cX10_tellAnswer 24 = .ok (.aload_n 0, 1) := by decide +kernel
theorem dX10_tellAnswer_25 : decode cX10_tellAnswer 25 = .ok (.getfield 20, 3) := by decide +kernel
theorem dX10_tellAnswer_28 : decode cX10_tellAnswer 28 = .ok (.iload_n 2, 1) := by decide +kernel
theorem dX10_tellAnswer_29 : decode cX10_tellAnswer 29 = .ok (.invokevirtual 132, 3) := by decide +kernel
theorem dX10_tellAnswer_32 : decode cX10_tellAnswer 32 = .ok (.ireturn, 1) := by decide +kernel
theorem dX10_tellAnswer_33 : decode cX10_tellAnswer 33 = .ok (.aload_n 0, 1) := by decide +kernel
theorem dX10_tellAnswer_34 : decode cX10_tellAnswer 34 = .ok (.getfield 20, 3) := by decide +kernel
theorem dX10_tellAnswer_37 : decode cX10_tellAnswer 37 = .ok (.iload_n 2, 1) := by decide +kernel
theorem dX10_tellAnswer_38 : decode cX10_tellAnswer 38 = .ok (.invokevirtual 133, 3) := by decide +kernel
theorem dX10_tellAnswer_41 : decode cX10_tellAnswer 41 = .ok (.ifCond .eq 24, 3) := by decide +kernel
theorem dX10_tellAnswer_44 : decode cX10_tellAnswer 44 = .ok (.aload_n 0, 1) := by decide +kernel
theorem dX10_tellAnswer_45 : decode cX10_tellAnswer 45 = .ok (.getfield 36, 3) := by decide +kernel
theorem dX10_tellAnswer_48 : decode cX10_tellAnswer 48 = .ok (.getfield 136, 3) := by decide +kernel
theorem dX10_tellAnswer_51 : decode cX10_tellAnswer 51 = .ok (.aload_n 0, 1) := by decide +kernel
theorem dX10_tellAnswer_52 : decode cX10_tellAnswer 52 = .ok (.getfield 20, 3) := by decide +kernel
theorem dX10_tellAnswer_55 : decode cX10_tellAnswer 55 = .ok (.iload_n 2, 1) := by decide +kernel
theorem dX10_tellAnswer_56 : decode cX10_tellAnswer 56 = .ok (.invokevirtual 102, 3) := by decide +kernel
theorem dX10_tellAnswer_59 : decode cX10_tellAnswer 59 = .ok (.invokestatic 139, 3) := by decide +kernel
theorem dX10_tellAnswer_62 : decode cX10_tellAnswer 62 = .ok (.goto 21, 3) := by decide +kernel
theorem dX10_tellAnswer_65 : decode cX10_tellAnswer 65 = .ok (.aload_n 0, 1) := by decide +kernel
theorem dX10_tellAnswer_66 : decode cX10_tellAnswer 66 = .ok (.getfield 36, 3) := by decide +kernel
theorem dX10_tellAnswer_69 : decode cX10_tellAnswer 69 = .ok (.getfield 143, 3) := by decide +kernel
theorem dX10_tellAnswer_72 : decode cX10_tellAnswer 72 = .ok (.aload_n 0, 1) := by decide +kernel
theorem dX10_tellAnswer_73 : decode cX10_tellAnswer 73 = .ok (.getfield 20, 3) := by decide +kernel
theorem dX10_tellAnswer_76 : decode cX10_tellAnswer 76 = .ok (.iload_n 2, 1) := by decide +kernel
theorem dX10_tellAnswer_77 : decode cX10_tellAnswer 77 = .ok (.invokevirtual 99, 3) := by decide +kernel
theorem dX10_tellAnswer_80 : decode cX10_tellAnswer 80 = .ok (.invokestatic 139, 3) := by decide +kernel
theorem dX10_tellAnswer_83 : decode cX10_tellAnswer 83 = .ok (.ireturn, 1) := by decide +kernel
theorem dX10_tellMany_0 : decode cX10_tellMany 0 = .ok (.iload_n 2, 1) := by decide +kernel
theorem dX10_tellMany_1 : decode cX10_tellMany 1 = .ok (.tableswitch 208 0 14 #[75, 83, 91, 99, 107, 115, 123, 131, 139, 147, 155, 164, 184, 192, 200], 75) := by decide +kernel
theorem dX10_tellMany_76 : decode cX10_tellMany 76 = .ok (.aload_n 0, 1) := by decide +kernel
theorem dX10_tellMany_77 : decode cX10_tellMany 77 = .ok (.getfield 9, 3) := by decide +kernel
theorem dX10_tellMany_80 : decode cX10_tellMany 80 = .ok (.getfield 146, 3) := by decide +kernel
theorem dX10_tellMany_83 : decode cX10_tellMany 83 = .ok (.ireturn, 1) := by decide +kernel
theorem dX10_tellMany_84 : decode cX10_tellMany 84 = .ok (.aload_n 0, 1) := by decide +kernel
theorem dX10_tellMany_85 : decode cX10_tellMany 85 = .ok (.getfield 9, 3) := by decide +kernel
theorem dX10_tellMany_88 : decode cX10_tellMany 88 = .ok (.invokevirtual 151, 3) := by decide +kernel
theorem dX10_tellMany_91 : decode cX10_tellMany 91 = .ok (.ireturn, 1) := by decide +kernel
theorem dX10_tellMany_92 : decode cX10_tellMany 92 = .ok (.aload_n 0, 1) := by decide +kernel
theorem dX10_tellMany_93 : decode cX10_tellMany 93 = .ok (.getfield 9, 3) := by decide +kernel
theorem dX10_tellMany_96 : decode cX10_tellMany 96 = .ok (.getfield 155, 3) := by decide +kernel
theorem dX10_tellMany_99 : decode cX10_tellMany 99 = .ok (.ireturn, 1) := by decide +kernel
theorem dX10_tellMany_100 : decode cX10_tellMany 100 = .ok (.aload_n 1, 1) := by decide +kernel
theorem dX10_tellMany_101 : decode cX10_tellMany 101 = .ok (.getfield 40, 3) := by decide +kernel
theorem dX10_tellMany_104 : decode cX10_tellMany 104 = .ok (.getfield 158, 3) := by decide +kernel
theorem dX10_tellMany_107 : decode cX10_tellMany 107 = .ok (.ireturn, 1) := by decide +kernel
theorem dX10_tellMany_108 : decode cX10_tellMany 108 = .ok (.aload_n 1, 1) := by decide +kernel
theorem dX10_tellMany_109 : decode cX10_tellMany 109 = .ok (.getfield 46, 3) := by decide +kernel
theorem dX10_tellMany_112 : decode cX10_tellMany 112 = .ok (.getfield 161, 3) := by decide +kernel
theorem dX10_tellMany_115 : decode cX10_tellMany 115 = .ok (.ireturn, 1) := by decide +kernel
theorem dX10_tellMany_116 : decode cX10_tellMany 116 = .ok (.aload_n 0, 1) := by decide +kernel
theorem dX10_tellMany_117 : decode cX10_tellMany 117 = .ok (.getfield 20, 3) := by decide +kernel
theorem dX10_tellMany_120 : decode cX10_tellMany 120 = .ok (.getfield 164, 3) := by decide +kernel
theorem dX10_tellMany_123 : decode cX10_tellMany 123 = .ok (.ireturn, 1) := by decide +kernel
theorem dX10_tellMany_124 : decode cX10_tellMany 124 = .ok (.aload_n 0, 1) := by decide +kernel
theorem dX10_tellMany_125 : decode cX10_tellMany 125 = .ok (.getfield 20, 3) := by decide +kernel
theorem dX10_tellMany_128 : decode cX10_tellMany 128 = .ok (.getfield 167, 3) := by decide +kernel
theorem dX10_tellMany_131 : decode cX10_tellMany 131 = .ok (.ireturn, 1) := by decide +kernel
theorem dX10_tellMany_132 : decode cX10_tellMany 132 = .ok (.aload_n 0, 1) := by decide +kernel
theorem dX10_tellMany_133 : decode cX10_tellMany 133 = .ok (.getfield 20, 3) := by decide +kernel
theorem dX10_tellMany_136 : decode cX10_tellMany 136 = .ok (.getfield 170, 3) := by decide +kernel
theorem dX10_tellMany_139 : decode cX10_tellMany 139 = .ok (.ireturn, 1) := by decide +kernel
theorem dX10_tellMany_140 : decode cX10_tellMany 140 = .ok (.aload_n 0, 1) := by decide +kernel
theorem dX10_tellMany_141 : decode cX10_tellMany 141 = .ok (.getfield 20, 3) := by decide +kernel
theorem dX10_tellMany_144 : decode cX10_tellMany 144 = .ok (.getfield 173, 3) := by decide +kernel
theorem dX10_tellMany_147 : decode cX10_tellMany 147 = .ok (.ireturn, 1) := by decide +kernel
theorem dX10_tellMany_148 : decode cX10_tellMany 148 = .ok (.aload_n 0, 1) := by decide +kernel
theorem dX10_tellMany_149 : decode cX10_tellMany 149 = .ok (.getfield 27, 3) := by decide +kernel
theorem dX10_tellMany_152 : decode cX10_tellMany 152 = .ok (.getfield 176, 3) := by decide +kernel
theorem dX10_tellMany_155 : decode cX10_tellMany 155 = .ok (.ireturn, 1) := by decide +kernel
theorem dX10_tellMany_156 : decode cX10_tellMany 156 = .ok (.aload_n 0, 1) := by decide +kernel
theorem dX10_tellMany_157 : decode cX10_tellMany 157 = .ok (.getfield 27, 3) := by decide +kernel
theorem dX10_tellMany_160 : decode cX10_tellMany 160 = .ok (.iconst 1, 1) := by decide +kernel
theorem dX10_tellMany_161 : decode cX10_tellMany 161 = .ok (.invokevirtual 179, 3) := by decide +kernel
theorem dX10_tellMany_164 : decode cX10_tellMany 164 = .ok (.ireturn, 1) := by decide +kernel
theorem dX10_tellMany_165 : decode cX10_tellMany 165 = .ok (.aload_n 0, 1) := by decide +kernel
theorem dX10_tellMany_166 : decode cX10_tellMany 166 = .ok (.getfield 27, 3) := by decide +kernel
theorem dX10_tellMany_169 : decode cX10_tellMany 169 = .ok (.bipush 7, 2) := by decide +kernel
theorem dX10_tellMany_171 : decode cX10_tellMany 171 = .ok (.invokevirtual 179, 3) := by decide +kernel
theorem dX10_tellMany_174 : decode cX10_tellMany 174 = .ok (.aload_n 0, 1) := by decide +kernel
theorem dX10_tellMany_175 : decode cX10_tellMany 175 = .ok (.getfield 27, 3) := by decide +kernel
theorem dX10_tellMany_178 : decode cX10_tellMany 178 = .ok (.bipush 8, 2) := by decide +kernel
theorem dX10_tellMany_180 : decode cX10_tellMany 180 = .ok (.invokevirtual 179, 3) := by decide +kernel
theorem dX10_tellMany_183 : decode cX10_tellMany 183 = .ok (.iadd, 1) := by decide +kernel
theorem dX10_tellMany_184 : decode cX10_tellMany 184 = .ok (.ireturn, 1) := by decide +kernel
theorem dX10_tellMany_185 : decode cX10_tellMany 185 = .ok (.aload_n 0, 1) := by decide +kernel
theorem dX10_tellMany_186 : decode cX10_tellMany 186 = .ok (.getfield 36, 3) := by decide +kernel
theorem dX10_tellMany_189 : decode cX10_tellMany 189 = .ok (.getfield 182, 3) := by decide +kernel
theorem dX10_tellMany_192 : decode cX10_tellMany 192 = .ok (.ireturn, 1) := by decide +kernel
theorem dX10_tellMany_193 : decode cX10_tellMany 193 = .ok (.aload_n 0, 1) := by decide +kernel
theorem dX10_tellMany_194 : decode cX10_tellMany 194 = .ok (.getfield 36, 3) := by decide +kernel
theorem dX10_tellMany_197 : decode cX10_tellMany 197 = .ok (.getfield 185, 3) := by decide +kernel
theorem dX10_tellMany_200 : decode cX10_tellMany 200 = .ok (.ireturn, 1) := by decide +kernel
theorem dX10_tellMany_201 : decode cX10_tellMany 201 = .ok (.aload_n 0, 1) := by decide +kernel
theorem dX10_tellMany_202 : decode cX10_tellMany 202 = .ok (.getfield 36, 3) := by decide +kernel
theorem dX10_tellMany_205 : decode cX10_tellMany 205 = .ok (.getfield 188, 3) := by decide +kernel
theorem dX10_tellMany_208 : decode cX10_tellMany 208 = .ok (.ireturn, 1) := by decide +kernel
theorem dX10_tellMany_209 : decode cX10_tellMany 209 = .ok (.aload_n 1, 1) := by decide +kernel
theorem dX10_tellMany_210 : decode cX10_tellMany 210 = .ok (.getfield 46, 3) := by decide +kernel
theorem dX10_tellMany_213 : decode cX10_tellMany 213 = .ok (.aload_n 1, 1) := by decide +kernel
theorem dX10_tellMany_214 : decode cX10_tellMany 214 = .ok (.getfield 40, 3) := by decide +kernel
theorem dX10_tellMany_217 : decode cX10_tellMany 217 = .ok (.getfield 158, 3) := by decide +kernel
theorem dX10_tellMany_220 : decode cX10_tellMany 220 = .ok (.invokevirtual 191, 3) := by decide +kernel
theorem dX10_tellMany_223 : decode cX10_tellMany 223 = .ok (.ireturn, 1) := by decide +kernel
theorem dX11_init_0 : decode cX11_init 0 = .ok (.aload_n 0, 1) := by decide +kernel
theorem dX11_init_1 : decode cX11_init 1 = .ok (.invokespecial 3, 3) := by decide +kernel
theorem dX11_init_4 : decode cX11_init 4 = .ok (.aload_n 0, 1) := by decide +kernel
theorem dX11_init_5 : decode cX11_init 5 = .ok (.new 9, 3) := by decide +kernel
theorem dX11_init_8 : decode cX11_init 8 = .ok (.dup, 1) := by decide +kernel
theorem dX11_init_9 : decode cX11_init 9 = .ok (.invokespecial 11, 3) := by decide +kernel
theorem dX11_init_12 : decode cX11_init 12 = .ok (.putfield 12, 3) := by decide +kernel
theorem dX11_init_15 : decode cX11_init 15 = .ok (.aload_n 0, 1) := by decide +kernel
theorem dX11_init_16 : decode cX11_init 16 = .ok (.new 16, 3) := by decide +kernel
theorem dX11_init_19 : decode cX11_init 19 = .ok (.dup, 1) := by decide +kernel
theorem dX11_init_20 : decode cX11_init 20 = .ok (.aload_n 0, 1) := by decide +kernel
theorem dX11_init_21 : decode cX11_init 21 = .ok (.getfield 12, 3) := by decide +kernel
theorem dX11_init_24 : decode cX11_init 24 = .ok (.invokespecial 18, 3) := by decide +kernel
theorem dX11_init_27 : decode cX11_init 27 = .ok (.putfield 21, 3) := by decide +kernel
theorem dX11_init_30 : decode cX11_init 30 = .ok (.aload_n 0, 1) := by decide +kernel
theorem dX11_init_31 : decode cX11_init 31 = .ok (.new 25, 3) := by decide +kernel
theorem dX11_init_34 : decode cX11_init 34 = .ok (.dup, 1) := by decide +kernel
theorem dX11_init_35 : decode cX11_init 35 = .ok (.invokespecial 27, 3) := by decide +kernel
theorem dX11_init_38 : decode cX11_init 38 = .ok (.putfield 28, 3) := by decide +kernel
theorem dX11_init_41 : decode cX11_init 41 = .ok (.aload_n 0, 1) := by decide +kernel
theorem dX11_init_42 : decode cX11_init 42 = .ok (.new 25, 3) := by decide +kernel
theorem dX11_init_45 : decode cX11_init 45 = .ok (.dup, 1) := by decide +kernel
theorem dX11_init_46 : decode cX11_init 46 = .ok (.invokespecial 27, 3) := by decide +kernel
theorem dX11_init_49 : decode cX11_init 49 = .ok (.putfield 32, 3) := by decide +kernel
theorem dX11_init_52 : decode cX11_init 52 = .ok (.aload_n 0, 1) := by decide +kernel
theorem dX11_init_53 : decode cX11_init 53 = .ok (.new 35, 3) := by decide +kernel
theorem dX11_init_56 : decode cX11_init 56 = .ok (.dup, 1) := by decide +kernel
theorem dX11_init_57 : decode cX11_init 57 = .ok (.aload_n 0, 1) := by decide +kernel
theorem dX11_init_58 : decode cX11_init 58 = .ok (.getfield 12, 3) := by decide +kernel
theorem dX11_init_61 : decode cX11_init 61 = .ok (.aload_n 0, 1) := by decide +kernel
theorem dX11_init_62 : decode cX11_init 62 = .ok (.getfield 28, 3) := by decide +kernel
theorem dX11_init_65 : decode cX11_init 65 = .ok (.invokespecial 37, 3) := by decide +kernel
theorem dX11_init_68 : decode cX11_init 68 = .ok (.putfield 40, 3) := by decide +kernel
theorem dX11_init_71 : decode cX11_init 71 = .ok (.aload_n 0, 1) := by decide +kernel
theorem dX11_init_72 : decode cX11_init 72 = .ok (.new 35, 3) := by decide +kernel
theorem dX11_init_75 : decode cX11_init 75 = .ok (.dup, 1) := by decide +kernel
theorem dX11_init_76 : decode cX11_init 76 = .ok (.aload_n 0, 1) := by decide +kernel
theorem dX11_init_77 : decode cX11_init 77 = .ok (.getfield 12, 3) := by decide +kernel
theorem dX11_init_80 : decode cX11_init 80 = .ok (.aload_n 0, 1) := by decide +kernel
theorem dX11_init_81 : decode cX11_init 81 = .ok (.getfield 32, 3) := by decide +kernel
theorem dX11_init_84 : decode cX11_init 84 = .ok (.invokespecial 37, 3) := by decide +kernel
theorem dX11_init_87 : decode cX11_init 87 = .ok (.putfield 44, 3) := by decide +kernel
theorem dX11_init_90 : decode cX11_init 90 = .ok (.aload_n 0, 1) := by decide +kernel
theorem dX11_init_91 : decode cX11_init 91 = .ok (.new 47, 3) := by decide +kernel
theorem dX11_init_94 : decode cX11_init 94 = .ok (.dup, 1) := by decide +kernel
theorem dX11_init_95 : decode cX11_init 95 = .ok (.aload_n 0, 1) := by decide +kernel
theorem dX11_init_96 : decode cX11_init 96 = .ok (.getfield 12, 3) := by decide +kernel
theorem dX11_init_99 : decode cX11_init 99 = .ok (.aload_n 0, 1) := by decide +kernel
theorem dX11_init_100 : decode cX11_init 100 = .ok (.getfield 28, 3) := by decide +kernel
theorem dX11_init_103 : decode cX11_init 103 = .ok (.invokespecial 49, 3) := by decide +kernel
theorem dX11_init_106 : decode cX11_init 106 = .ok (.putfield 50, 3) := by decide +kernel
theorem dX11_init_109 : decode cX11_init 109 = .ok (.aload_n 0, 1) := by decide +kernel
theorem dX11_init_110 : decode cX11_init 110 = .ok (.new 47, 3) := by decide +kernel
theorem dX11_init_113 : decode cX11_init 113 = .ok (.dup, 1) := by decide +kernel
theorem dX11_init_114 : decode cX11_init 114 = .ok (.aload_n 0, 1) := by decide +kernel
theorem dX11_init_115 : decode cX11_init 115 = .ok (.getfield 12, 3) := by decide +kernel
theorem dX11_init_118 : decode cX11_init 118 = .ok (.aload_n 0, 1) := by decide +kernel
theorem dX11_init_119 : decode cX11_init 119 = .ok (.getfield 32, 3) := by decide +kernel
theorem dX11_init_122 : decode cX11_init 122 = .ok (.invokespecial 49, 3) := by decide +kernel
theorem dX11_init_125 : decode cX11_init 125 = .ok (.putfield 54, 3) := by decide +kernel
theorem dX11_init_128 : decode cX11_init 128 = .ok (.return_, 1) := by decide +kernel
theorem dX11_machine_0 : decode cX11_machine 0 = .ok (.iload_n 1, 1) := by decide +kernel
theorem dX11_machine_1 : decode cX11_machine 1 = .ok (.iload_n 2, 1) := by decide +kernel
theorem dX11_machine_2 : decode cX11_machine 2 = .ok (.invokestatic 57, 3) := by decide +kernel
theorem dX11_machine_5 : decode cX11_machine 5 = .ok (.ifCond .eq 13, 3) := by decide +kernel
theorem dX11_machine_8 : decode cX11_machine 8 = .ok (.iload_n 3, 1) := by decide +kernel
theorem dX11_machine_9 : decode cX11_machine 9 = .ok (.ifCond .lt 9, 3) := by decide +kernel
theorem dX11_machine_12 : decode cX11_machine 12 = .ok (.iload_n 3, 1) := by decide +kernel
theorem dX11_machine_13 : decode cX11_machine 13 = .ok (.bipush 99, 2) := by decide +kernel
theorem dX11_machine_15 : decode cX11_machine 15 = .ok (.if_icmp .le 13, 3) := by decide +kernel
theorem dX11_machine_18 : decode cX11_machine 18 = .ok (.new 61, 3) := by decide +kernel
theorem dX11_machine_21 : decode cX11_machine 21 = .ok (.dup, 1) := by decide +kernel
theorem dX11_machine_22 : decode cX11_machine 22 = .ok (.ldc 63, 2) := by decide +kernel
theorem dX11_machine_24 : decode cX11_machine 24 = .ok (.invokespecial 65, 3) := by decide +kernel
theorem dX11_machine_27 : decode cX11_machine 27 = .ok (.athrow, 1) := by decide +kernel
theorem dX11_machine_28 : decode cX11_machine 28 = .ok (.aload_n 0, 1) := by decide +kernel
theorem dX11_machine_29 : decode cX11_machine 29 = .ok (.getfield 28, 3) := by decide +kernel
theorem dX11_machine_32 : decode cX11_machine 32 = .ok (.getfield 68, 3) := by decide +kernel
theorem dX11_machine_35 : decode cX11_machine 35 = .ok (.istore 6, 2) := by decide +kernel
theorem dX11_machine_37 : decode cX11_machine 37 = .ok (.aload_n 0, 1) := by decide +kernel
theorem dX11_machine_38 : decode cX11_machine 38 = .ok (.getfield 28, 3) := by decide +kernel
theorem dX11_machine_41 : decode cX11_machine 41 = .ok (.iload_n 1, 1) := by decide +kernel
theorem dX11_machine_42 : decode cX11_machine 42 = .ok (.putfield 68, 3) := by decide +kernel
theorem dX11_machine_45 : decode cX11_machine 45 = .ok (.aload_n 0, 1) := by decide +kernel
theorem dX11_machine_46 : decode cX11_machine 46 = .ok (.getfield 28, 3) := by decide +kernel
theorem dX11_machine_49 : decode cX11_machine 49 = .ok (.iload_n 2, 1) := by decide +kernel
theorem dX11_machine_50 : decode cX11_machine 50 = .ok (.putfield 72, 3) := by decide +kernel
theorem dX11_machine_53 : decode cX11_machine 53 = .ok (.aload_n 0, 1) := by decide +kernel
theorem dX11_machine_54 : decode cX11_machine 54 = .ok (.getfield 28, 3) := by decide +kernel
theorem dX11_machine_57 : decode cX11_machine 57 = .ok (.iload_n 3, 1) := by decide +kernel
theorem dX11_machine_58 : decode cX11_machine 58 = .ok (.putfield 75, 3) := by decide +kernel
theorem dX11_machine_61 : decode cX11_machine 61 = .ok (.aload_n 0, 1) := by decide +kernel
theorem dX11_machine_62 : decode cX11_machine 62 = .ok (.getfield 28, 3) := by decide +kernel
theorem dX11_machine_65 : decode cX11_machine 65 = .ok (.iload 4, 2) := by decide +kernel
theorem dX11_machine_67 : decode cX11_machine 67 = .ok (.putfield 78, 3) := by decide +kernel
theorem dX11_machine_70 : decode cX11_machine 70 = .ok (.aload_n 0, 1) := by decide +kernel
theorem dX11_machine_71 : decode cX11_machine 71 = .ok (.getfield 28, 3) := by decide +kernel
theorem dX11_machine_74 : decode cX11_machine 74 = .ok (.iload 5, 2) := by decide +kernel
theorem dX11_machine_76 : decode cX11_machine 76 = .ok (.putfield 82, 3) := by decide +kernel
theorem dX11_machine_79 : decode cX11_machine 79 = .ok (.aload_n 0, 1) := by decide +kernel
theorem dX11_machine_80 : decode cX11_machine 80 = .ok (.invokevirtual 85, 3) := by decide +kernel
theorem dX11_machine_83 : decode cX11_machine 83 = .ok (.iload 6, 2) := by decide +kernel
theorem dX11_machine_85 : decode cX11_machine 85 = .ok (.ireturn, 1) := by decide +kernel
theorem dX11_latency_0 : decode cX11_latency 0 = .ok (.iload_n 1, 1) := by decide +kernel
theorem dX11_latency_1 : decode cX11_latency 1 = .ok (.bipush 8, 2) := by decide +kernel
theorem dX11_latency_3 : decode cX11_latency 3 = .ok (.invokestatic 88, 3) := by decide +kernel
theorem dX11_latency_6 : decode cX11_latency 6 = .ok (.ifCond .ne 13, 3) := by decide +kernel
theorem dX11_latency_9 : decode cX11_latency 9 = .ok (.new 91, 3) := by decide +kernel
theorem dX11_latency_12 : decode cX11_latency 12 = .ok (.dup, 1) := by decide +kernel
theorem dX11_latency_13 : decode cX11_latency 13 = .ok (.ldc 93, 2) := by decide +kernel
theorem dX11_latency_15 : decode cX11_latency 15 = .ok (.invokespecial 95, 3) := by decide +kernel
theorem dX11_latency_18 : decode cX11_latency 18 = .ok (.athrow, 1) := by decide +kernel
theorem dX11_latency_19 : decode cX11_latency 19 = .ok (.iload_n 2, 1) := by decide +kernel
theorem dX11_latency_20 : decode cX11_latency 20 = .ok (.iconst 1, 1) := by decide +kernel
theorem dX11_latency_21 : decode cX11_latency 21 = .ok (.if_icmp .lt 9, 3) := by decide +kernel
theorem dX11_latency_24 : decode cX11_latency 24 = .ok (.iload_n 2, 1) := by decide +kernel
theorem dX11_latency_25 : decode cX11_latency 25 = .ok (.bipush 9, 2) := by decide +kernel
theorem dX11_latency_27 : decode cX11_latency 27 = .ok (.if_icmp .le 13, 3) := by decide +kernel
theorem dX11_latency_30 : decode cX11_latency 30 = .ok (.new 61, 3) := by decide +kernel
theorem dX11_latency_33 : decode cX11_latency 33 = .ok (.dup, 1) := by decide +kernel
theorem dX11_latency_34 : decode cX11_latency 34 = .ok (.ldc 96, 2) := by decide +kernel
theorem dX11_latency_36 : decode cX11_latency 36 = .ok (.invokespecial 65, 3) := by decide +kernel
theorem dX11_latency_39 : decode cX11_latency 39 = .ok (.athrow, 1) := by decide +kernel
theorem dX11_latency_40 : decode cX11_latency 40 = .ok (.aload_n 0, 1) := by decide +kernel
theorem dX11_latency_41 : decode cX11_latency 41 = .ok (.getfield 28, 3) := by decide +kernel
theorem dX11_latency_44 : decode cX11_latency 44 = .ok (.getfield 98, 3) := by decide +kernel
theorem dX11_latency_47 : decode cX11_latency 47 = .ok (.iload_n 1, 1) := by decide +kernel
theorem dX11_latency_48 : decode cX11_latency 48 = .ok (.invokestatic 102, 3) := by decide +kernel
theorem dX11_latency_51 : decode cX11_latency 51 = .ok (.istore_n 3, 1) := by decide +kernel
theorem dX11_latency_52 : decode cX11_latency 52 = .ok (.aload_n 0, 1) := by decide +kernel
theorem dX11_latency_53 : decode cX11_latency 53 = .ok (.getfield 28, 3) := by decide +kernel
theorem dX11_latency_56 : decode cX11_latency 56 = .ok (.getfield 98, 3) := by decide +kernel
theorem dX11_latency_59 : decode cX11_latency 59 = .ok (.iload_n 1, 1) := by decide +kernel
theorem dX11_latency_60 : decode cX11_latency 60 = .ok (.iload_n 2, 1) := by decide +kernel
theorem dX11_latency_61 : decode cX11_latency 61 = .ok (.invokestatic 106, 3) := by decide +kernel
theorem dX11_latency_64 : decode cX11_latency 64 = .ok (.aload_n 0, 1) := by decide +kernel
theorem dX11_latency_65 : decode cX11_latency 65 = .ok (.invokevirtual 85, 3) := by decide +kernel
theorem dX11_latency_68 : decode cX11_latency 68 = .ok (.iload_n 3, 1) := by decide +kernel
theorem dX11_latency_69 : decode cX11_latency 69 = .ok (.ireturn, 1) := by decide +kernel
theorem dX11_node_0 : decode cX11_node 0 = .ok (.aload_n 0, 1) := by decide +kernel
theorem dX11_node_1 : decode cX11_node 1 = .ok (.getfield 12, 3) := by decide +kernel
theorem dX11_node_4 : decode cX11_node 4 = .ok (.iload_n 1, 1) := by decide +kernel
theorem dX11_node_5 : decode cX11_node 5 = .ok (.iload_n 2, 1) := by decide +kernel
theorem dX11_node_6 : decode cX11_node 6 = .ok (.iload_n 3, 1) := by decide +kernel
theorem dX11_node_7 : decode cX11_node 7 = .ok (.invokevirtual 110, 3) := by decide +kernel
theorem dX11_node_10 : decode cX11_node 10 = .ok (.ifCond .ne 13, 3) := by decide +kernel
theorem dX11_node_13 : decode cX11_node 13 = .ok (.new 61, 3) := by decide +kernel
theorem dX11_node_16 : decode cX11_node 16 = .ok (.dup, 1) := by decide +kernel
theorem dX11_node_17 : decode cX11_node 17 = .ok (.ldc 114, 2) := by decide +kernel
theorem dX11_node_19 : decode cX11_node 19 = .ok (.invokespecial 65, 3) := by decide +kernel
theorem dX11_node_22 : decode cX11_node 22 = .ok (.athrow, 1) := by decide +kernel
theorem dX11_node_23 : decode cX11_node 23 = .ok (.aload_n 0, 1) := by decide +kernel
theorem dX11_node_24 : decode cX11_node 24 = .ok (.getfield 12, 3) := by decide +kernel
theorem dX11_node_27 : decode cX11_node 27 = .ok (.getfield 116, 3) := by decide +kernel
theorem dX11_node_30 : decode cX11_node 30 = .ok (.bipush 80, 2) := by decide +kernel
theorem dX11_node_32 : decode cX11_node 32 = .ok (.if_icmp .lt 13, 3) := by decide +kernel
theorem dX11_node_35 : decode cX11_node 35 = .ok (.new 119, 3) := by decide +kernel
theorem dX11_node_38 : decode cX11_node 38 = .ok (.dup, 1) := by decide +kernel
theorem dX11_node_39 : decode cX11_node 39 = .ok (.ldc 121, 2) := by decide +kernel
theorem dX11_node_41 : decode cX11_node 41 = .ok (.invokespecial 123, 3) := by decide +kernel
theorem dX11_node_44 : decode cX11_node 44 = .ok (.athrow, 1) := by decide +kernel
theorem dX11_node_45 : decode cX11_node 45 = .ok (.aload_n 0, 1) := by decide +kernel
theorem dX11_node_46 : decode cX11_node 46 = .ok (.invokevirtual 85, 3) := by decide +kernel
theorem dX11_node_49 : decode cX11_node 49 = .ok (.aload_n 0, 1) := by decide +kernel
theorem dX11_node_50 : decode cX11_node 50 = .ok (.getfield 12, 3) := by decide +kernel
theorem dX11_node_53 : decode cX11_node 53 = .ok (.iload_n 1, 1) := by decide +kernel
theorem dX11_node_54 : decode cX11_node 54 = .ok (.iload_n 2, 1) := by decide +kernel
theorem dX11_node_55 : decode cX11_node 55 = .ok (.iload_n 3, 1) := by decide +kernel
theorem dX11_node_56 : decode cX11_node 56 = .ok (.invokevirtual 124, 3) := by decide +kernel
theorem dX11_node_59 : decode cX11_node 59 = .ok (.ireturn, 1) := by decide +kernel
theorem dX11_statement_0 : decode cX11_statement 0 = .ok (.iload_n 1, 1) := by decide +kernel
theorem dX11_statement_1 : decode cX11_statement 1 = .ok (.iconst 4, 1) := by decide +kernel
theorem dX11_statement_2 : decode cX11_statement 2 = .ok (.invokestatic 88, 3) := by decide +kernel
theorem dX11_statement_5 : decode cX11_statement 5 = .ok (.ifCond .eq 26, 3) := by decide +kernel
theorem dX11_statement_8 : decode cX11_statement 8 = .ok (.iload_n 2, 1) := by decide +kernel
theorem dX11_statement_9 : decode cX11_statement 9 = .ok (.bipush 8, 2) := by decide +kernel
theorem dX11_statement_11 : decode cX11_statement 11 = .ok (.invokestatic 88, 3) := by decide +kernel
theorem dX11_statement_14 : decode cX11_statement 14 = .ok (.ifCond .eq 17, 3) := by decide +kernel
theorem dX11_statement_17 : decode cX11_statement 17 = .ok (.iload_n 3, 1) := by decide +kernel
theorem dX11_statement_18 : decode cX11_statement 18 = .ok (.aload_n 0, 1) := by decide +kernel
theorem dX11_statement_19 : decode cX11_statement 19 = .ok (.getfield 12, 3) := by decide +kernel
theorem dX11_statement_22 : decode cX11_statement 22 = .ok (.getfield 116, 3) := by decide +kernel
theorem dX11_statement_25 : decode cX11_statement 25 = .ok (.invokestatic 88, 3) := by decide +kernel
theorem dX11_statement_28 : decode cX11_statement 28 = .ok (.ifCond .ne 13, 3) := by decide +kernel
theorem dX11_statement_31 : decode cX11_statement 31 = .ok (.new 91, 3) := by decide +kernel
theorem dX11_statement_34 : decode cX11_statement 34 = .ok (.dup, 1) := by decide +kernel
theorem dX11_statement_35 : decode cX11_statement 35 = .ok (.ldc 128, 2) := by decide +kernel
theorem dX11_statement_37 : decode cX11_statement 37 = .ok (.invokespecial 95, 3) := by decide +kernel
theorem dX11_statement_40 : decode cX11_statement 40 = .ok (.athrow, 1) := by decide +kernel
theorem dX11_statement_41 : decode cX11_statement 41 = .ok (.aload_n 0, 1) := by decide +kernel
theorem dX11_statement_42 : decode cX11_statement 42 = .ok (.getfield 12, 3) := by decide +kernel
theorem dX11_statement_45 : decode cX11_statement 45 = .ok (.iload_n 3, 1) := by decide +kernel
theorem dX11_statement_46 : decode cX11_statement 46 = .ok (.invokevirtual 130, 3) := by decide +kernel
theorem dX11_statement_49 : decode cX11_statement 49 = .ok (.ifCond .ne 13, 3) := by decide +kernel
theorem dX11_statement_52 : decode cX11_statement 52 = .ok (.new 61, 3) := by decide +kernel
theorem dX11_statement_55 : decode cX11_statement 55 = .ok (.dup, 1) := by decide +kernel
theorem dX11_statement_56 : decode cX11_statement 56 = .ok (.ldc 134, 2) := by decide +kernel
theorem dX11_statement_58 : decode cX11_statement 58 = .ok (.invokespecial 65, 3) := by decide +kernel
theorem dX11_statement_61 : decode cX11_statement 61 = .ok (.athrow, 1) := by decide +kernel
theorem dX11_statement_62 : decode cX11_statement 62 = .ok (.aload_n 0, 1) := by decide +kernel
theorem dX11_statement_63 : decode cX11_statement 63 = .ok (.getfield 12, 3) := by decide +kernel
theorem dX11_statement_66 : decode cX11_statement 66 = .ok (.getfield 136, 3) := by decide +kernel
theorem dX11_statement_69 : decode cX11_statement 69 = .ok (.bipush 24, 2) := by decide +kernel
theorem dX11_statement_71 : decode cX11_statement 71 = .ok (.if_icmp .lt 13, 3) := by decide +kernel
theorem dX11_statement_74 : decode cX11_statement 74 = .ok (.new 119, 3) := by decide +kernel
theorem dX11_statement_77 : decode cX11_statement 77 = .ok (.dup, 1) := by decide +kernel
theorem dX11_statement_78 : decode cX11_statement 78 = .ok (.ldc 139, 2) := by decide +kernel
theorem dX11_statement_80 : decode cX11_statement 80 = .ok (.invokespecial 123, 3) := by decide +kernel
theorem dX11_statement_83 : decode cX11_statement 83 = .ok (.athrow, 1) := by decide +kernel
theorem dX11_statement_84 : decode cX11_statement 84 = .ok (.aload_n 0, 1) := by decide +kernel
theorem dX11_statement_85 : decode cX11_statement 85 = .ok (.invokevirtual 85, 3) := by decide +kernel
theorem dX11_statement_88 : decode cX11_statement 88 = .ok (.aload_n 0, 1) := by decide +kernel
theorem dX11_statement_89 : decode cX11_statement 89 = .ok (.getfield 12, 3) := by decide +kernel
theorem dX11_statement_92 : decode cX11_statement 92 = .ok (.iload_n 1, 1) := by decide +kernel
theorem dX11_statement_93 : decode cX11_statement 93 = .ok (.iload_n 2, 1) := by decide +kernel
theorem dX11_statement_94 : decode cX11_statement 94 = .ok (.iload_n 3, 1) := by decide +kernel
theorem dX11_statement_95 : decode cX11_statement 95 = .ok (.invokevirtual 141, 3) := by decide +kernel
theorem dX11_statement_98 : decode cX11_statement 98 = .ok (.ireturn, 1) := by decide +kernel
theorem dX11_times_0 : decode cX11_times 0 = .ok (.iload_n 1, 1) := by decide +kernel
theorem dX11_times_1 : decode cX11_times 1 = .ok (.iconst 4, 1) := by decide +kernel
theorem dX11_times_2 : decode cX11_times 2 = .ok (.invokestatic 88, 3) := by decide +kernel
theorem dX11_times_5 : decode cX11_times 5 = .ok (.ifCond .ne 13, 3) := by decide +kernel
theorem dX11_times_8 : decode cX11_times 8 = .ok (.new 91, 3) := by decide +kernel
theorem dX11_times_11 : decode cX11_times 11 = .ok (.dup, 1) := by decide +kernel
theorem dX11_times_12 : decode cX11_times 12 = .ok (.ldc 144, 2) := by decide +kernel
theorem dX11_times_14 : decode cX11_times 14 = .ok (.invokespecial 95, 3) := by decide +kernel
theorem dX11_times_17 : decode cX11_times 17 = .ok (.athrow, 1) := by decide +kernel
theorem dX11_times_18 : decode cX11_times 18 = .ok (.iload_n 2, 1) := by decide +kernel
theorem dX11_times_19 : decode cX11_times 19 = .ok (.iconst 1, 1) := by decide +kernel
theorem dX11_times_20 : decode cX11_times 20 = .ok (.if_icmp .lt 9, 3) := by decide +kernel
theorem dX11_times_23 : decode cX11_times 23 = .ok (.iload_n 2, 1) := by decide +kernel
theorem dX11_times_24 : decode cX11_times 24 = .ok (.bipush 9, 2) := by decide +kernel
theorem dX11_times_26 : decode cX11_times 26 = .ok (.if_icmp .le 13, 3) := by decide +kernel
theorem dX11_times_29 : decode cX11_times 29 = .ok (.new 61, 3) := by decide +kernel
theorem dX11_times_32 : decode cX11_times 32 = .ok (.dup, 1) := by decide +kernel
theorem dX11_times_33 : decode cX11_times 33 = .ok (.ldc 155, 2) := by decide +kernel
theorem dX11_times_35 : decode cX11_times 35 = .ok (.invokespecial 65, 3) := by decide +kernel
theorem dX11_times_38 : decode cX11_times 38 = .ok (.athrow, 1) := by decide +kernel
theorem dX11_times_39 : decode cX11_times 39 = .ok (.aload_n 0, 1) := by decide +kernel
theorem dX11_times_40 : decode cX11_times 40 = .ok (.getfield 12, 3) := by decide +kernel
theorem dX11_times_43 : decode cX11_times 43 = .ok (.iload_n 1, 1) := by decide +kernel
theorem dX11_times_44 : decode cX11_times 44 = .ok (.invokevirtual 157, 3) := by decide +kernel
theorem dX11_times_47 : decode cX11_times 47 = .ok (.istore_n 3, 1) := by decide +kernel
theorem dX11_times_48 : decode cX11_times 48 = .ok (.aload_n 0, 1) := by decide +kernel
theorem dX11_times_49 : decode cX11_times 49 = .ok (.getfield 12, 3) := by decide +kernel
theorem dX11_times_52 : decode cX11_times 52 = .ok (.getfield 160, 3) := by decide +kernel
theorem dX11_times_55 : decode cX11_times 55 = .ok (.iload_n 1, 1) := by decide +kernel
theorem dX11_times_56 : decode cX11_times 56 = .ok (.iload_n 2, 1) := by decide +kernel
theorem dX11_times_57 : decode cX11_times 57 = .ok (.invokestatic 106, 3) := by decide +kernel
theorem dX11_times_60 : decode cX11_times 60 = .ok (.aload_n 0, 1) := by decide +kernel
theorem dX11_times_61 : decode cX11_times 61 = .ok (.invokevirtual 85, 3) := by decide +kernel
theorem dX11_times_64 : decode cX11_times 64 = .ok (.iload_n 3, 1) := by decide +kernel
theorem dX11_times_65 : decode cX11_times 65 = .ok (.ireturn, 1) := by decide +kernel
theorem dX11_out_0 : decode cX11_out 0 = .ok (.iload_n 1, 1) := by decide +kernel
theorem dX11_out_1 : decode cX11_out 1 = .ok (.ifCond .lt 10, 3) := by decide +kernel
theorem dX11_out_4 : decode cX11_out 4 = .ok (.iload_n 1, 1) := by decide +kernel
theorem dX11_out_5 : decode cX11_out 5 = .ok (.sipush 255, 3) := by decide +kernel
theorem dX11_out_8 : decode cX11_out 8 = .ok (.if_icmp .le 13, 3) := by decide +kernel
theorem dX11_out_11 : decode cX11_out 11 = .ok (.new 61, 3) := by decide +kernel
theorem dX11_out_14 : decode cX11_out 14 = .ok (.dup, 1) := by decide +kernel
theorem dX11_out_15 : decode cX11_out 15 = .ok (.ldc 163, 2) := by decide +kernel
theorem dX11_out_17 : decode cX11_out 17 = .ok (.invokespecial 65, 3) := by decide +kernel
theorem dX11_out_20 : decode cX11_out 20 = .ok (.athrow, 1) := by decide +kernel
theorem dX11_out_21 : decode cX11_out 21 = .ok (.aload_n 0, 1) := by decide +kernel
theorem dX11_out_22 : decode cX11_out 22 = .ok (.getfield 12, 3) := by decide +kernel
theorem dX11_out_25 : decode cX11_out 25 = .ok (.getfield 165, 3) := by decide +kernel
theorem dX11_out_28 : decode cX11_out 28 = .ok (.istore_n 2, 1) := by decide +kernel
theorem dX11_out_29 : decode cX11_out 29 = .ok (.aload_n 0, 1) := by decide +kernel
theorem dX11_out_30 : decode cX11_out 30 = .ok (.getfield 12, 3) := by decide +kernel
theorem dX11_out_33 : decode cX11_out 33 = .ok (.iload_n 1, 1) := by decide +kernel
theorem dX11_out_34 : decode cX11_out 34 = .ok (.putfield 165, 3) := by decide +kernel
theorem dX11_out_37 : decode cX11_out 37 = .ok (.aload_n 0, 1) := by decide +kernel
theorem dX11_out_38 : decode cX11_out 38 = .ok (.invokevirtual 85, 3) := by decide +kernel
theorem dX11_out_41 : decode cX11_out 41 = .ok (.iload_n 2, 1) := by decide +kernel
theorem dX11_out_42 : decode cX11_out 42 = .ok (.ireturn, 1) := by decide +kernel
theorem dX11_meant_0 : decode cX11_meant 0 = .ok (.iload_n 1, 1) := by decide +kernel
theorem dX11_meant_1 : decode cX11_meant 1 = .ok (.bipush 8, 2) := by decide +kernel
theorem dX11_meant_3 : decode cX11_meant 3 = .ok (.invokestatic 88, 3) := by decide +kernel
theorem dX11_meant_6 : decode cX11_meant 6 = .ok (.ifCond .ne 13, 3) := by decide +kernel
theorem dX11_meant_9 : decode cX11_meant 9 = .ok (.new 91, 3) := by decide +kernel
theorem dX11_meant_12 : decode cX11_meant 12 = .ok (.dup, 1) := by decide +kernel
theorem dX11_meant_13 : decode cX11_meant 13 = .ok (.ldc 168, 2) := by decide +kernel
theorem dX11_meant_15 : decode cX11_meant 15 = .ok (.invokespecial 95, 3) := by decide +kernel
theorem dX11_meant_18 : decode cX11_meant 18 = .ok (.athrow, 1) := by decide +kernel
theorem dX11_meant_19 : decode cX11_meant 19 = .ok (.aload_n 0, 1) := by decide +kernel
theorem dX11_meant_20 : decode cX11_meant 20 = .ok (.invokevirtual 170, 3) := by decide +kernel
theorem dX11_meant_23 : decode cX11_meant 23 = .ok (.getfield 174, 3) := by decide +kernel
theorem dX11_meant_26 : decode cX11_meant 26 = .ok (.iload_n 1, 1) := by decide +kernel
theorem dX11_meant_27 : decode cX11_meant 27 = .ok (.invokestatic 102, 3) := by decide +kernel
theorem dX11_meant_30 : decode cX11_meant 30 = .ok (.ireturn, 1) := by decide +kernel
theorem dX11_chosen_0 : decode cX11_chosen 0 = .ok (.aload_n 0, 1) := by decide +kernel
theorem dX11_chosen_1 : decode cX11_chosen 1 = .ok (.invokevirtual 177, 3) := by decide +kernel
theorem dX11_chosen_4 : decode cX11_chosen 4 = .ok (.astore_n 3, 1) := by decide +kernel
theorem dX11_chosen_5 : decode cX11_chosen 5 = .ok (.iload_n 1, 1) := by decide +kernel
theorem dX11_chosen_6 : decode cX11_chosen 6 = .ok (.aload_n 0, 1) := by decide +kernel
theorem dX11_chosen_7 : decode cX11_chosen 7 = .ok (.getfield 40, 3) := by decide +kernel
theorem dX11_chosen_10 : decode cX11_chosen 10 = .ok (.getfield 181, 3) := by decide +kernel
theorem dX11_chosen_13 : decode cX11_chosen 13 = .ok (.getfield 185, 3) := by decide +kernel
theorem dX11_chosen_16 : decode cX11_chosen 16 = .ok (.invokestatic 88, 3) := by decide +kernel
theorem dX11_chosen_19 : decode cX11_chosen 19 = .ok (.ifCond .ne 13, 3) := by decide +kernel
theorem dX11_chosen_22 : decode cX11_chosen 22 = .ok (.new 91, 3) := by decide +kernel
theorem dX11_chosen_25 : decode cX11_chosen 25 = .ok (.dup, 1) := by decide +kernel
theorem dX11_chosen_26 : decode cX11_chosen 26 = .ok (.ldc 190, 2) := by decide +kernel
theorem dX11_chosen_28 : decode cX11_chosen 28 = .ok (.invokespecial 95, 3) := by decide +kernel
theorem dX11_chosen_31 : decode cX11_chosen 31 = .ok (.athrow, 1) := by decide +kernel
theorem dX11_chosen_32 : decode cX11_chosen 32 = .ok (.iload_n 2, 1) := by decide +kernel
theorem dX11_chosen_33 : decode cX11_chosen 33 = .ok (.bipush 8, 2) := by decide +kernel
theorem dX11_chosen_35 : decode cX11_chosen 35 = .ok (.invokestatic 88, 3) := by decide +kernel
theorem dX11_chosen_38 : decode cX11_chosen 38 = .ok (.ifCond .ne 13, 3) := by decide +kernel
theorem dX11_chosen_41 : decode cX11_chosen 41 = .ok (.new 61, 3) := by decide +kernel
theorem dX11_chosen_44 : decode cX11_chosen 44 = .ok (.dup, 1) := by decide +kernel
theorem dX11_chosen_45 : decode cX11_chosen 45 = .ok (.ldc 192, 2) := by decide +kernel
theorem dX11_chosen_47 : decode cX11_chosen 47 = .ok (.invokespecial 65, 3) := by decide +kernel
theorem dX11_chosen_50 : decode cX11_chosen 50 = .ok (.athrow, 1) := by decide +kernel
theorem dX11_chosen_51 : decode cX11_chosen 51 = .ok (.aload_n 3, 1) := by decide +kernel
theorem dX11_chosen_52 : decode cX11_chosen 52 = .ok (.aload_n 0, 1) := by decide +kernel
theorem dX11_chosen_53 : decode cX11_chosen 53 = .ok (.getfield 40, 3) := by decide +kernel
theorem dX11_chosen_56 : decode cX11_chosen 56 = .ok (.iload_n 1, 1) := by decide +kernel
theorem dX11_chosen_57 : decode cX11_chosen 57 = .ok (.iload_n 2, 1) := by decide +kernel
theorem dX11_chosen_58 : decode cX11_chosen 58 = .ok (.invokevirtual 194, 3) := by decide +kernel
theorem dX11_chosen_61 : decode cX11_chosen 61 = .ok (.ireturn, 1) := by decide +kernel
theorem dX11_ofValue_0 : decode cX11_ofValue 0 = .ok (.aload_n 0, 1) := by decide +kernel
theorem dX11_ofValue_1 : decode cX11_ofValue 1 = .ok (.invokevirtual 177, 3) := by decide +kernel
theorem dX11_ofValue_4 : decode cX11_ofValue 4 = .ok (.astore_n 3, 1) := by decide +kernel
theorem dX11_ofValue_5 : decode cX11_ofValue 5 = .ok (.aload_n 0, 1) := by decide +kernel
theorem dX11_ofValue_6 : decode cX11_ofValue 6 = .ok (.getfield 40, 3) := by decide +kernel
theorem dX11_ofValue_9 : decode cX11_ofValue 9 = .ok (.getfield 198, 3) := by decide +kernel
theorem dX11_ofValue_12 : decode cX11_ofValue 12 = .ok (.iload_n 1, 1) := by decide +kernel
theorem dX11_ofValue_13 : decode cX11_ofValue 13 = .ok (.invokevirtual 202, 3) := by decide +kernel
theorem dX11_ofValue_16 : decode cX11_ofValue 16 = .ok (.ifCond .ne 13, 3) := by decide +kernel
theorem dX11_ofValue_19 : decode cX11_ofValue 19 = .ok (.new 91, 3) := by decide +kernel
theorem dX11_ofValue_22 : decode cX11_ofValue 22 = .ok (.dup, 1) := by decide +kernel
theorem dX11_ofValue_23 : decode cX11_ofValue 23 = .ok (.ldc 207, 2) := by decide +kernel
theorem dX11_ofValue_25 : decode cX11_ofValue 25 = .ok (.invokespecial 95, 3) := by decide +kernel
theorem dX11_ofValue_28 : decode cX11_ofValue 28 = .ok (.athrow, 1) := by decide +kernel
theorem dX11_ofValue_29 : decode cX11_ofValue 29 = .ok (.iload_n 2, 1) := by decide +kernel
theorem dX11_ofValue_30 : decode cX11_ofValue 30 = .ok (.bipush 8, 2) := by decide +kernel
theorem dX11_ofValue_32 : decode cX11_ofValue 32 = .ok (.invokestatic 88, 3) := by decide +kernel
theorem dX11_ofValue_35 : decode cX11_ofValue 35 = .ok (.ifCond .ne 13, 3) := by decide +kernel
theorem dX11_ofValue_38 : decode cX11_ofValue 38 = .ok (.new 61, 3) := by decide +kernel
theorem dX11_ofValue_41 : decode cX11_ofValue 41 = .ok (.dup, 1) := by decide +kernel
theorem dX11_ofValue_42 : decode cX11_ofValue 42 = .ok (.ldc 192, 2) := by decide +kernel
theorem dX11_ofValue_44 : decode cX11_ofValue 44 = .ok (.invokespecial 65, 3) := by decide +kernel
theorem dX11_ofValue_47 : decode cX11_ofValue 47 = .ok (.athrow, 1) := by decide +kernel
theorem dX11_ofValue_48 : decode cX11_ofValue 48 = .ok (.aload_n 3, 1) := by decide +kernel
theorem dX11_ofValue_49 : decode cX11_ofValue 49 = .ok (.aload_n 0, 1) := by decide +kernel
theorem dX11_ofValue_50 : decode cX11_ofValue 50 = .ok (.getfield 40, 3) := by decide +kernel
theorem dX11_ofValue_53 : decode cX11_ofValue 53 = .ok (.iload_n 1, 1) := by decide +kernel
theorem dX11_ofValue_54 : decode cX11_ofValue 54 = .ok (.iload_n 2, 1) := by decide +kernel
theorem dX11_ofValue_55 : decode cX11_ofValue 55 = .ok (.invokevirtual 209, 3) := by decide +kernel
theorem dX11_ofValue_58 : decode cX11_ofValue 58 = .ok (.ireturn, 1) := by decide +kernel
theorem dX11_answer_0 : decode cX11_answer 0 = .ok (.iload_n 1, 1) := by decide +kernel
theorem dX11_answer_1 : decode cX11_answer 1 = .ok (.bipush 8, 2) := by decide +kernel
theorem dX11_answer_3 : decode cX11_answer 3 = .ok (.invokestatic 88, 3) := by decide +kernel
theorem dX11_answer_6 : decode cX11_answer 6 = .ok (.ifCond .eq 17, 3) := by decide +kernel
theorem dX11_answer_9 : decode cX11_answer 9 = .ok (.aload_n 0, 1) := by decide +kernel
theorem dX11_answer_10 : decode cX11_answer 10 = .ok (.getfield 12, 3) := by decide +kernel
theorem dX11_answer_13 : decode cX11_answer 13 = .ok (.getfield 165, 3) := by decide +kernel
theorem dX11_answer_16 : decode cX11_answer 16 = .ok (.iload_n 1, 1) := by decide +kernel
theorem dX11_answer_17 : decode cX11_answer 17 = .ok (.invokestatic 253, 3) := by decide +kernel
theorem dX11_answer_20 : decode cX11_answer 20 = .ok (.ifCond .ne 14, 3) := by decide +kernel
theorem dX11_answer_23 : decode cX11_answer 23 = .ok (.new 91, 3) := by decide +kernel
theorem dX11_answer_26 : decode cX11_answer 26 = .ok (.dup, 1) := by decide +kernel
theorem dX11_answer_27 : decode cX11_answer 27 = .ok (.ldc_w 256, 3) := by decide +kernel
theorem dX11_answer_30 : decode cX11_answer 30 = .ok (.invokespecial 95, 3) := by decide +kernel
theorem dX11_answer_33 : decode cX11_answer 33 = .ok (.athrow, 1) := by decide +kernel
theorem dX11_answer_34 : decode cX11_answer 34 = .ok (.aload_n 0, 1) := by decide +kernel
theorem dX11_answer_35 : decode cX11_answer 35 = .ok (.invokevirtual 177, 3) := by decide +kernel
theorem dX11_answer_38 : decode cX11_answer 38 = .ok (.aload_n 0, 1) := by decide +kernel
theorem dX11_answer_39 : decode cX11_answer 39 = .ok (.getfield 40, 3) := by decide +kernel
theorem dX11_answer_42 : decode cX11_answer 42 = .ok (.iload_n 1, 1) := by decide +kernel
theorem dX11_answer_43 : decode cX11_answer 43 = .ok (.invokevirtual 258, 3) := by decide +kernel
theorem dX11_answer_46 : decode cX11_answer 46 = .ok (.ireturn, 1) := by decide +kernel
theorem dX11_many_0 : decode cX11_many 0 = .ok (.iload_n 1, 1) := by decide +kernel
theorem dX11_many_1 : decode cX11_many 1 = .ok (.bipush 16, 2) := by decide +kernel
theorem dX11_many_3 : decode cX11_many 3 = .ok (.invokestatic 88, 3) := by decide +kernel
theorem dX11_many_6 : decode cX11_many 6 = .ok (.ifCond .ne 13, 3) := by decide +kernel
theorem dX11_many_9 : decode cX11_many 9 = .ok (.new 61, 3) := by decide +kernel
theorem dX11_many_12 : decode cX11_many 12 = .ok (.dup, 1) := by decide +kernel
theorem dX11_many_13 : decode cX11_many 13 = .ok (.ldc 192, 2) := by decide +kernel
theorem dX11_many_15 : decode cX11_many 15 = .ok (.invokespecial 65, 3) := by decide +kernel
theorem dX11_many_18 : decode cX11_many 18 = .ok (.athrow, 1) := by decide +kernel
theorem dX11_many_19 : decode cX11_many 19 = .ok (.aload_n 0, 1) := by decide +kernel
theorem dX11_many_20 : decode cX11_many 20 = .ok (.invokevirtual 177, 3) := by decide +kernel
theorem dX11_many_23 : decode cX11_many 23 = .ok (.aload_n 0, 1) := by decide +kernel
theorem dX11_many_24 : decode cX11_many 24 = .ok (.getfield 40, 3) := by decide +kernel
theorem dX11_many_27 : decode cX11_many 27 = .ok (.iload_n 1, 1) := by decide +kernel
theorem dX11_many_28 : decode cX11_many 28 = .ok (.invokevirtual 262, 3) := by decide +kernel
theorem dX11_many_31 : decode cX11_many 31 = .ok (.ireturn, 1) := by decide +kernel
theorem dX11_with_0 : decode cX11_with 0 = .ok (.iload_n 1, 1) := by decide +kernel
theorem dX11_with_1 : decode cX11_with 1 = .ok (.iload_n 2, 1) := by decide +kernel
theorem dX11_with_2 : decode cX11_with 2 = .ok (.invokestatic 57, 3) := by decide +kernel
theorem dX11_with_5 : decode cX11_with 5 = .ok (.ifCond .eq 16, 3) := by decide +kernel
theorem dX11_with_8 : decode cX11_with 8 = .ok (.iload 4, 2) := by decide +kernel
theorem dX11_with_10 : decode cX11_with 10 = .ok (.iconst 3, 1) := by decide +kernel
theorem dX11_with_11 : decode cX11_with 11 = .ok (.if_icmp .lt 10, 3) := by decide +kernel
theorem dX11_with_14 : decode cX11_with 14 = .ok (.iload 4, 2) := by decide +kernel
theorem dX11_with_16 : decode cX11_with 16 = .ok (.bipush 15, 2) := by decide +kernel
theorem dX11_with_18 : decode cX11_with 18 = .ok (.if_icmp .le 14, 3) := by decide +kernel
theorem dX11_with_21 : decode cX11_with 21 = .ok (.new 61, 3) := by decide +kernel
theorem dX11_with_24 : decode cX11_with 24 = .ok (.dup, 1) := by decide +kernel
theorem dX11_with_25 : decode cX11_with 25 = .ok (.ldc_w 271, 3) := by decide +kernel
theorem dX11_with_28 : decode cX11_with 28 = .ok (.invokespecial 65, 3) := by decide +kernel
theorem dX11_with_31 : decode cX11_with 31 = .ok (.athrow, 1) := by decide +kernel
theorem dX11_with_32 : decode cX11_with 32 = .ok (.aload_n 0, 1) := by decide +kernel
theorem dX11_with_33 : decode cX11_with 33 = .ok (.invokevirtual 177, 3) := by decide +kernel
theorem dX11_with_36 : decode cX11_with 36 = .ok (.pop, 1) := by decide +kernel
theorem dX11_with_37 : decode cX11_with 37 = .ok (.aload_n 0, 1) := by decide +kernel
theorem dX11_with_38 : decode cX11_with 38 = .ok (.iload_n 1, 1) := by decide +kernel
theorem dX11_with_39 : decode cX11_with 39 = .ok (.iload_n 2, 1) := by decide +kernel
theorem dX11_with_40 : decode cX11_with 40 = .ok (.iload_n 3, 1) := by decide +kernel
theorem dX11_with_41 : decode cX11_with 41 = .ok (.invokevirtual 273, 3) := by decide +kernel
theorem dX11_with_44 : decode cX11_with 44 = .ok (.aload_n 0, 1) := by decide +kernel
theorem dX11_with_45 : decode cX11_with 45 = .ok (.getfield 40, 3) := by decide +kernel
theorem dX11_with_48 : decode cX11_with 48 = .ok (.iload 4, 2) := by decide +kernel
theorem dX11_with_50 : decode cX11_with 50 = .ok (.invokevirtual 262, 3) := by decide +kernel
theorem dX11_with_53 : decode cX11_with 53 = .ok (.ireturn, 1) := by decide +kernel
theorem dX11_cyclesWith_0 : decode cX11_cyclesWith 0 = .ok (.iload_n 1, 1) := by decide +kernel
theorem dX11_cyclesWith_1 : decode cX11_cyclesWith 1 = .ok (.bipush 8, 2) := by decide +kernel
theorem dX11_cyclesWith_3 : decode cX11_cyclesWith 3 = .ok (.invokestatic 88, 3) := by decide +kernel
theorem dX11_cyclesWith_6 : decode cX11_cyclesWith 6 = .ok (.ifCond .ne 13, 3) := by decide +kernel
theorem dX11_cyclesWith_9 : decode cX11_cyclesWith 9 = .ok (.new 91, 3) := by decide +kernel
theorem dX11_cyclesWith_12 : decode cX11_cyclesWith 12 = .ok (.dup, 1) := by decide +kernel
theorem dX11_cyclesWith_13 : decode cX11_cyclesWith 13 = .ok (.ldc 93, 2) := by decide +kernel
theorem dX11_cyclesWith_15 : decode cX11_cyclesWith 15 = .ok (.invokespecial 95, 3) := by decide +kernel
theorem dX11_cyclesWith_18 : decode cX11_cyclesWith 18 = .ok (.athrow, 1) := by decide +kernel
theorem dX11_cyclesWith_19 : decode cX11_cyclesWith 19 = .ok (.iload_n 2, 1) := by decide +kernel
theorem dX11_cyclesWith_20 : decode cX11_cyclesWith 20 = .ok (.iconst 1, 1) := by decide +kernel
theorem dX11_cyclesWith_21 : decode cX11_cyclesWith 21 = .ok (.if_icmp .lt 9, 3) := by decide +kernel
theorem dX11_cyclesWith_24 : decode cX11_cyclesWith 24 = .ok (.iload_n 2, 1) := by decide +kernel
theorem dX11_cyclesWith_25 : decode cX11_cyclesWith 25 = .ok (.bipush 9, 2) := by decide +kernel
theorem dX11_cyclesWith_27 : decode cX11_cyclesWith 27 = .ok (.if_icmp .le 13, 3) := by decide +kernel
theorem dX11_cyclesWith_30 : decode cX11_cyclesWith 30 = .ok (.new 61, 3) := by decide +kernel
theorem dX11_cyclesWith_33 : decode cX11_cyclesWith 33 = .ok (.dup, 1) := by decide +kernel
theorem dX11_cyclesWith_34 : decode cX11_cyclesWith 34 = .ok (.ldc 96, 2) := by decide +kernel
theorem dX11_cyclesWith_36 : decode cX11_cyclesWith 36 = .ok (.invokespecial 65, 3) := by decide +kernel
theorem dX11_cyclesWith_39 : decode cX11_cyclesWith 39 = .ok (.athrow, 1) := by decide +kernel
theorem dX11_cyclesWith_40 : decode cX11_cyclesWith 40 = .ok (.aload_n 0, 1) := by decide +kernel
theorem dX11_cyclesWith_41 : decode cX11_cyclesWith 41 = .ok (.getfield 32, 3) := by decide +kernel
theorem dX11_cyclesWith_44 : decode cX11_cyclesWith 44 = .ok (.aload_n 0, 1) := by decide +kernel
theorem dX11_cyclesWith_45 : decode cX11_cyclesWith 45 = .ok (.getfield 28, 3) := by decide +kernel
theorem dX11_cyclesWith_48 : decode cX11_cyclesWith 48 = .ok (.invokevirtual 277, 3) := by decide +kernel
theorem dX11_cyclesWith_51 : decode cX11_cyclesWith 51 = .ok (.aload_n 0, 1) := by decide +kernel
theorem dX11_cyclesWith_52 : decode cX11_cyclesWith 52 = .ok (.getfield 32, 3) := by decide +kernel
theorem dX11_cyclesWith_55 : decode cX11_cyclesWith 55 = .ok (.getfield 98, 3) := by decide +kernel
theorem dX11_cyclesWith_58 : decode cX11_cyclesWith 58 = .ok (.iload_n 1, 1) := by decide +kernel
theorem dX11_cyclesWith_59 : decode cX11_cyclesWith 59 = .ok (.iload_n 2, 1) := by decide +kernel
theorem dX11_cyclesWith_60 : decode cX11_cyclesWith 60 = .ok (.invokestatic 106, 3) := by decide +kernel
theorem dX11_cyclesWith_63 : decode cX11_cyclesWith 63 = .ok (.aload_n 0, 1) := by decide +kernel
theorem dX11_cyclesWith_64 : decode cX11_cyclesWith 64 = .ok (.getfield 44, 3) := by decide +kernel
theorem dX11_cyclesWith_67 : decode cX11_cyclesWith 67 = .ok (.iconst 1, 1) := by decide +kernel
theorem dX11_cyclesWith_68 : decode cX11_cyclesWith 68 = .ok (.invokevirtual 281, 3) := by decide +kernel
theorem dX11_cyclesWith_71 : decode cX11_cyclesWith 71 = .ok (.aload_n 0, 1) := by decide +kernel
theorem dX11_cyclesWith_72 : decode cX11_cyclesWith 72 = .ok (.getfield 54, 3) := by decide +kernel
theorem dX11_cyclesWith_75 : decode cX11_cyclesWith 75 = .ok (.aload_n 0, 1) := by decide +kernel
theorem dX11_cyclesWith_76 : decode cX11_cyclesWith 76 = .ok (.getfield 44, 3) := by decide +kernel
theorem dX11_cyclesWith_79 : decode cX11_cyclesWith 79 = .ok (.invokevirtual 285, 3) := by decide +kernel
theorem dX11_cyclesWith_82 : decode cX11_cyclesWith 82 = .ok (.aload_n 0, 1) := by decide +kernel
theorem dX11_cyclesWith_83 : decode cX11_cyclesWith 83 = .ok (.getfield 54, 3) := by decide +kernel
theorem dX11_cyclesWith_86 : decode cX11_cyclesWith 86 = .ok (.getfield 244, 3) := by decide +kernel
theorem dX11_cyclesWith_89 : decode cX11_cyclesWith 89 = .ok (.getfield 288, 3) := by decide +kernel
theorem dX11_cyclesWith_92 : decode cX11_cyclesWith 92 = .ok (.ireturn, 1) := by decide +kernel
theorem dX11_enough_0 : decode cX11_enough 0 = .ok (.aload_n 0, 1) := by decide +kernel
theorem dX11_enough_1 : decode cX11_enough 1 = .ok (.invokevirtual 177, 3) := by decide +kernel
theorem dX11_enough_4 : decode cX11_enough 4 = .ok (.pop, 1) := by decide +kernel
theorem dX11_enough_5 : decode cX11_enough 5 = .ok (.aload_n 0, 1) := by decide +kernel
theorem dX11_enough_6 : decode cX11_enough 6 = .ok (.invokevirtual 291, 3) := by decide +kernel
theorem dX11_enough_9 : decode cX11_enough 9 = .ok (.ireturn, 1) := by decide +kernel
theorem dX11_unordered_0 : decode cX11_unordered 0 = .ok (.aload_n 0, 1) := by decide +kernel
theorem dX11_unordered_1 : decode cX11_unordered 1 = .ok (.invokevirtual 177, 3) := by decide +kernel
theorem dX11_unordered_4 : decode cX11_unordered 4 = .ok (.pop, 1) := by decide +kernel
theorem dX11_unordered_5 : decode cX11_unordered 5 = .ok (.aload_n 0, 1) := by decide +kernel
theorem dX11_unordered_6 : decode cX11_unordered 6 = .ok (.invokevirtual 295, 3) := by decide +kernel
theorem dX11_unordered_9 : decode cX11_unordered 9 = .ok (.aload_n 0, 1) := by decide +kernel
theorem dX11_unordered_10 : decode cX11_unordered 10 = .ok (.getfield 50, 3) := by decide +kernel
theorem dX11_unordered_13 : decode cX11_unordered 13 = .ok (.getfield 244, 3) := by decide +kernel
theorem dX11_unordered_16 : decode cX11_unordered 16 = .ok (.getfield 288, 3) := by decide +kernel
theorem dX11_unordered_19 : decode cX11_unordered 19 = .ok (.isub, 1) := by decide +kernel
theorem dX11_unordered_20 : decode cX11_unordered 20 = .ok (.ireturn, 1) := by decide +kernel
theorem dX11_digest_0 : decode cX11_digest 0 = .ok (.aload_n 0, 1) := by decide +kernel
theorem dX11_digest_1 : decode cX11_digest 1 = .ok (.invokevirtual 177, 3) := by decide +kernel
theorem dX11_digest_4 : decode cX11_digest 4 = .ok (.astore_n 1, 1) := by decide +kernel
theorem dX11_digest_5 : decode cX11_digest 5 = .ok (.ldc2_w 298, 3) := by decide +kernel
theorem dX11_digest_8 : decode cX11_digest 8 = .ok (.lstore_n 2, 1) := by decide +kernel
theorem dX11_digest_9 : decode cX11_digest 9 = .ok (.iconst 0, 1) := by decide +kernel
theorem dX11_digest_10 : decode cX11_digest 10 = .ok (.istore 4, 2) := by decide +kernel
theorem dX11_digest_12 : decode cX11_digest 12 = .ok (.iload 4, 2) := by decide +kernel
theorem dX11_digest_14 : decode cX11_digest 14 = .ok (.bipush 15, 2) := by decide +kernel
theorem dX11_digest_16 : decode cX11_digest 16 = .ok (.if_icmp .gt 25, 3) := by decide +kernel
theorem dX11_digest_19 : decode cX11_digest 19 = .ok (.lload_n 2, 1) := by decide +kernel
theorem dX11_digest_20 : decode cX11_digest 20 = .ok (.aload_n 1, 1) := by decide +kernel
theorem dX11_digest_21 : decode cX11_digest 21 = .ok (.aload_n 0, 1) := by decide +kernel
theorem dX11_digest_22 : decode cX11_digest 22 = .ok (.getfield 40, 3) := by decide +kernel
theorem dX11_digest_25 : decode cX11_digest 25 = .ok (.iload 4, 2) := by decide +kernel
theorem dX11_digest_27 : decode cX11_digest 27 = .ok (.invokevirtual 262, 3) := by decide +kernel
theorem dX11_digest_30 : decode cX11_digest 30 = .ok (.i2l, 1) := by decide +kernel
theorem dX11_digest_31 : decode cX11_digest 31 = .ok (.invokestatic 300, 3) := by decide +kernel
theorem dX11_digest_34 : decode cX11_digest 34 = .ok (.lstore_n 2, 1) := by decide +kernel
theorem dX11_digest_35 : decode cX11_digest 35 = .ok (.iinc 4 1, 3) := by decide +kernel
theorem dX11_digest_38 : decode cX11_digest 38 = .ok (.goto (-26), 3) := by decide +kernel
theorem dX11_digest_41 : decode cX11_digest 41 = .ok (.aload_n 0, 1) := by decide +kernel
theorem dX11_digest_42 : decode cX11_digest 42 = .ok (.lload_n 2, 1) := by decide +kernel
theorem dX11_digest_43 : decode cX11_digest 43 = .ok (.aload_n 1, 1) := by decide +kernel
theorem dX11_digest_44 : decode cX11_digest 44 = .ok (.invokevirtual 304, 3) := by decide +kernel
theorem dX11_digest_47 : decode cX11_digest 47 = .ok (.lstore_n 2, 1) := by decide +kernel
theorem dX11_digest_48 : decode cX11_digest 48 = .ok (.aload_n 0, 1) := by decide +kernel
theorem dX11_digest_49 : decode cX11_digest 49 = .ok (.lload_n 2, 1) := by decide +kernel
theorem dX11_digest_50 : decode cX11_digest 50 = .ok (.aload_n 1, 1) := by decide +kernel
theorem dX11_digest_51 : decode cX11_digest 51 = .ok (.invokevirtual 308, 3) := by decide +kernel
theorem dX11_digest_54 : decode cX11_digest 54 = .ok (.lstore_n 2, 1) := by decide +kernel
theorem dX11_digest_55 : decode cX11_digest 55 = .ok (.aload_n 0, 1) := by decide +kernel
theorem dX11_digest_56 : decode cX11_digest 56 = .ok (.lload_n 2, 1) := by decide +kernel
theorem dX11_digest_57 : decode cX11_digest 57 = .ok (.aload_n 1, 1) := by decide +kernel
theorem dX11_digest_58 : decode cX11_digest 58 = .ok (.invokevirtual 311, 3) := by decide +kernel
theorem dX11_digest_61 : decode cX11_digest 61 = .ok (.lstore_n 2, 1) := by decide +kernel
theorem dX11_digest_62 : decode cX11_digest 62 = .ok (.aload_n 0, 1) := by decide +kernel
theorem dX11_digest_63 : decode cX11_digest 63 = .ok (.lload_n 2, 1) := by decide +kernel
theorem dX11_digest_64 : decode cX11_digest 64 = .ok (.aload_n 1, 1) := by decide +kernel
theorem dX11_digest_65 : decode cX11_digest 65 = .ok (.invokevirtual 314, 3) := by decide +kernel
theorem dX11_digest_68 : decode cX11_digest 68 = .ok (.lstore_n 2, 1) := by decide +kernel
theorem dX11_digest_69 : decode cX11_digest 69 = .ok (.lload_n 2, 1) := by decide +kernel
theorem dX11_digest_70 : decode cX11_digest 70 = .ok (.aload_n 1, 1) := by decide +kernel
theorem dX11_digest_71 : decode cX11_digest 71 = .ok (.invokestatic 317, 3) := by decide +kernel
theorem dX11_digest_74 : decode cX11_digest 74 = .ok (.lstore_n 2, 1) := by decide +kernel
theorem dX11_digest_75 : decode cX11_digest 75 = .ok (.lload_n 2, 1) := by decide +kernel
theorem dX11_digest_76 : decode cX11_digest 76 = .ok (.aload_n 0, 1) := by decide +kernel
theorem dX11_digest_77 : decode cX11_digest 77 = .ok (.invokevirtual 291, 3) := by decide +kernel
theorem dX11_digest_80 : decode cX11_digest 80 = .ok (.i2l, 1) := by decide +kernel
theorem dX11_digest_81 : decode cX11_digest 81 = .ok (.invokestatic 300, 3) := by decide +kernel
theorem dX11_digest_84 : decode cX11_digest 84 = .ok (.lstore_n 2, 1) := by decide +kernel
theorem dX11_digest_85 : decode cX11_digest 85 = .ok (.lload_n 2, 1) := by decide +kernel
theorem dX11_digest_86 : decode cX11_digest 86 = .ok (.aload_n 0, 1) := by decide +kernel
theorem dX11_digest_87 : decode cX11_digest 87 = .ok (.invokevirtual 295, 3) := by decide +kernel
theorem dX11_digest_90 : decode cX11_digest 90 = .ok (.aload_n 1, 1) := by decide +kernel
theorem dX11_digest_91 : decode cX11_digest 91 = .ok (.getfield 244, 3) := by decide +kernel
theorem dX11_digest_94 : decode cX11_digest 94 = .ok (.getfield 288, 3) := by decide +kernel
theorem dX11_digest_97 : decode cX11_digest 97 = .ok (.isub, 1) := by decide +kernel
theorem dX11_digest_98 : decode cX11_digest 98 = .ok (.i2l, 1) := by decide +kernel
theorem dX11_digest_99 : decode cX11_digest 99 = .ok (.invokestatic 300, 3) := by decide +kernel
theorem dX11_digest_102 : decode cX11_digest 102 = .ok (.lstore_n 2, 1) := by decide +kernel
theorem dX11_digest_103 : decode cX11_digest 103 = .ok (.aload_n 0, 1) := by decide +kernel
theorem dX11_digest_104 : decode cX11_digest 104 = .ok (.bipush 6, 2) := by decide +kernel
theorem dX11_digest_106 : decode cX11_digest 106 = .ok (.iconst 4, 1) := by decide +kernel
theorem dX11_digest_107 : decode cX11_digest 107 = .ok (.iconst 1, 1) := by decide +kernel
theorem dX11_digest_108 : decode cX11_digest 108 = .ok (.invokevirtual 273, 3) := by decide +kernel
theorem dX11_digest_111 : decode cX11_digest 111 = .ok (.astore 4, 2) := by decide +kernel
theorem dX11_digest_113 : decode cX11_digest 113 = .ok (.lload_n 2, 1) := by decide +kernel
theorem dX11_digest_114 : decode cX11_digest 114 = .ok (.aload 4, 2) := by decide +kernel
theorem dX11_digest_116 : decode cX11_digest 116 = .ok (.aload_n 0, 1) := by decide +kernel
theorem dX11_digest_117 : decode cX11_digest 117 = .ok (.getfield 40, 3) := by decide +kernel
theorem dX11_digest_120 : decode cX11_digest 120 = .ok (.bipush 9, 2) := by decide +kernel
theorem dX11_digest_122 : decode cX11_digest 122 = .ok (.invokevirtual 262, 3) := by decide +kernel
theorem dX11_digest_125 : decode cX11_digest 125 = .ok (.i2l, 1) := by decide +kernel
theorem dX11_digest_126 : decode cX11_digest 126 = .ok (.invokestatic 300, 3) := by decide +kernel
theorem dX11_digest_129 : decode cX11_digest 129 = .ok (.lstore_n 2, 1) := by decide +kernel
theorem dX11_digest_130 : decode cX11_digest 130 = .ok (.lload_n 2, 1) := by decide +kernel
theorem dX11_digest_131 : decode cX11_digest 131 = .ok (.aload 4, 2) := by decide +kernel
theorem dX11_digest_133 : decode cX11_digest 133 = .ok (.aload_n 0, 1) := by decide +kernel
theorem dX11_digest_134 : decode cX11_digest 134 = .ok (.getfield 40, 3) := by decide +kernel
theorem dX11_digest_137 : decode cX11_digest 137 = .ok (.bipush 13, 2) := by decide +kernel
theorem dX11_digest_139 : decode cX11_digest 139 = .ok (.invokevirtual 262, 3) := by decide +kernel
theorem dX11_digest_142 : decode cX11_digest 142 = .ok (.i2l, 1) := by decide +kernel
theorem dX11_digest_143 : decode cX11_digest 143 = .ok (.invokestatic 300, 3) := by decide +kernel
theorem dX11_digest_146 : decode cX11_digest 146 = .ok (.lreturn, 1) := by decide +kernel
theorem dX11_forget_0 : decode cX11_forget 0 = .ok (.aload_n 0, 1) := by decide +kernel
theorem dX11_forget_1 : decode cX11_forget 1 = .ok (.iconst 0, 1) := by decide +kernel
theorem dX11_forget_2 : decode cX11_forget 2 = .ok (.putfield 320, 3) := by decide +kernel
theorem dX11_forget_5 : decode cX11_forget 5 = .ok (.aload_n 0, 1) := by decide +kernel
theorem dX11_forget_6 : decode cX11_forget 6 = .ok (.iconst 0, 1) := by decide +kernel
theorem dX11_forget_7 : decode cX11_forget 7 = .ok (.putfield 323, 3) := by decide +kernel
theorem dX11_forget_10 : decode cX11_forget 10 = .ok (.return_, 1) := by decide +kernel
theorem dX11_builtNow_0 : decode cX11_builtNow 0 = .ok (.aload_n 0, 1) := by decide +kernel
theorem dX11_builtNow_1 : decode cX11_builtNow 1 = .ok (.getfield 320, 3) := by decide +kernel
theorem dX11_builtNow_4 : decode cX11_builtNow 4 = .ok (.ifCond .ne 27, 3) := by decide +kernel
theorem dX11_builtNow_7 : decode cX11_builtNow 7 = .ok (.aload_n 0, 1) := by decide +kernel
theorem dX11_builtNow_8 : decode cX11_builtNow 8 = .ok (.getfield 40, 3) := by decide +kernel
theorem dX11_builtNow_11 : decode cX11_builtNow 11 = .ok (.iconst 1, 1) := by decide +kernel
theorem dX11_builtNow_12 : decode cX11_builtNow 12 = .ok (.invokevirtual 281, 3) := by decide +kernel
theorem dX11_builtNow_15 : decode cX11_builtNow 15 = .ok (.aload_n 0, 1) := by decide +kernel
theorem dX11_builtNow_16 : decode cX11_builtNow 16 = .ok (.getfield 50, 3) := by decide +kernel
theorem dX11_builtNow_19 : decode cX11_builtNow 19 = .ok (.aload_n 0, 1) := by decide +kernel
theorem dX11_builtNow_20 : decode cX11_builtNow 20 = .ok (.getfield 40, 3) := by decide +kernel
theorem dX11_builtNow_23 : decode cX11_builtNow 23 = .ok (.invokevirtual 285, 3) := by decide +kernel
theorem dX11_builtNow_26 : decode cX11_builtNow 26 = .ok (.aload_n 0, 1) := by decide +kernel
theorem dX11_builtNow_27 : decode cX11_builtNow 27 = .ok (.iconst 1, 1) := by decide +kernel
theorem dX11_builtNow_28 : decode cX11_builtNow 28 = .ok (.putfield 320, 3) := by decide +kernel
theorem dX11_builtNow_31 : decode cX11_builtNow 31 = .ok (.aload_n 0, 1) := by decide +kernel
theorem dX11_builtNow_32 : decode cX11_builtNow 32 = .ok (.getfield 50, 3) := by decide +kernel
theorem dX11_builtNow_35 : decode cX11_builtNow 35 = .ok (.areturn, 1) := by decide +kernel
theorem dX11_meantNow_0 : decode cX11_meantNow 0 = .ok (.aload_n 0, 1) := by decide +kernel
theorem dX11_meantNow_1 : decode cX11_meantNow 1 = .ok (.getfield 323, 3) := by decide +kernel
theorem dX11_meantNow_4 : decode cX11_meantNow 4 = .ok (.ifCond .ne 15, 3) := by decide +kernel
theorem dX11_meantNow_7 : decode cX11_meantNow 7 = .ok (.aload_n 0, 1) := by decide +kernel
theorem dX11_meantNow_8 : decode cX11_meantNow 8 = .ok (.getfield 21, 3) := by decide +kernel
theorem dX11_meantNow_11 : decode cX11_meantNow 11 = .ok (.invokevirtual 326, 3) := by decide +kernel
theorem dX11_meantNow_14 : decode cX11_meantNow 14 = .ok (.aload_n 0, 1) := by decide +kernel
theorem dX11_meantNow_15 : decode cX11_meantNow 15 = .ok (.iconst 1, 1) := by decide +kernel
theorem dX11_meantNow_16 : decode cX11_meantNow 16 = .ok (.putfield 323, 3) := by decide +kernel
theorem dX11_meantNow_19 : decode cX11_meantNow 19 = .ok (.aload_n 0, 1) := by decide +kernel
theorem dX11_meantNow_20 : decode cX11_meantNow 20 = .ok (.getfield 21, 3) := by decide +kernel
theorem dX11_meantNow_23 : decode cX11_meantNow 23 = .ok (.areturn, 1) := by decide +kernel
theorem dX11_builtWith_0 : decode cX11_builtWith 0 = .ok (.aload_n 0, 1) := by decide +kernel
theorem dX11_builtWith_1 : decode cX11_builtWith 1 = .ok (.getfield 32, 3) := by decide +kernel
theorem dX11_builtWith_4 : decode cX11_builtWith 4 = .ok (.aload_n 0, 1) := by decide +kernel
theorem dX11_builtWith_5 : decode cX11_builtWith 5 = .ok (.getfield 28, 3) := by decide +kernel
theorem dX11_builtWith_8 : decode cX11_builtWith 8 = .ok (.invokevirtual 277, 3) := by decide +kernel
theorem dX11_builtWith_11 : decode cX11_builtWith 11 = .ok (.aload_n 0, 1) := by decide +kernel
theorem dX11_builtWith_12 : decode cX11_builtWith 12 = .ok (.getfield 32, 3) := by decide +kernel
theorem dX11_builtWith_15 : decode cX11_builtWith 15 = .ok (.iload_n 1, 1) := by decide +kernel
theorem dX11_builtWith_16 : decode cX11_builtWith 16 = .ok (.putfield 68, 3) := by decide +kernel
theorem dX11_builtWith_19 : decode cX11_builtWith 19 = .ok (.aload_n 0, 1) := by decide +kernel
theorem dX11_builtWith_20 : decode cX11_builtWith 20 = .ok (.getfield 32, 3) := by decide +kernel
theorem dX11_builtWith_23 : decode cX11_builtWith 23 = .ok (.iload_n 2, 1) := by decide +kernel
theorem dX11_builtWith_24 : decode cX11_builtWith 24 = .ok (.putfield 72, 3) := by decide +kernel
theorem dX11_builtWith_27 : decode cX11_builtWith 27 = .ok (.aload_n 0, 1) := by decide +kernel
theorem dX11_builtWith_28 : decode cX11_builtWith 28 = .ok (.getfield 32, 3) := by decide +kernel
theorem dX11_builtWith_31 : decode cX11_builtWith 31 = .ok (.iload_n 3, 1) := by decide +kernel
theorem dX11_builtWith_32 : decode cX11_builtWith 32 = .ok (.putfield 82, 3) := by decide +kernel
theorem dX11_builtWith_35 : decode cX11_builtWith 35 = .ok (.aload_n 0, 1) := by decide +kernel
theorem dX11_builtWith_36 : decode cX11_builtWith 36 = .ok (.getfield 54, 3) := by decide +kernel
theorem dX11_builtWith_39 : decode cX11_builtWith 39 = .ok (.aload_n 0, 1) := by decide +kernel
theorem dX11_builtWith_40 : decode cX11_builtWith 40 = .ok (.getfield 40, 3) := by decide +kernel
theorem dX11_builtWith_43 : decode cX11_builtWith 43 = .ok (.invokevirtual 285, 3) := by decide +kernel
theorem dX11_builtWith_46 : decode cX11_builtWith 46 = .ok (.aload_n 0, 1) := by decide +kernel
theorem dX11_builtWith_47 : decode cX11_builtWith 47 = .ok (.getfield 54, 3) := by decide +kernel
theorem dX11_builtWith_50 : decode cX11_builtWith 50 = .ok (.areturn, 1) := by decide +kernel
theorem dX11_fewestRegisters_0 : decode cX11_fewestRegisters 0 = .ok (.aload_n 0, 1) := by decide +kernel
theorem dX11_fewestRegisters_1 : decode cX11_fewestRegisters 1 = .ok (.getfield 32, 3) := by decide +kernel
theorem dX11_fewestRegisters_4 : decode cX11_fewestRegisters 4 = .ok (.aload_n 0, 1) := by decide +kernel
theorem dX11_fewestRegisters_5 : decode cX11_fewestRegisters 5 = .ok (.getfield 28, 3) := by decide +kernel
theorem dX11_fewestRegisters_8 : decode cX11_fewestRegisters 8 = .ok (.invokevirtual 277, 3) := by decide +kernel
theorem dX11_fewestRegisters_11 : decode cX11_fewestRegisters 11 = .ok (.iconst 5, 1) := by decide +kernel
theorem dX11_fewestRegisters_12 : decode cX11_fewestRegisters 12 = .ok (.istore_n 1, 1) := by decide +kernel
theorem dX11_fewestRegisters_13 : decode cX11_fewestRegisters 13 = .ok (.iload_n 1, 1) := by decide +kernel
theorem dX11_fewestRegisters_14 : decode cX11_fewestRegisters 14 = .ok (.bipush 11, 2) := by decide +kernel
theorem dX11_fewestRegisters_16 : decode cX11_fewestRegisters 16 = .ok (.if_icmp .gt 83, 3) := by decide +kernel
theorem dX11_fewestRegisters_19 : decode cX11_fewestRegisters 19 = .ok (.aload_n 0, 1) := by decide +kernel
theorem dX11_fewestRegisters_20 : decode cX11_fewestRegisters 20 = .ok (.getfield 32, 3) := by decide +kernel
theorem dX11_fewestRegisters_23 : decode cX11_fewestRegisters 23 = .ok (.iload_n 1, 1) := by decide +kernel
theorem dX11_fewestRegisters_24 : decode cX11_fewestRegisters 24 = .ok (.putfield 68, 3) := by decide +kernel
theorem dX11_fewestRegisters_27 : decode cX11_fewestRegisters 27 = .ok (.aload_n 0, 1) := by decide +kernel
theorem dX11_fewestRegisters_28 : decode cX11_fewestRegisters 28 = .ok (.getfield 32, 3) := by decide +kernel
theorem dX11_fewestRegisters_31 : decode cX11_fewestRegisters 31 = .ok (.aload_n 0, 1) := by decide +kernel
theorem dX11_fewestRegisters_32 : decode cX11_fewestRegisters 32 = .ok (.getfield 28, 3) := by decide +kernel
theorem dX11_fewestRegisters_35 : decode cX11_fewestRegisters 35 = .ok (.getfield 72, 3) := by decide +kernel
theorem dX11_fewestRegisters_38 : decode cX11_fewestRegisters 38 = .ok (.aload_n 0, 1) := by decide +kernel
theorem dX11_fewestRegisters_39 : decode cX11_fewestRegisters 39 = .ok (.getfield 32, 3) := by decide +kernel
theorem dX11_fewestRegisters_42 : decode cX11_fewestRegisters 42 = .ok (.invokevirtual 329, 3) := by decide +kernel
theorem dX11_fewestRegisters_45 : decode cX11_fewestRegisters 45 = .ok (.invokestatic 332, 3) := by decide +kernel
theorem dX11_fewestRegisters_48 : decode cX11_fewestRegisters 48 = .ok (.iconst 1, 1) := by decide +kernel
theorem dX11_fewestRegisters_49 : decode cX11_fewestRegisters 49 = .ok (.isub, 1) := by decide +kernel
theorem dX11_fewestRegisters_50 : decode cX11_fewestRegisters 50 = .ok (.iand, 1) := by decide +kernel
theorem dX11_fewestRegisters_51 : decode cX11_fewestRegisters 51 = .ok (.putfield 72, 3) := by decide +kernel
theorem dX11_fewestRegisters_54 : decode cX11_fewestRegisters 54 = .ok (.aload_n 0, 1) := by decide +kernel
theorem dX11_fewestRegisters_55 : decode cX11_fewestRegisters 55 = .ok (.getfield 54, 3) := by decide +kernel
theorem dX11_fewestRegisters_58 : decode cX11_fewestRegisters 58 = .ok (.getfield 335, 3) := by decide +kernel
theorem dX11_fewestRegisters_61 : decode cX11_fewestRegisters 61 = .ok (.aload_n 0, 1) := by decide +kernel
theorem dX11_fewestRegisters_62 : decode cX11_fewestRegisters 62 = .ok (.getfield 40, 3) := by decide +kernel
theorem dX11_fewestRegisters_65 : decode cX11_fewestRegisters 65 = .ok (.getfield 181, 3) := by decide +kernel
theorem dX11_fewestRegisters_68 : decode cX11_fewestRegisters 68 = .ok (.aload_n 0, 1) := by decide +kernel
theorem dX11_fewestRegisters_69 : decode cX11_fewestRegisters 69 = .ok (.getfield 40, 3) := by decide +kernel
theorem dX11_fewestRegisters_72 : decode cX11_fewestRegisters 72 = .ok (.getfield 198, 3) := by decide +kernel
theorem dX11_fewestRegisters_75 : decode cX11_fewestRegisters 75 = .ok (.invokevirtual 339, 3) := by decide +kernel
theorem dX11_fewestRegisters_78 : decode cX11_fewestRegisters 78 = .ok (.aload_n 0, 1) := by decide +kernel
theorem dX11_fewestRegisters_79 : decode cX11_fewestRegisters 79 = .ok (.getfield 54, 3) := by decide +kernel
theorem dX11_fewestRegisters_82 : decode cX11_fewestRegisters 82 = .ok (.getfield 335, 3) := by decide +kernel
theorem dX11_fewestRegisters_85 : decode cX11_fewestRegisters 85 = .ok (.getfield 345, 3) := by decide +kernel
theorem dX11_fewestRegisters_88 : decode cX11_fewestRegisters 88 = .ok (.ifCond .ne 5, 3) := by decide +kernel
theorem dX11_fewestRegisters_91 : decode cX11_fewestRegisters 91 = .ok (.iload_n 1, 1) := by decide +kernel
theorem dX11_fewestRegisters_92 : decode cX11_fewestRegisters 92 = .ok (.ireturn, 1) := by decide +kernel
theorem dX11_fewestRegisters_93 : decode cX11_fewestRegisters 93 = .ok (.iinc 1 1, 3) := by decide +kernel
theorem dX11_fewestRegisters_96 : decode cX11_fewestRegisters 96 = .ok (.goto (-83), 3) := by decide +kernel
theorem dX11_fewestRegisters_99 : decode cX11_fewestRegisters 99 = .ok (.iconst (-1), 1) := by decide +kernel
theorem dX11_fewestRegisters_100 : decode cX11_fewestRegisters 100 = .ok (.ireturn, 1) := by decide +kernel
theorem dX11_cyclesUnordered_0 : decode cX11_cyclesUnordered 0 = .ok (.aload_n 0, 1) := by decide +kernel
theorem dX11_cyclesUnordered_1 : decode cX11_cyclesUnordered 1 = .ok (.getfield 32, 3) := by decide +kernel
theorem dX11_cyclesUnordered_4 : decode cX11_cyclesUnordered 4 = .ok (.aload_n 0, 1) := by decide +kernel
theorem dX11_cyclesUnordered_5 : decode cX11_cyclesUnordered 5 = .ok (.getfield 28, 3) := by decide +kernel
theorem dX11_cyclesUnordered_8 : decode cX11_cyclesUnordered 8 = .ok (.invokevirtual 277, 3) := by decide +kernel
theorem dX11_cyclesUnordered_11 : decode cX11_cyclesUnordered 11 = .ok (.aload_n 0, 1) := by decide +kernel
theorem dX11_cyclesUnordered_12 : decode cX11_cyclesUnordered 12 = .ok (.getfield 44, 3) := by decide +kernel
theorem dX11_cyclesUnordered_15 : decode cX11_cyclesUnordered 15 = .ok (.iconst 0, 1) := by decide +kernel
theorem dX11_cyclesUnordered_16 : decode cX11_cyclesUnordered 16 = .ok (.invokevirtual 281, 3) := by decide +kernel
theorem dX11_cyclesUnordered_19 : decode cX11_cyclesUnordered 19 = .ok (.aload_n 0, 1) := by decide +kernel
theorem dX11_cyclesUnordered_20 : decode cX11_cyclesUnordered 20 = .ok (.getfield 54, 3) := by decide +kernel
theorem dX11_cyclesUnordered_23 : decode cX11_cyclesUnordered 23 = .ok (.aload_n 0, 1) := by decide +kernel
theorem dX11_cyclesUnordered_24 : decode cX11_cyclesUnordered 24 = .ok (.getfield 44, 3) := by decide +kernel
theorem dX11_cyclesUnordered_27 : decode cX11_cyclesUnordered 27 = .ok (.invokevirtual 285, 3) := by decide +kernel
theorem dX11_cyclesUnordered_30 : decode cX11_cyclesUnordered 30 = .ok (.aload_n 0, 1) := by decide +kernel
theorem dX11_cyclesUnordered_31 : decode cX11_cyclesUnordered 31 = .ok (.getfield 54, 3) := by decide +kernel
theorem dX11_cyclesUnordered_34 : decode cX11_cyclesUnordered 34 = .ok (.getfield 244, 3) := by decide +kernel
theorem dX11_cyclesUnordered_37 : decode cX11_cyclesUnordered 37 = .ok (.getfield 288, 3) := by decide +kernel
theorem dX11_cyclesUnordered_40 : decode cX11_cyclesUnordered 40 = .ok (.ireturn, 1) := by decide +kernel
theorem dX11_mixVariables_0 : decode cX11_mixVariables 0 = .ok (.lload_n 1, 1) := by decide +kernel
theorem dX11_mixVariables_1 : decode cX11_mixVariables 1 = .ok (.lstore 4, 2) := by decide +kernel
theorem dX11_mixVariables_3 : decode cX11_mixVariables 3 = .ok (.aload_n 0, 1) := by decide +kernel
theorem dX11_mixVariables_4 : decode cX11_mixVariables 4 = .ok (.invokevirtual 170, 3) := by decide +kernel
theorem dX11_mixVariables_7 : decode cX11_mixVariables 7 = .ok (.astore 6, 2) := by decide +kernel
theorem dX11_mixVariables_9 : decode cX11_mixVariables 9 = .ok (.iconst 0, 1) := by decide +kernel
theorem dX11_mixVariables_10 : decode cX11_mixVariables 10 = .ok (.istore 7, 2) := by decide +kernel
theorem dX11_mixVariables_12 : decode cX11_mixVariables 12 = .ok (.iload 7, 2) := by decide +kernel
theorem dX11_mixVariables_14 : decode cX11_mixVariables 14 = .ok (.bipush 8, 2) := by decide +kernel
theorem dX11_mixVariables_16 : decode cX11_mixVariables 16 = .ok (.if_icmp .ge 27, 3) := by decide +kernel
theorem dX11_mixVariables_19 : decode cX11_mixVariables 19 = .ok (.lload 4, 2) := by decide +kernel
theorem dX11_mixVariables_21 : decode cX11_mixVariables 21 = .ok (.aload 6, 2) := by decide +kernel
theorem dX11_mixVariables_23 : decode cX11_mixVariables 23 = .ok (.getfield 174, 3) := by decide +kernel
theorem dX11_mixVariables_26 : decode cX11_mixVariables 26 = .ok (.iload 7, 2) := by decide +kernel
theorem dX11_mixVariables_28 : decode cX11_mixVariables 28 = .ok (.invokestatic 102, 3) := by decide +kernel
theorem dX11_mixVariables_31 : decode cX11_mixVariables 31 = .ok (.i2l, 1) := by decide +kernel
theorem dX11_mixVariables_32 : decode cX11_mixVariables 32 = .ok (.invokestatic 300, 3) := by decide +kernel
theorem dX11_mixVariables_35 : decode cX11_mixVariables 35 = .ok (.lstore 4, 2) := by decide +kernel
theorem dX11_mixVariables_37 : decode cX11_mixVariables 37 = .ok (.iinc 7 1, 3) := by decide +kernel
theorem dX11_mixVariables_40 : decode cX11_mixVariables 40 = .ok (.goto (-28), 3) := by decide +kernel
theorem dX11_mixVariables_43 : decode cX11_mixVariables 43 = .ok (.iconst 0, 1) := by decide +kernel
theorem dX11_mixVariables_44 : decode cX11_mixVariables 44 = .ok (.istore 7, 2) := by decide +kernel
theorem dX11_mixVariables_46 : decode cX11_mixVariables 46 = .ok (.iload 7, 2) := by decide +kernel
theorem dX11_mixVariables_48 : decode cX11_mixVariables 48 = .ok (.bipush 8, 2) := by decide +kernel
theorem dX11_mixVariables_50 : decode cX11_mixVariables 50 = .ok (.if_icmp .ge 42, 3) := by decide +kernel
theorem dX11_mixVariables_53 : decode cX11_mixVariables 53 = .ok (.aload_n 0, 1) := by decide +kernel
theorem dX11_mixVariables_54 : decode cX11_mixVariables 54 = .ok (.getfield 12, 3) := by decide +kernel
theorem dX11_mixVariables_57 : decode cX11_mixVariables 57 = .ok (.getfield 165, 3) := by decide +kernel
theorem dX11_mixVariables_60 : decode cX11_mixVariables 60 = .ok (.iload 7, 2) := by decide +kernel
theorem dX11_mixVariables_62 : decode cX11_mixVariables 62 = .ok (.invokestatic 253, 3) := by decide +kernel
theorem dX11_mixVariables_65 : decode cX11_mixVariables 65 = .ok (.ifCond .eq 21, 3) := by decide +kernel
theorem dX11_mixVariables_68 : decode cX11_mixVariables 68 = .ok (.lload 4, 2) := by decide +kernel
theorem dX11_mixVariables_70 : decode cX11_mixVariables 70 = .ok (.aload_n 3, 1) := by decide +kernel
theorem dX11_mixVariables_71 : decode cX11_mixVariables 71 = .ok (.aload_n 0, 1) := by decide +kernel
theorem dX11_mixVariables_72 : decode cX11_mixVariables 72 = .ok (.getfield 40, 3) := by decide +kernel
theorem dX11_mixVariables_75 : decode cX11_mixVariables 75 = .ok (.iload 7, 2) := by decide +kernel
theorem dX11_mixVariables_77 : decode cX11_mixVariables 77 = .ok (.invokevirtual 258, 3) := by decide +kernel
theorem dX11_mixVariables_80 : decode cX11_mixVariables 80 = .ok (.i2l, 1) := by decide +kernel
theorem dX11_mixVariables_81 : decode cX11_mixVariables 81 = .ok (.invokestatic 300, 3) := by decide +kernel
theorem dX11_mixVariables_84 : decode cX11_mixVariables 84 = .ok (.lstore 4, 2) := by decide +kernel
theorem dX11_mixVariables_86 : decode cX11_mixVariables 86 = .ok (.iinc 7 1, 3) := by decide +kernel
theorem dX11_mixVariables_89 : decode cX11_mixVariables 89 = .ok (.goto (-43), 3) := by decide +kernel
theorem dX11_mixVariables_92 : decode cX11_mixVariables 92 = .ok (.lload 4, 2) := by decide +kernel
theorem dX11_mixVariables_94 : decode cX11_mixVariables 94 = .ok (.lreturn, 1) := by decide +kernel
theorem dX11_mixLines_0 : decode cX11_mixLines 0 = .ok (.lload_n 1, 1) := by decide +kernel
theorem dX11_mixLines_1 : decode cX11_mixLines 1 = .ok (.lstore 4, 2) := by decide +kernel
theorem dX11_mixLines_3 : decode cX11_mixLines 3 = .ok (.iconst 0, 1) := by decide +kernel
theorem dX11_mixLines_4 : decode cX11_mixLines 4 = .ok (.istore 6, 2) := by decide +kernel
theorem dX11_mixLines_6 : decode cX11_mixLines 6 = .ok (.iload 6, 2) := by decide +kernel
theorem dX11_mixLines_8 : decode cX11_mixLines 8 = .ok (.aload_n 0, 1) := by decide +kernel
theorem dX11_mixLines_9 : decode cX11_mixLines 9 = .ok (.getfield 40, 3) := by decide +kernel
theorem dX11_mixLines_12 : decode cX11_mixLines 12 = .ok (.getfield 181, 3) := by decide +kernel
theorem dX11_mixLines_15 : decode cX11_mixLines 15 = .ok (.getfield 185, 3) := by decide +kernel
theorem dX11_mixLines_18 : decode cX11_mixLines 18 = .ok (.if_icmp .ge 45, 3) := by decide +kernel
theorem dX11_mixLines_21 : decode cX11_mixLines 21 = .ok (.iconst 0, 1) := by decide +kernel
theorem dX11_mixLines_22 : decode cX11_mixLines 22 = .ok (.istore 7, 2) := by decide +kernel
theorem dX11_mixLines_24 : decode cX11_mixLines 24 = .ok (.iload 7, 2) := by decide +kernel
theorem dX11_mixLines_26 : decode cX11_mixLines 26 = .ok (.bipush 8, 2) := by decide +kernel
theorem dX11_mixLines_28 : decode cX11_mixLines 28 = .ok (.if_icmp .ge 29, 3) := by decide +kernel
theorem dX11_mixLines_31 : decode cX11_mixLines 31 = .ok (.lload 4, 2) := by decide +kernel
theorem dX11_mixLines_33 : decode cX11_mixLines 33 = .ok (.aload_n 3, 1) := by decide +kernel
theorem dX11_mixLines_34 : decode cX11_mixLines 34 = .ok (.aload_n 0, 1) := by decide +kernel
theorem dX11_mixLines_35 : decode cX11_mixLines 35 = .ok (.getfield 40, 3) := by decide +kernel
theorem dX11_mixLines_38 : decode cX11_mixLines 38 = .ok (.iload 6, 2) := by decide +kernel
theorem dX11_mixLines_40 : decode cX11_mixLines 40 = .ok (.iload 7, 2) := by decide +kernel
theorem dX11_mixLines_42 : decode cX11_mixLines 42 = .ok (.invokevirtual 194, 3) := by decide +kernel
theorem dX11_mixLines_45 : decode cX11_mixLines 45 = .ok (.i2l, 1) := by decide +kernel
theorem dX11_mixLines_46 : decode cX11_mixLines 46 = .ok (.invokestatic 300, 3) := by decide +kernel
theorem dX11_mixLines_49 : decode cX11_mixLines 49 = .ok (.lstore 4, 2) := by decide +kernel
theorem dX11_mixLines_51 : decode cX11_mixLines 51 = .ok (.iinc 7 1, 3) := by decide +kernel
theorem dX11_mixLines_54 : decode cX11_mixLines 54 = .ok (.goto (-30), 3) := by decide +kernel
theorem dX11_mixLines_57 : decode cX11_mixLines 57 = .ok (.iinc 6 1, 3) := by decide +kernel
theorem dX11_mixLines_60 : decode cX11_mixLines 60 = .ok (.goto (-54), 3) := by decide +kernel
