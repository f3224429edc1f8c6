theorem dX0_init_0 : decode cX0_init 0 = .ok (.aload_n 0, 1) := by decide +kernel
theorem dX0_init_1 : decode cX0_init 1 = .ok (.invokespecial 3, 3) := by decide +kernel
theorem dX0_init_4 : decode cX0_init 4 = .ok (.aload_n 0, 1) := by decide +kernel
theorem dX0_init_5 : decode cX0_init 5 = .ok (.aload_n 1, 1) := by decide +kernel
theorem dX0_init_6 : decode cX0_init 6 = .ok (.putfield 9, 3) := by decide +kernel
theorem dX0_init_9 : decode cX0_init 9 = .ok (.aload_n 0, 1) := by decide +kernel
theorem dX0_init_10 : decode cX0_init 10 = .ok (.aload_n 2, 1) := by decide +kernel
theorem dX0_init_11 : decode cX0_init 11 = .ok (.putfield 15, 3) := by decide +kernel
theorem dX0_init_14 : decode cX0_init 14 = .ok (.aload_n 0, 1) := by decide +kernel
theorem dX0_init_15 : decode cX0_init 15 = .ok (.bipush 80, 2) := by decide +kernel
theorem dX0_init_17 : decode cX0_init 17 = .ok (.newarray .int, 2) := by decide +kernel
theorem dX0_init_19 : decode cX0_init 19 = .ok (.putfield 19, 3) := by decide +kernel
theorem dX0_init_22 : decode cX0_init 22 = .ok (.aload_n 0, 1) := by decide +kernel
theorem dX0_init_23 : decode cX0_init 23 = .ok (.bipush 80, 2) := by decide +kernel
theorem dX0_init_25 : decode cX0_init 25 = .ok (.newarray .int, 2) := by decide +kernel
theorem dX0_init_27 : decode cX0_init 27 = .ok (.putfield 23, 3) := by decide +kernel
theorem dX0_init_30 : decode cX0_init 30 = .ok (.aload_n 0, 1) := by decide +kernel
theorem dX0_init_31 : decode cX0_init 31 = .ok (.bipush 80, 2) := by decide +kernel
theorem dX0_init_33 : decode cX0_init 33 = .ok (.newarray .int, 2) := by decide +kernel
theorem dX0_init_35 : decode cX0_init 35 = .ok (.putfield 26, 3) := by decide +kernel
theorem dX0_init_38 : decode cX0_init 38 = .ok (.aload_n 0, 1) := by decide +kernel
theorem dX0_init_39 : decode cX0_init 39 = .ok (.sipush 240, 3) := by decide +kernel
theorem dX0_init_42 : decode cX0_init 42 = .ok (.newarray .int, 2) := by decide +kernel
theorem dX0_init_44 : decode cX0_init 44 = .ok (.putfield 29, 3) := by decide +kernel
theorem dX0_init_47 : decode cX0_init 47 = .ok (.aload_n 0, 1) := by decide +kernel
theorem dX0_init_48 : decode cX0_init 48 = .ok (.sipush 240, 3) := by decide +kernel
theorem dX0_init_51 : decode cX0_init 51 = .ok (.newarray .int, 2) := by decide +kernel
theorem dX0_init_53 : decode cX0_init 53 = .ok (.putfield 32, 3) := by decide +kernel
theorem dX0_init_56 : decode cX0_init 56 = .ok (.aload_n 0, 1) := by decide +kernel
theorem dX0_init_57 : decode cX0_init 57 = .ok (.bipush 80, 2) := by decide +kernel
theorem dX0_init_59 : decode cX0_init 59 = .ok (.newarray .int, 2) := by decide +kernel
theorem dX0_init_61 : decode cX0_init 61 = .ok (.putfield 35, 3) := by decide +kernel
theorem dX0_init_64 : decode cX0_init 64 = .ok (.aload_n 0, 1) := by decide +kernel
theorem dX0_init_65 : decode cX0_init 65 = .ok (.bipush 80, 2) := by decide +kernel
theorem dX0_init_67 : decode cX0_init 67 = .ok (.newarray .int, 2) := by decide +kernel
theorem dX0_init_69 : decode cX0_init 69 = .ok (.putfield 38, 3) := by decide +kernel
theorem dX0_init_72 : decode cX0_init 72 = .ok (.aload_n 0, 1) := by decide +kernel
theorem dX0_init_73 : decode cX0_init 73 = .ok (.bipush 80, 2) := by decide +kernel
theorem dX0_init_75 : decode cX0_init 75 = .ok (.newarray .int, 2) := by decide +kernel
theorem dX0_init_77 : decode cX0_init 77 = .ok (.putfield 41, 3) := by decide +kernel
theorem dX0_init_80 : decode cX0_init 80 = .ok (.return_, 1) := by decide +kernel
theorem dX0_coverAll_0 : decode cX0_coverAll 0 = .ok (.aload_n 0, 1) := by decide +kernel
theorem dX0_coverAll_1 : decode cX0_coverAll 1 = .ok (.bipush 8, 2) := by decide +kernel
theorem dX0_coverAll_3 : decode cX0_coverAll 3 = .ok (.putfield 44, 3) := by decide +kernel
theorem dX0_coverAll_6 : decode cX0_coverAll 6 = .ok (.iconst 0, 1) := by decide +kernel
theorem dX0_coverAll_7 : decode cX0_coverAll 7 = .ok (.istore_n 1, 1) := by decide +kernel
theorem dX0_coverAll_8 : decode cX0_coverAll 8 = .ok (.iload_n 1, 1) := by decide +kernel
theorem dX0_coverAll_9 : decode cX0_coverAll 9 = .ok (.aload_n 0, 1) := by decide +kernel
theorem dX0_coverAll_10 : decode cX0_coverAll 10 = .ok (.getfield 9, 3) := by decide +kernel
theorem dX0_coverAll_13 : decode cX0_coverAll 13 = .ok (.getfield 48, 3) := by decide +kernel
theorem dX0_coverAll_16 : decode cX0_coverAll 16 = .ok (.if_icmp .ge 72, 3) := by decide +kernel
theorem dX0_coverAll_19 : decode cX0_coverAll 19 = .ok (.aload_n 0, 1) := by decide +kernel
theorem dX0_coverAll_20 : decode cX0_coverAll 20 = .ok (.getfield 9, 3) := by decide +kernel
theorem dX0_coverAll_23 : decode cX0_coverAll 23 = .ok (.getfield 53, 3) := by decide +kernel
theorem dX0_coverAll_26 : decode cX0_coverAll 26 = .ok (.iload_n 1, 1) := by decide +kernel
theorem dX0_coverAll_27 : decode cX0_coverAll 27 = .ok (.invokestatic 54, 3) := by decide +kernel
theorem dX0_coverAll_30 : decode cX0_coverAll 30 = .ok (.istore_n 2, 1) := by decide +kernel
theorem dX0_coverAll_31 : decode cX0_coverAll 31 = .ok (.aload_n 0, 1) := by decide +kernel
theorem dX0_coverAll_32 : decode cX0_coverAll 32 = .ok (.getfield 26, 3) := by decide +kernel
theorem dX0_coverAll_35 : decode cX0_coverAll 35 = .ok (.iload_n 1, 1) := by decide +kernel
theorem dX0_coverAll_36 : decode cX0_coverAll 36 = .ok (.iconst 0, 1) := by decide +kernel
theorem dX0_coverAll_37 : decode cX0_coverAll 37 = .ok (.invokestatic 58, 3) := by decide +kernel
theorem dX0_coverAll_40 : decode cX0_coverAll 40 = .ok (.iload_n 2, 1) := by decide +kernel
theorem dX0_coverAll_41 : decode cX0_coverAll 41 = .ok (.iconst 2, 1) := by decide +kernel
theorem dX0_coverAll_42 : decode cX0_coverAll 42 = .ok (.if_icmp .ge 12, 3) := by decide +kernel
theorem dX0_coverAll_45 : decode cX0_coverAll 45 = .ok (.aload_n 0, 1) := by decide +kernel
theorem dX0_coverAll_46 : decode cX0_coverAll 46 = .ok (.iload_n 1, 1) := by decide +kernel
theorem dX0_coverAll_47 : decode cX0_coverAll 47 = .ok (.iload_n 2, 1) := by decide +kernel
theorem dX0_coverAll_48 : decode cX0_coverAll 48 = .ok (.invokevirtual 62, 3) := by decide +kernel
theorem dX0_coverAll_51 : decode cX0_coverAll 51 = .ok (.goto 31, 3) := by decide +kernel
theorem dX0_coverAll_54 : decode cX0_coverAll 54 = .ok (.aload_n 0, 1) := by decide +kernel
theorem dX0_coverAll_55 : decode cX0_coverAll 55 = .ok (.iload_n 1, 1) := by decide +kernel
theorem dX0_coverAll_56 : decode cX0_coverAll 56 = .ok (.iload_n 2, 1) := by decide +kernel
theorem dX0_coverAll_57 : decode cX0_coverAll 57 = .ok (.iconst 5, 1) := by decide +kernel
theorem dX0_coverAll_58 : decode cX0_coverAll 58 = .ok (.if_icmp .ne 8, 3) := by decide +kernel
theorem dX0_coverAll_61 : decode cX0_coverAll 61 = .ok (.bipush 9, 2) := by decide +kernel
theorem dX0_coverAll_63 : decode cX0_coverAll 63 = .ok (.goto 4, 3) := by decide +kernel
theorem dX0_coverAll_66 : decode cX0_coverAll 66 = .ok (.iload_n 2, 1) := by decide +kernel
theorem dX0_coverAll_67 : decode cX0_coverAll 67 = .ok (.invokevirtual 66, 3) := by decide +kernel
theorem dX0_coverAll_70 : decode cX0_coverAll 70 = .ok (.aload_n 0, 1) := by decide +kernel
theorem dX0_coverAll_71 : decode cX0_coverAll 71 = .ok (.iload_n 1, 1) := by decide +kernel
theorem dX0_coverAll_72 : decode cX0_coverAll 72 = .ok (.iload_n 2, 1) := by decide +kernel
theorem dX0_coverAll_73 : decode cX0_coverAll 73 = .ok (.invokevirtual 69, 3) := by decide +kernel
theorem dX0_coverAll_76 : decode cX0_coverAll 76 = .ok (.aload_n 0, 1) := by decide +kernel
theorem dX0_coverAll_77 : decode cX0_coverAll 77 = .ok (.iload_n 1, 1) := by decide +kernel
theorem dX0_coverAll_78 : decode cX0_coverAll 78 = .ok (.iload_n 2, 1) := by decide +kernel
theorem dX0_coverAll_79 : decode cX0_coverAll 79 = .ok (.invokevirtual 72, 3) := by decide +kernel
theorem dX0_coverAll_82 : decode cX0_coverAll 82 = .ok (.iinc 1 1, 3) := by decide +kernel
theorem dX0_coverAll_85 : decode cX0_coverAll 85 = .ok (.goto (-77), 3) := by decide +kernel
theorem dX0_coverAll_88 : decode cX0_coverAll 88 = .ok (.return_, 1) := by decide +kernel
theorem dX0_coverLeaf_0 : decode cX0_coverLeaf 0 = .ok (.aload_n 0, 1) := by decide +kernel
theorem dX0_coverLeaf_1 : decode cX0_coverLeaf 1 = .ok (.getfield 29, 3) := by decide +kernel
theorem dX0_coverLeaf_4 : decode cX0_coverLeaf 4 = .ok (.iload_n 1, 1) := by decide +kernel
theorem dX0_coverLeaf_5 : decode cX0_coverLeaf 5 = .ok (.iconst (-1), 1) := by decide +kernel
theorem dX0_coverLeaf_6 : decode cX0_coverLeaf 6 = .ok (.iconst (-1), 1) := by decide +kernel
theorem dX0_coverLeaf_7 : decode cX0_coverLeaf 7 = .ok (.iconst (-1), 1) := by decide +kernel
theorem dX0_coverLeaf_8 : decode cX0_coverLeaf 8 = .ok (.invokestatic 75, 3) := by decide +kernel
theorem dX0_coverLeaf_11 : decode cX0_coverLeaf 11 = .ok (.aload_n 0, 1) := by decide +kernel
theorem dX0_coverLeaf_12 : decode cX0_coverLeaf 12 = .ok (.getfield 32, 3) := by decide +kernel
theorem dX0_coverLeaf_15 : decode cX0_coverLeaf 15 = .ok (.iload_n 1, 1) := by decide +kernel
theorem dX0_coverLeaf_16 : decode cX0_coverLeaf 16 = .ok (.iconst (-1), 1) := by decide +kernel
theorem dX0_coverLeaf_17 : decode cX0_coverLeaf 17 = .ok (.iconst (-1), 1) := by decide +kernel
theorem dX0_coverLeaf_18 : decode cX0_coverLeaf 18 = .ok (.iconst (-1), 1) := by decide +kernel
theorem dX0_coverLeaf_19 : decode cX0_coverLeaf 19 = .ok (.invokestatic 75, 3) := by decide +kernel
theorem dX0_coverLeaf_22 : decode cX0_coverLeaf 22 = .ok (.iload_n 2, 1) := by decide +kernel
theorem dX0_coverLeaf_23 : decode cX0_coverLeaf 23 = .ok (.iconst 1, 1) := by decide +kernel
theorem dX0_coverLeaf_24 : decode cX0_coverLeaf 24 = .ok (.if_icmp .ne 24, 3) := by decide +kernel
theorem dX0_coverLeaf_27 : decode cX0_coverLeaf 27 = .ok (.aload_n 0, 1) := by decide +kernel
theorem dX0_coverLeaf_28 : decode cX0_coverLeaf 28 = .ok (.getfield 23, 3) := by decide +kernel
theorem dX0_coverLeaf_31 : decode cX0_coverLeaf 31 = .ok (.iload_n 1, 1) := by decide +kernel
theorem dX0_coverLeaf_32 : decode cX0_coverLeaf 32 = .ok (.iconst 1, 1) := by decide +kernel
theorem dX0_coverLeaf_33 : decode cX0_coverLeaf 33 = .ok (.invokestatic 58, 3) := by decide +kernel
theorem dX0_coverLeaf_36 : decode cX0_coverLeaf 36 = .ok (.aload_n 0, 1) := by decide +kernel
theorem dX0_coverLeaf_37 : decode cX0_coverLeaf 37 = .ok (.getfield 19, 3) := by decide +kernel
theorem dX0_coverLeaf_40 : decode cX0_coverLeaf 40 = .ok (.iload_n 1, 1) := by decide +kernel
theorem dX0_coverLeaf_41 : decode cX0_coverLeaf 41 = .ok (.iconst 0, 1) := by decide +kernel
theorem dX0_coverLeaf_42 : decode cX0_coverLeaf 42 = .ok (.invokestatic 58, 3) := by decide +kernel
theorem dX0_coverLeaf_45 : decode cX0_coverLeaf 45 = .ok (.goto 47, 3) := by decide +kernel
theorem dX0_coverLeaf_48 : decode cX0_coverLeaf 48 = .ok (.aload_n 0, 1) := by decide +kernel
theorem dX0_coverLeaf_49 : decode cX0_coverLeaf 49 = .ok (.getfield 23, 3) := by decide +kernel
theorem dX0_coverLeaf_52 : decode cX0_coverLeaf 52 = .ok (.iload_n 1, 1) := by decide +kernel
theorem dX0_coverLeaf_53 : decode cX0_coverLeaf 53 = .ok (.iconst 0, 1) := by decide +kernel
theorem dX0_coverLeaf_54 : decode cX0_coverLeaf 54 = .ok (.invokestatic 58, 3) := by decide +kernel
theorem dX0_coverLeaf_57 : decode cX0_coverLeaf 57 = .ok (.aload_n 0, 1) := by decide +kernel
theorem dX0_coverLeaf_58 : decode cX0_coverLeaf 58 = .ok (.getfield 19, 3) := by decide +kernel
theorem dX0_coverLeaf_61 : decode cX0_coverLeaf 61 = .ok (.iload_n 1, 1) := by decide +kernel
theorem dX0_coverLeaf_62 : decode cX0_coverLeaf 62 = .ok (.aload_n 0, 1) := by decide +kernel
theorem dX0_coverLeaf_63 : decode cX0_coverLeaf 63 = .ok (.getfield 15, 3) := by decide +kernel
theorem dX0_coverLeaf_66 : decode cX0_coverLeaf 66 = .ok (.iconst 0, 1) := by decide +kernel
theorem dX0_coverLeaf_67 : decode cX0_coverLeaf 67 = .ok (.invokevirtual 79, 3) := by decide +kernel
theorem dX0_coverLeaf_70 : decode cX0_coverLeaf 70 = .ok (.invokestatic 58, 3) := by decide +kernel
theorem dX0_coverLeaf_73 : decode cX0_coverLeaf 73 = .ok (.aload_n 0, 1) := by decide +kernel
theorem dX0_coverLeaf_74 : decode cX0_coverLeaf 74 = .ok (.getfield 26, 3) := by decide +kernel
theorem dX0_coverLeaf_77 : decode cX0_coverLeaf 77 = .ok (.iload_n 1, 1) := by decide +kernel
theorem dX0_coverLeaf_78 : decode cX0_coverLeaf 78 = .ok (.aload_n 0, 1) := by decide +kernel
theorem dX0_coverLeaf_79 : decode cX0_coverLeaf 79 = .ok (.getfield 9, 3) := by decide +kernel
theorem dX0_coverLeaf_82 : decode cX0_coverLeaf 82 = .ok (.getfield 85, 3) := by decide +kernel
theorem dX0_coverLeaf_85 : decode cX0_coverLeaf 85 = .ok (.iload_n 1, 1) := by decide +kernel
theorem dX0_coverLeaf_86 : decode cX0_coverLeaf 86 = .ok (.invokestatic 54, 3) := by decide +kernel
theorem dX0_coverLeaf_89 : decode cX0_coverLeaf 89 = .ok (.invokestatic 58, 3) := by decide +kernel
theorem dX0_coverLeaf_92 : decode cX0_coverLeaf 92 = .ok (.return_, 1) := by decide +kernel
theorem dX0_coverPlain_0 : decode cX0_coverPlain 0 = .ok (.aload_n 0, 1) := by decide +kernel
theorem dX0_coverPlain_1 : decode cX0_coverPlain 1 = .ok (.getfield 9, 3) := by decide +kernel
theorem dX0_coverPlain_4 : decode cX0_coverPlain 4 = .ok (.getfield 85, 3) := by decide +kernel
theorem dX0_coverPlain_7 : decode cX0_coverPlain 7 = .ok (.iload_n 1, 1) := by decide +kernel
theorem dX0_coverPlain_8 : decode cX0_coverPlain 8 = .ok (.invokestatic 54, 3) := by decide +kernel
theorem dX0_coverPlain_11 : decode cX0_coverPlain 11 = .ok (.istore_n 3, 1) := by decide +kernel
theorem dX0_coverPlain_12 : decode cX0_coverPlain 12 = .ok (.aload_n 0, 1) := by decide +kernel
theorem dX0_coverPlain_13 : decode cX0_coverPlain 13 = .ok (.getfield 9, 3) := by decide +kernel
theorem dX0_coverPlain_16 : decode cX0_coverPlain 16 = .ok (.getfield 88, 3) := by decide +kernel
theorem dX0_coverPlain_19 : decode cX0_coverPlain 19 = .ok (.iload_n 1, 1) := by decide +kernel
theorem dX0_coverPlain_20 : decode cX0_coverPlain 20 = .ok (.invokestatic 54, 3) := by decide +kernel
theorem dX0_coverPlain_23 : decode cX0_coverPlain 23 = .ok (.istore 4, 2) := by decide +kernel
theorem dX0_coverPlain_25 : decode cX0_coverPlain 25 = .ok (.aload_n 0, 1) := by decide +kernel
theorem dX0_coverPlain_26 : decode cX0_coverPlain 26 = .ok (.getfield 23, 3) := by decide +kernel
theorem dX0_coverPlain_29 : decode cX0_coverPlain 29 = .ok (.iload_n 1, 1) := by decide +kernel
theorem dX0_coverPlain_30 : decode cX0_coverPlain 30 = .ok (.iload_n 2, 1) := by decide +kernel
theorem dX0_coverPlain_31 : decode cX0_coverPlain 31 = .ok (.invokestatic 58, 3) := by decide +kernel
theorem dX0_coverPlain_34 : decode cX0_coverPlain 34 = .ok (.aload_n 0, 1) := by decide +kernel
theorem dX0_coverPlain_35 : decode cX0_coverPlain 35 = .ok (.getfield 19, 3) := by decide +kernel
theorem dX0_coverPlain_38 : decode cX0_coverPlain 38 = .ok (.iload_n 1, 1) := by decide +kernel
theorem dX0_coverPlain_39 : decode cX0_coverPlain 39 = .ok (.aload_n 0, 1) := by decide +kernel
theorem dX0_coverPlain_40 : decode cX0_coverPlain 40 = .ok (.getfield 15, 3) := by decide +kernel
theorem dX0_coverPlain_43 : decode cX0_coverPlain 43 = .ok (.iload_n 2, 1) := by decide +kernel
theorem dX0_coverPlain_44 : decode cX0_coverPlain 44 = .ok (.invokevirtual 79, 3) := by decide +kernel
theorem dX0_coverPlain_47 : decode cX0_coverPlain 47 = .ok (.aload_n 0, 1) := by decide +kernel
theorem dX0_coverPlain_48 : decode cX0_coverPlain 48 = .ok (.getfield 19, 3) := by decide +kernel
theorem dX0_coverPlain_51 : decode cX0_coverPlain 51 = .ok (.iload_n 3, 1) := by decide +kernel
theorem dX0_coverPlain_52 : decode cX0_coverPlain 52 = .ok (.invokestatic 54, 3) := by decide +kernel
theorem dX0_coverPlain_55 : decode cX0_coverPlain 55 = .ok (.iadd, 1) := by decide +kernel
theorem dX0_coverPlain_56 : decode cX0_coverPlain 56 = .ok (.aload_n 0, 1) := by decide +kernel
theorem dX0_coverPlain_57 : decode cX0_coverPlain 57 = .ok (.getfield 19, 3) := by decide +kernel
theorem dX0_coverPlain_60 : decode cX0_coverPlain 60 = .ok (.iload 4, 2) := by decide +kernel
theorem dX0_coverPlain_62 : decode cX0_coverPlain 62 = .ok (.invokestatic 54, 3) := by decide +kernel
theorem dX0_coverPlain_65 : decode cX0_coverPlain 65 = .ok (.iadd, 1) := by decide +kernel
theorem dX0_coverPlain_66 : decode cX0_coverPlain 66 = .ok (.invokestatic 58, 3) := by decide +kernel
theorem dX0_coverPlain_69 : decode cX0_coverPlain 69 = .ok (.aload_n 0, 1) := by decide +kernel
theorem dX0_coverPlain_70 : decode cX0_coverPlain 70 = .ok (.getfield 29, 3) := by decide +kernel
theorem dX0_coverPlain_73 : decode cX0_coverPlain 73 = .ok (.iload_n 1, 1) := by decide +kernel
theorem dX0_coverPlain_74 : decode cX0_coverPlain 74 = .ok (.iload_n 3, 1) := by decide +kernel
theorem dX0_coverPlain_75 : decode cX0_coverPlain 75 = .ok (.iload 4, 2) := by decide +kernel
theorem dX0_coverPlain_77 : decode cX0_coverPlain 77 = .ok (.iconst (-1), 1) := by decide +kernel
theorem dX0_coverPlain_78 : decode cX0_coverPlain 78 = .ok (.invokestatic 75, 3) := by decide +kernel
theorem dX0_coverPlain_81 : decode cX0_coverPlain 81 = .ok (.aload_n 0, 1) := by decide +kernel
theorem dX0_coverPlain_82 : decode cX0_coverPlain 82 = .ok (.getfield 32, 3) := by decide +kernel
theorem dX0_coverPlain_85 : decode cX0_coverPlain 85 = .ok (.iload_n 1, 1) := by decide +kernel
theorem dX0_coverPlain_86 : decode cX0_coverPlain 86 = .ok (.iload_n 3, 1) := by decide +kernel
theorem dX0_coverPlain_87 : decode cX0_coverPlain 87 = .ok (.iload 4, 2) := by decide +kernel
theorem dX0_coverPlain_89 : decode cX0_coverPlain 89 = .ok (.iconst (-1), 1) := by decide +kernel
theorem dX0_coverPlain_90 : decode cX0_coverPlain 90 = .ok (.invokestatic 75, 3) := by decide +kernel
theorem dX0_coverPlain_93 : decode cX0_coverPlain 93 = .ok (.return_, 1) := by decide +kernel
theorem dX0_coverSmall_0 : decode cX0_coverSmall 0 = .ok (.aload_n 0, 1) := by decide +kernel
theorem dX0_coverSmall_1 : decode cX0_coverSmall 1 = .ok (.getfield 9, 3) := by decide +kernel
theorem dX0_coverSmall_4 : decode cX0_coverSmall 4 = .ok (.getfield 85, 3) := by decide +kernel
theorem dX0_coverSmall_7 : decode cX0_coverSmall 7 = .ok (.iload_n 1, 1) := by decide +kernel
theorem dX0_coverSmall_8 : decode cX0_coverSmall 8 = .ok (.invokestatic 54, 3) := by decide +kernel
theorem dX0_coverSmall_11 : decode cX0_coverSmall 11 = .ok (.istore_n 3, 1) := by decide +kernel
theorem dX0_coverSmall_12 : decode cX0_coverSmall 12 = .ok (.aload_n 0, 1) := by decide +kernel
theorem dX0_coverSmall_13 : decode cX0_coverSmall 13 = .ok (.getfield 9, 3) := by decide +kernel
theorem dX0_coverSmall_16 : decode cX0_coverSmall 16 = .ok (.getfield 88, 3) := by decide +kernel
theorem dX0_coverSmall_19 : decode cX0_coverSmall 19 = .ok (.iload_n 1, 1) := by decide +kernel
theorem dX0_coverSmall_20 : decode cX0_coverSmall 20 = .ok (.invokestatic 54, 3) := by decide +kernel
theorem dX0_coverSmall_23 : decode cX0_coverSmall 23 = .ok (.istore 4, 2) := by decide +kernel
theorem dX0_coverSmall_25 : decode cX0_coverSmall 25 = .ok (.iload_n 2, 1) := by decide +kernel
theorem dX0_coverSmall_26 : decode cX0_coverSmall 26 = .ok (.iconst 2, 1) := by decide +kernel
theorem dX0_coverSmall_27 : decode cX0_coverSmall 27 = .ok (.if_icmp .eq 8, 3) := by decide +kernel
theorem dX0_coverSmall_30 : decode cX0_coverSmall 30 = .ok (.iload_n 2, 1) := by decide +kernel
theorem dX0_coverSmall_31 : decode cX0_coverSmall 31 = .ok (.iconst 3, 1) := by decide +kernel
theorem dX0_coverSmall_32 : decode cX0_coverSmall 32 = .ok (.if_icmp .ne 16, 3) := by decide +kernel
theorem dX0_coverSmall_35 : decode cX0_coverSmall 35 = .ok (.aload_n 0, 1) := by decide +kernel
theorem dX0_coverSmall_36 : decode cX0_coverSmall 36 = .ok (.iload 4, 2) := by decide +kernel
theorem dX0_coverSmall_38 : decode cX0_coverSmall 38 = .ok (.invokevirtual 91, 3) := by decide +kernel
theorem dX0_coverSmall_41 : decode cX0_coverSmall 41 = .ok (.ifCond .eq 7, 3) := by decide +kernel
theorem dX0_coverSmall_44 : decode cX0_coverSmall 44 = .ok (.iconst 1, 1) := by decide +kernel
theorem dX0_coverSmall_45 : decode cX0_coverSmall 45 = .ok (.goto 4, 3) := by decide +kernel
theorem dX0_coverSmall_48 : decode cX0_coverSmall 48 = .ok (.iconst 0, 1) := by decide +kernel
theorem dX0_coverSmall_49 : decode cX0_coverSmall 49 = .ok (.istore 5, 2) := by decide +kernel
theorem dX0_coverSmall_51 : decode cX0_coverSmall 51 = .ok (.iload 5, 2) := by decide +kernel
theorem dX0_coverSmall_53 : decode cX0_coverSmall 53 = .ok (.ifCond .ne 17, 3) := by decide +kernel
theorem dX0_coverSmall_56 : decode cX0_coverSmall 56 = .ok (.iload_n 2, 1) := by decide +kernel
theorem dX0_coverSmall_57 : decode cX0_coverSmall 57 = .ok (.iconst 2, 1) := by decide +kernel
theorem dX0_coverSmall_58 : decode cX0_coverSmall 58 = .ok (.if_icmp .ne 11, 3) := by decide +kernel
theorem dX0_coverSmall_61 : decode cX0_coverSmall 61 = .ok (.aload_n 0, 1) := by decide +kernel
theorem dX0_coverSmall_62 : decode cX0_coverSmall 62 = .ok (.iload_n 3, 1) := by decide +kernel
theorem dX0_coverSmall_63 : decode cX0_coverSmall 63 = .ok (.invokevirtual 91, 3) := by decide +kernel
theorem dX0_coverSmall_66 : decode cX0_coverSmall 66 = .ok (.ifCond .ne 4, 3) := by decide +kernel
theorem dX0_coverSmall_69 : decode cX0_coverSmall 69 = .ok (.return_, 1) := by decide +kernel
theorem dX0_coverSmall_70 : decode cX0_coverSmall 70 = .ok (.iload 5, 2) := by decide +kernel
theorem dX0_coverSmall_72 : decode cX0_coverSmall 72 = .ok (.ifCond .eq 7, 3) := by decide +kernel
theorem dX0_coverSmall_75 : decode cX0_coverSmall 75 = .ok (.iload_n 3, 1) := by decide +kernel
theorem dX0_coverSmall_76 : decode cX0_coverSmall 76 = .ok (.goto 5, 3) := by decide +kernel
theorem dX0_coverSmall_79 : decode cX0_coverSmall 79 = .ok (.iload 4, 2) := by decide +kernel
theorem dX0_coverSmall_81 : decode cX0_coverSmall 81 = .ok (.istore 6, 2) := by decide +kernel
theorem dX0_coverSmall_83 : decode cX0_coverSmall 83 = .ok (.aload_n 0, 1) := by decide +kernel
theorem dX0_coverSmall_84 : decode cX0_coverSmall 84 = .ok (.getfield 15, 3) := by decide +kernel
theorem dX0_coverSmall_87 : decode cX0_coverSmall 87 = .ok (.iconst 5, 1) := by decide +kernel
theorem dX0_coverSmall_88 : decode cX0_coverSmall 88 = .ok (.invokevirtual 79, 3) := by decide +kernel
theorem dX0_coverSmall_91 : decode cX0_coverSmall 91 = .ok (.aload_n 0, 1) := by decide +kernel
theorem dX0_coverSmall_92 : decode cX0_coverSmall 92 = .ok (.getfield 19, 3) := by decide +kernel
theorem dX0_coverSmall_95 : decode cX0_coverSmall 95 = .ok (.iload 6, 2) := by decide +kernel
theorem dX0_coverSmall_97 : decode cX0_coverSmall 97 = .ok (.invokestatic 54, 3) := by decide +kernel
theorem dX0_coverSmall_100 : decode cX0_coverSmall 100 = .ok (.iadd, 1) := by decide +kernel
theorem dX0_coverSmall_101 : decode cX0_coverSmall 101 = .ok (.istore 7, 2) := by decide +kernel
theorem dX0_coverSmall_103 : decode cX0_coverSmall 103 = .ok (.iload 7, 2) := by decide +kernel
theorem dX0_coverSmall_105 : decode cX0_coverSmall 105 = .ok (.aload_n 0, 1) := by decide +kernel
theorem dX0_coverSmall_106 : decode cX0_coverSmall 106 = .ok (.getfield 19, 3) := by decide +kernel
theorem dX0_coverSmall_109 : decode cX0_coverSmall 109 = .ok (.iload_n 1, 1) := by decide +kernel
theorem dX0_coverSmall_110 : decode cX0_coverSmall 110 = .ok (.invokestatic 54, 3) := by decide +kernel
theorem dX0_coverSmall_113 : decode cX0_coverSmall 113 = .ok (.if_icmp .ge 90, 3) := by decide +kernel
theorem dX0_coverSmall_116 : decode cX0_coverSmall 116 = .ok (.aload_n 0, 1) := by decide +kernel
theorem dX0_coverSmall_117 : decode cX0_coverSmall 117 = .ok (.getfield 9, 3) := by decide +kernel
theorem dX0_coverSmall_120 : decode cX0_coverSmall 120 = .ok (.getfield 85, 3) := by decide +kernel
theorem dX0_coverSmall_123 : decode cX0_coverSmall 123 = .ok (.iload 5, 2) := by decide +kernel
theorem dX0_coverSmall_125 : decode cX0_coverSmall 125 = .ok (.ifCond .eq 8, 3) := by decide +kernel
theorem dX0_coverSmall_128 : decode cX0_coverSmall 128 = .ok (.iload 4, 2) := by decide +kernel
theorem dX0_coverSmall_130 : decode cX0_coverSmall 130 = .ok (.goto 4, 3) := by decide +kernel
theorem dX0_coverSmall_133 : decode cX0_coverSmall 133 = .ok (.iload_n 3, 1) := by decide +kernel
theorem dX0_coverSmall_134 : decode cX0_coverSmall 134 = .ok (.invokestatic 54, 3) := by decide +kernel
theorem dX0_coverSmall_137 : decode cX0_coverSmall 137 = .ok (.istore 8, 2) := by decide +kernel
theorem dX0_coverSmall_139 : decode cX0_coverSmall 139 = .ok (.aload_n 0, 1) := by decide +kernel
theorem dX0_coverSmall_140 : decode cX0_coverSmall 140 = .ok (.getfield 23, 3) := by decide +kernel
theorem dX0_coverSmall_143 : decode cX0_coverSmall 143 = .ok (.iload_n 1, 1) := by decide +kernel
theorem dX0_coverSmall_144 : decode cX0_coverSmall 144 = .ok (.iconst 5, 1) := by decide +kernel
theorem dX0_coverSmall_145 : decode cX0_coverSmall 145 = .ok (.invokestatic 58, 3) := by decide +kernel
theorem dX0_coverSmall_148 : decode cX0_coverSmall 148 = .ok (.aload_n 0, 1) := by decide +kernel
theorem dX0_coverSmall_149 : decode cX0_coverSmall 149 = .ok (.getfield 19, 3) := by decide +kernel
theorem dX0_coverSmall_152 : decode cX0_coverSmall 152 = .ok (.iload_n 1, 1) := by decide +kernel
theorem dX0_coverSmall_153 : decode cX0_coverSmall 153 = .ok (.iload 7, 2) := by decide +kernel
theorem dX0_coverSmall_155 : decode cX0_coverSmall 155 = .ok (.invokestatic 58, 3) := by decide +kernel
theorem dX0_coverSmall_158 : decode cX0_coverSmall 158 = .ok (.aload_n 0, 1) := by decide +kernel
theorem dX0_coverSmall_159 : decode cX0_coverSmall 159 = .ok (.getfield 26, 3) := by decide +kernel
theorem dX0_coverSmall_162 : decode cX0_coverSmall 162 = .ok (.iload_n 1, 1) := by decide +kernel
theorem dX0_coverSmall_163 : decode cX0_coverSmall 163 = .ok (.iload_n 2, 1) := by decide +kernel
theorem dX0_coverSmall_164 : decode cX0_coverSmall 164 = .ok (.iconst 3, 1) := by decide +kernel
theorem dX0_coverSmall_165 : decode cX0_coverSmall 165 = .ok (.if_icmp .ne 9, 3) := by decide +kernel
theorem dX0_coverSmall_168 : decode cX0_coverSmall 168 = .ok (.iload 8, 2) := by decide +kernel
theorem dX0_coverSmall_170 : decode cX0_coverSmall 170 = .ok (.ineg, 1) := by decide +kernel
theorem dX0_coverSmall_171 : decode cX0_coverSmall 171 = .ok (.goto 5, 3) := by decide +kernel
theorem dX0_coverSmall_174 : decode cX0_coverSmall 174 = .ok (.iload 8, 2) := by decide +kernel
theorem dX0_coverSmall_176 : decode cX0_coverSmall 176 = .ok (.invokestatic 58, 3) := by decide +kernel
theorem dX0_coverSmall_179 : decode cX0_coverSmall 179 = .ok (.aload_n 0, 1) := by decide +kernel
theorem dX0_coverSmall_180 : decode cX0_coverSmall 180 = .ok (.getfield 29, 3) := by decide +kernel
theorem dX0_coverSmall_183 : decode cX0_coverSmall 183 = .ok (.iload_n 1, 1) := by decide +kernel
theorem dX0_coverSmall_184 : decode cX0_coverSmall 184 = .ok (.iload 6, 2) := by decide +kernel
theorem dX0_coverSmall_186 : decode cX0_coverSmall 186 = .ok (.iconst (-1), 1) := by decide +kernel
theorem dX0_coverSmall_187 : decode cX0_coverSmall 187 = .ok (.iconst (-1), 1) := by decide +kernel
theorem dX0_coverSmall_188 : decode cX0_coverSmall 188 = .ok (.invokestatic 75, 3) := by decide +kernel
theorem dX0_coverSmall_191 : decode cX0_coverSmall 191 = .ok (.aload_n 0, 1) := by decide +kernel
theorem dX0_coverSmall_192 : decode cX0_coverSmall 192 = .ok (.getfield 32, 3) := by decide +kernel
theorem dX0_coverSmall_195 : decode cX0_coverSmall 195 = .ok (.iload_n 1, 1) := by decide +kernel
theorem dX0_coverSmall_196 : decode cX0_coverSmall 196 = .ok (.iload 6, 2) := by decide +kernel
theorem dX0_coverSmall_198 : decode cX0_coverSmall 198 = .ok (.iconst (-1), 1) := by decide +kernel
theorem dX0_coverSmall_199 : decode cX0_coverSmall 199 = .ok (.iconst (-1), 1) := by decide +kernel
theorem dX0_coverSmall_200 : decode cX0_coverSmall 200 = .ok (.invokestatic 75, 3) := by decide +kernel
theorem dX0_coverSmall_203 : decode cX0_coverSmall 203 = .ok (.return_, 1) := by decide +kernel
theorem dX0_isSmall_0 : decode cX0_isSmall 0 = .ok (.aload_n 0, 1) := by decide +kernel
theorem dX0_isSmall_1 : decode cX0_isSmall 1 = .ok (.getfield 9, 3) := by decide +kernel
theorem dX0_isSmall_4 : decode cX0_isSmall 4 = .ok (.getfield 85, 3) := by decide +kernel
theorem dX0_isSmall_7 : decode cX0_isSmall 7 = .ok (.iload_n 1, 1) := by decide +kernel
theorem dX0_isSmall_8 : decode cX0_isSmall 8 = .ok (.invokestatic 54, 3) := by decide +kernel
theorem dX0_isSmall_11 : decode cX0_isSmall 11 = .ok (.istore_n 2, 1) := by decide +kernel
theorem dX0_isSmall_12 : decode cX0_isSmall 12 = .ok (.aload_n 0, 1) := by decide +kernel
theorem dX0_isSmall_13 : decode cX0_isSmall 13 = .ok (.getfield 9, 3) := by decide +kernel
theorem dX0_isSmall_16 : decode cX0_isSmall 16 = .ok (.getfield 53, 3) := by decide +kernel
theorem dX0_isSmall_19 : decode cX0_isSmall 19 = .ok (.iload_n 1, 1) := by decide +kernel
theorem dX0_isSmall_20 : decode cX0_isSmall 20 = .ok (.invokestatic 54, 3) := by decide +kernel
theorem dX0_isSmall_23 : decode cX0_isSmall 23 = .ok (.ifCond .ne 30, 3) := by decide +kernel
theorem dX0_isSmall_26 : decode cX0_isSmall 26 = .ok (.iload_n 2, 1) := by decide +kernel
theorem dX0_isSmall_27 : decode cX0_isSmall 27 = .ok (.aload_n 0, 1) := by decide +kernel
theorem dX0_isSmall_28 : decode cX0_isSmall 28 = .ok (.getfield 15, 3) := by decide +kernel
theorem dX0_isSmall_31 : decode cX0_isSmall 31 = .ok (.getfield 95, 3) := by decide +kernel
theorem dX0_isSmall_34 : decode cX0_isSmall 34 = .ok (.ineg, 1) := by decide +kernel
theorem dX0_isSmall_35 : decode cX0_isSmall 35 = .ok (.if_icmp .lt 18, 3) := by decide +kernel
theorem dX0_isSmall_38 : decode cX0_isSmall 38 = .ok (.iload_n 2, 1) := by decide +kernel
theorem dX0_isSmall_39 : decode cX0_isSmall 39 = .ok (.aload_n 0, 1) := by decide +kernel
theorem dX0_isSmall_40 : decode cX0_isSmall 40 = .ok (.getfield 15, 3) := by decide +kernel
theorem dX0_isSmall_43 : decode cX0_isSmall 43 = .ok (.getfield 95, 3) := by decide +kernel
theorem dX0_isSmall_46 : decode cX0_isSmall 46 = .ok (.if_icmp .gt 7, 3) := by decide +kernel
theorem dX0_isSmall_49 : decode cX0_isSmall 49 = .ok (.iconst 1, 1) := by decide +kernel
theorem dX0_isSmall_50 : decode cX0_isSmall 50 = .ok (.goto 4, 3) := by decide +kernel
theorem dX0_isSmall_53 : decode cX0_isSmall 53 = .ok (.iconst 0, 1) := by decide +kernel
theorem dX0_isSmall_54 : decode cX0_isSmall 54 = .ok (.ireturn, 1) := by decide +kernel
theorem dX0_coverFused_0 : decode cX0_coverFused 0 = .ok (.aload_n 0, 1) := by decide +kernel
theorem dX0_coverFused_1 : decode cX0_coverFused 1 = .ok (.getfield 9, 3) := by decide +kernel
theorem dX0_coverFused_4 : decode cX0_coverFused 4 = .ok (.getfield 85, 3) := by decide +kernel
theorem dX0_coverFused_7 : decode cX0_coverFused 7 = .ok (.iload_n 1, 1) := by decide +kernel
theorem dX0_coverFused_8 : decode cX0_coverFused 8 = .ok (.invokestatic 54, 3) := by decide +kernel
theorem dX0_coverFused_11 : decode cX0_coverFused 11 = .ok (.istore_n 3, 1) := by decide +kernel
theorem dX0_coverFused_12 : decode cX0_coverFused 12 = .ok (.aload_n 0, 1) := by decide +kernel
theorem dX0_coverFused_13 : decode cX0_coverFused 13 = .ok (.getfield 9, 3) := by decide +kernel
theorem dX0_coverFused_16 : decode cX0_coverFused 16 = .ok (.getfield 88, 3) := by decide +kernel
theorem dX0_coverFused_19 : decode cX0_coverFused 19 = .ok (.iload_n 1, 1) := by decide +kernel
theorem dX0_coverFused_20 : decode cX0_coverFused 20 = .ok (.invokestatic 54, 3) := by decide +kernel
theorem dX0_coverFused_23 : decode cX0_coverFused 23 = .ok (.istore 4, 2) := by decide +kernel
theorem dX0_coverFused_25 : decode cX0_coverFused 25 = .ok (.aload_n 0, 1) := by decide +kernel
theorem dX0_coverFused_26 : decode cX0_coverFused 26 = .ok (.getfield 9, 3) := by decide +kernel
theorem dX0_coverFused_29 : decode cX0_coverFused 29 = .ok (.getfield 53, 3) := by decide +kernel
theorem dX0_coverFused_32 : decode cX0_coverFused 32 = .ok (.iload_n 3, 1) := by decide +kernel
theorem dX0_coverFused_33 : decode cX0_coverFused 33 = .ok (.invokestatic 54, 3) := by decide +kernel
theorem dX0_coverFused_36 : decode cX0_coverFused 36 = .ok (.iconst 4, 1) := by decide +kernel
theorem dX0_coverFused_37 : decode cX0_coverFused 37 = .ok (.if_icmp .ne 7, 3) := by decide +kernel
theorem dX0_coverFused_40 : decode cX0_coverFused 40 = .ok (.iconst 1, 1) := by decide +kernel
theorem dX0_coverFused_41 : decode cX0_coverFused 41 = .ok (.goto 4, 3) := by decide +kernel
theorem dX0_coverFused_44 : decode cX0_coverFused 44 = .ok (.iconst 0, 1) := by decide +kernel
theorem dX0_coverFused_45 : decode cX0_coverFused 45 = .ok (.istore 5, 2) := by decide +kernel
theorem dX0_coverFused_47 : decode cX0_coverFused 47 = .ok (.aload_n 0, 1) := by decide +kernel
theorem dX0_coverFused_48 : decode cX0_coverFused 48 = .ok (.getfield 15, 3) := by decide +kernel
theorem dX0_coverFused_51 : decode cX0_coverFused 51 = .ok (.getfield 98, 3) := by decide +kernel
theorem dX0_coverFused_54 : decode cX0_coverFused 54 = .ok (.ifCond .eq 29, 3) := by decide +kernel
theorem dX0_coverFused_57 : decode cX0_coverFused 57 = .ok (.iload_n 2, 1) := by decide +kernel
theorem dX0_coverFused_58 : decode cX0_coverFused 58 = .ok (.iconst 2, 1) := by decide +kernel
theorem dX0_coverFused_59 : decode cX0_coverFused 59 = .ok (.if_icmp .ne 24, 3) := by decide +kernel
theorem dX0_coverFused_62 : decode cX0_coverFused 62 = .ok (.iload 5, 2) := by decide +kernel
theorem dX0_coverFused_64 : decode cX0_coverFused 64 = .ok (.ifCond .ne 20, 3) := by decide +kernel
theorem dX0_coverFused_67 : decode cX0_coverFused 67 = .ok (.aload_n 0, 1) := by decide +kernel
theorem dX0_coverFused_68 : decode cX0_coverFused 68 = .ok (.getfield 9, 3) := by decide +kernel
theorem dX0_coverFused_71 : decode cX0_coverFused 71 = .ok (.getfield 53, 3) := by decide +kernel
theorem dX0_coverFused_74 : decode cX0_coverFused 74 = .ok (.iload 4, 2) := by decide +kernel
theorem dX0_coverFused_76 : decode cX0_coverFused 76 = .ok (.invokestatic 54, 3) := by decide +kernel
theorem dX0_coverFused_79 : decode cX0_coverFused 79 = .ok (.iconst 4, 1) := by decide +kernel
theorem dX0_coverFused_80 : decode cX0_coverFused 80 = .ok (.if_icmp .eq 4, 3) := by decide +kernel
theorem dX0_coverFused_83 : decode cX0_coverFused 83 = .ok (.return_, 1) := by decide +kernel
theorem dX0_coverFused_84 : decode cX0_coverFused 84 = .ok (.aload_n 0, 1) := by decide +kernel
theorem dX0_coverFused_85 : decode cX0_coverFused 85 = .ok (.getfield 9, 3) := by decide +kernel
theorem dX0_coverFused_88 : decode cX0_coverFused 88 = .ok (.getfield 85, 3) := by decide +kernel
theorem dX0_coverFused_91 : decode cX0_coverFused 91 = .ok (.iload 5, 2) := by decide +kernel
theorem dX0_coverFused_93 : decode cX0_coverFused 93 = .ok (.ifCond .eq 7, 3) := by decide +kernel
theorem dX0_coverFused_96 : decode cX0_coverFused 96 = .ok (.iload_n 3, 1) := by decide +kernel
theorem dX0_coverFused_97 : decode cX0_coverFused 97 = .ok (.goto 5, 3) := by decide +kernel
theorem dX0_coverFused_100 : decode cX0_coverFused 100 = .ok (.iload 4, 2) := by decide +kernel
theorem dX0_coverFused_102 : decode cX0_coverFused 102 = .ok (.invokestatic 54, 3) := by decide +kernel
theorem dX0_coverFused_105 : decode cX0_coverFused 105 = .ok (.istore 6, 2) := by decide +kernel
theorem dX0_coverFused_107 : decode cX0_coverFused 107 = .ok (.aload_n 0, 1) := by decide +kernel
theorem dX0_coverFused_108 : decode cX0_coverFused 108 = .ok (.getfield 9, 3) := by decide +kernel
theorem dX0_coverFused_111 : decode cX0_coverFused 111 = .ok (.getfield 88, 3) := by decide +kernel
theorem dX0_coverFused_114 : decode cX0_coverFused 114 = .ok (.iload 5, 2) := by decide +kernel
theorem dX0_coverFused_116 : decode cX0_coverFused 116 = .ok (.ifCond .eq 7, 3) := by decide +kernel
theorem dX0_coverFused_119 : decode cX0_coverFused 119 = .ok (.iload_n 3, 1) := by decide +kernel
theorem dX0_coverFused_120 : decode cX0_coverFused 120 = .ok (.goto 5, 3) := by decide +kernel
theorem dX0_coverFused_123 : decode cX0_coverFused 123 = .ok (.iload 4, 2) := by decide +kernel
theorem dX0_coverFused_125 : decode cX0_coverFused 125 = .ok (.invokestatic 54, 3) := by decide +kernel
theorem dX0_coverFused_128 : decode cX0_coverFused 128 = .ok (.istore 7, 2) := by decide +kernel
theorem dX0_coverFused_130 : decode cX0_coverFused 130 = .ok (.iload 5, 2) := by decide +kernel
theorem dX0_coverFused_132 : decode cX0_coverFused 132 = .ok (.ifCond .eq 8, 3) := by decide +kernel
theorem dX0_coverFused_135 : decode cX0_coverFused 135 = .ok (.iload 4, 2) := by decide +kernel
theorem dX0_coverFused_137 : decode cX0_coverFused 137 = .ok (.goto 4, 3) := by decide +kernel
theorem dX0_coverFused_140 : decode cX0_coverFused 140 = .ok (.iload_n 3, 1) := by decide +kernel
theorem dX0_coverFused_141 : decode cX0_coverFused 141 = .ok (.istore 8, 2) := by decide +kernel
theorem dX0_coverFused_143 : decode cX0_coverFused 143 = .ok (.aload_n 0, 1) := by decide +kernel
theorem dX0_coverFused_144 : decode cX0_coverFused 144 = .ok (.getfield 15, 3) := by decide +kernel
theorem dX0_coverFused_147 : decode cX0_coverFused 147 = .ok (.bipush 6, 2) := by decide +kernel
theorem dX0_coverFused_149 : decode cX0_coverFused 149 = .ok (.invokevirtual 79, 3) := by decide +kernel
theorem dX0_coverFused_152 : decode cX0_coverFused 152 = .ok (.aload_n 0, 1) := by decide +kernel
theorem dX0_coverFused_153 : decode cX0_coverFused 153 = .ok (.getfield 19, 3) := by decide +kernel
theorem dX0_coverFused_156 : decode cX0_coverFused 156 = .ok (.iload 6, 2) := by decide +kernel
theorem dX0_coverFused_158 : decode cX0_coverFused 158 = .ok (.invokestatic 54, 3) := by decide +kernel
theorem dX0_coverFused_161 : decode cX0_coverFused 161 = .ok (.iadd, 1) := by decide +kernel
theorem dX0_coverFused_162 : decode cX0_coverFused 162 = .ok (.aload_n 0, 1) := by decide +kernel
theorem dX0_coverFused_163 : decode cX0_coverFused 163 = .ok (.getfield 19, 3) := by decide +kernel
theorem dX0_coverFused_166 : decode cX0_coverFused 166 = .ok (.iload 7, 2) := by decide +kernel
theorem dX0_coverFused_168 : decode cX0_coverFused 168 = .ok (.invokestatic 54, 3) := by decide +kernel
theorem dX0_coverFused_171 : decode cX0_coverFused 171 = .ok (.iadd, 1) := by decide +kernel
theorem dX0_coverFused_172 : decode cX0_coverFused 172 = .ok (.aload_n 0, 1) := by decide +kernel
theorem dX0_coverFused_173 : decode cX0_coverFused 173 = .ok (.getfield 19, 3) := by decide +kernel
theorem dX0_coverFused_176 : decode cX0_coverFused 176 = .ok (.iload 8, 2) := by decide +kernel
theorem dX0_coverFused_178 : decode cX0_coverFused 178 = .ok (.invokestatic 54, 3) := by decide +kernel
theorem dX0_coverFused_181 : decode cX0_coverFused 181 = .ok (.iadd, 1) := by decide +kernel
theorem dX0_coverFused_182 : decode cX0_coverFused 182 = .ok (.istore 9, 2) := by decide +kernel
theorem dX0_coverFused_184 : decode cX0_coverFused 184 = .ok (.iload 9, 2) := by decide +kernel
theorem dX0_coverFused_186 : decode cX0_coverFused 186 = .ok (.aload_n 0, 1) := by decide +kernel
theorem dX0_coverFused_187 : decode cX0_coverFused 187 = .ok (.getfield 19, 3) := by decide +kernel
theorem dX0_coverFused_190 : decode cX0_coverFused 190 = .ok (.iload_n 1, 1) := by decide +kernel
theorem dX0_coverFused_191 : decode cX0_coverFused 191 = .ok (.invokestatic 54, 3) := by decide +kernel
theorem dX0_coverFused_194 : decode cX0_coverFused 194 = .ok (.if_icmp .ge 82, 3) := by decide +kernel
theorem dX0_coverFused_197 : decode cX0_coverFused 197 = .ok (.aload_n 0, 1) := by decide +kernel
theorem dX0_coverFused_198 : decode cX0_coverFused 198 = .ok (.getfield 23, 3) := by decide +kernel
theorem dX0_coverFused_201 : decode cX0_coverFused 201 = .ok (.iload_n 1, 1) := by decide +kernel
theorem dX0_coverFused_202 : decode cX0_coverFused 202 = .ok (.bipush 6, 2) := by decide +kernel
theorem dX0_coverFused_204 : decode cX0_coverFused 204 = .ok (.invokestatic 58, 3) := by decide +kernel
theorem dX0_coverFused_207 : decode cX0_coverFused 207 = .ok (.aload_n 0, 1) := by decide +kernel
theorem dX0_coverFused_208 : decode cX0_coverFused 208 = .ok (.getfield 19, 3) := by decide +kernel
theorem dX0_coverFused_211 : decode cX0_coverFused 211 = .ok (.iload_n 1, 1) := by decide +kernel
theorem dX0_coverFused_212 : decode cX0_coverFused 212 = .ok (.iload 9, 2) := by decide +kernel
theorem dX0_coverFused_214 : decode cX0_coverFused 214 = .ok (.invokestatic 58, 3) := by decide +kernel
theorem dX0_coverFused_217 : decode cX0_coverFused 217 = .ok (.aload_n 0, 1) := by decide +kernel
theorem dX0_coverFused_218 : decode cX0_coverFused 218 = .ok (.getfield 26, 3) := by decide +kernel
theorem dX0_coverFused_221 : decode cX0_coverFused 221 = .ok (.iload_n 1, 1) := by decide +kernel
theorem dX0_coverFused_222 : decode cX0_coverFused 222 = .ok (.iconst 0, 1) := by decide +kernel
theorem dX0_coverFused_223 : decode cX0_coverFused 223 = .ok (.invokestatic 58, 3) := by decide +kernel
theorem dX0_coverFused_226 : decode cX0_coverFused 226 = .ok (.aload_n 0, 1) := by decide +kernel
theorem dX0_coverFused_227 : decode cX0_coverFused 227 = .ok (.getfield 29, 3) := by decide +kernel
theorem dX0_coverFused_230 : decode cX0_coverFused 230 = .ok (.iload_n 1, 1) := by decide +kernel
theorem dX0_coverFused_231 : decode cX0_coverFused 231 = .ok (.iload 6, 2) := by decide +kernel
theorem dX0_coverFused_233 : decode cX0_coverFused 233 = .ok (.iload 7, 2) := by decide +kernel
theorem dX0_coverFused_235 : decode cX0_coverFused 235 = .ok (.iload 8, 2) := by decide +kernel
theorem dX0_coverFused_237 : decode cX0_coverFused 237 = .ok (.invokestatic 75, 3) := by decide +kernel
theorem dX0_coverFused_240 : decode cX0_coverFused 240 = .ok (.iload 5, 2) := by decide +kernel
theorem dX0_coverFused_242 : decode cX0_coverFused 242 = .ok (.ifCond .eq 20, 3) := by decide +kernel
theorem dX0_coverFused_245 : decode cX0_coverFused 245 = .ok (.aload_n 0, 1) := by decide +kernel
theorem dX0_coverFused_246 : decode cX0_coverFused 246 = .ok (.getfield 32, 3) := by decide +kernel
theorem dX0_coverFused_249 : decode cX0_coverFused 249 = .ok (.iload_n 1, 1) := by decide +kernel
theorem dX0_coverFused_250 : decode cX0_coverFused 250 = .ok (.iload 6, 2) := by decide +kernel
theorem dX0_coverFused_252 : decode cX0_coverFused 252 = .ok (.iload 7, 2) := by decide +kernel
theorem dX0_coverFused_254 : decode cX0_coverFused 254 = .ok (.iload 8, 2) := by decide +kernel
theorem dX0_coverFused_256 : decode cX0_coverFused 256 = .ok (.invokestatic 75, 3) := by decide +kernel
theorem dX0_coverFused_259 : decode cX0_coverFused 259 = .ok (.goto 17, 3) := by decide +kernel
theorem dX0_coverFused_262 : decode cX0_coverFused 262 = .ok (.aload_n 0, 1) := by decide +kernel
theorem dX0_coverFused_263 : decode cX0_coverFused 263 = .ok (.getfield 32, 3) := by decide +kernel
theorem dX0_coverFused_266 : decode cX0_coverFused 266 = .ok (.iload_n 1, 1) := by decide +kernel
theorem dX0_coverFused_267 : decode cX0_coverFused 267 = .ok (.iload 8, 2) := by decide +kernel
theorem dX0_coverFused_269 : decode cX0_coverFused 269 = .ok (.iload 6, 2) := by decide +kernel
theorem dX0_coverFused_271 : decode cX0_coverFused 271 = .ok (.iload 7, 2) := by decide +kernel
theorem dX0_coverFused_273 : decode cX0_coverFused 273 = .ok (.invokestatic 75, 3) := by decide +kernel
theorem dX0_coverFused_276 : decode cX0_coverFused 276 = .ok (.return_, 1) := by decide +kernel
theorem dX0_setNodes_0 : decode cX0_setNodes 0 = .ok (.aload_n 0, 1) := by decide +kernel
theorem dX0_setNodes_1 : decode cX0_setNodes 1 = .ok (.iconst 3, 1) := by decide +kernel
theorem dX0_setNodes_2 : decode cX0_setNodes 2 = .ok (.iload_n 1, 1) := by decide +kernel
theorem dX0_setNodes_3 : decode cX0_setNodes 3 = .ok (.imul, 1) := by decide +kernel
theorem dX0_setNodes_4 : decode cX0_setNodes 4 = .ok (.iload_n 2, 1) := by decide +kernel
theorem dX0_setNodes_5 : decode cX0_setNodes 5 = .ok (.invokestatic 58, 3) := by decide +kernel
theorem dX0_setNodes_8 : decode cX0_setNodes 8 = .ok (.aload_n 0, 1) := by decide +kernel
theorem dX0_setNodes_9 : decode cX0_setNodes 9 = .ok (.iconst 3, 1) := by decide +kernel
theorem dX0_setNodes_10 : decode cX0_setNodes 10 = .ok (.iload_n 1, 1) := by decide +kernel
theorem dX0_setNodes_11 : decode cX0_setNodes 11 = .ok (.imul, 1) := by decide +kernel
theorem dX0_setNodes_12 : decode cX0_setNodes 12 = .ok (.iconst 1, 1) := by decide +kernel
theorem dX0_setNodes_13 : decode cX0_setNodes 13 = .ok (.iadd, 1) := by decide +kernel
theorem dX0_setNodes_14 : decode cX0_setNodes 14 = .ok (.iload_n 3, 1) := by decide +kernel
theorem dX0_setNodes_15 : decode cX0_setNodes 15 = .ok (.invokestatic 58, 3) := by decide +kernel
theorem dX0_setNodes_18 : decode cX0_setNodes 18 = .ok (.aload_n 0, 1) := by decide +kernel
theorem dX0_setNodes_19 : decode cX0_setNodes 19 = .ok (.iconst 3, 1) := by decide +kernel
theorem dX0_setNodes_20 : decode cX0_setNodes 20 = .ok (.iload_n 1, 1) := by decide +kernel
theorem dX0_setNodes_21 : decode cX0_setNodes 21 = .ok (.imul, 1) := by decide +kernel
theorem dX0_setNodes_22 : decode cX0_setNodes 22 = .ok (.iconst 2, 1) := by decide +kernel
theorem dX0_setNodes_23 : decode cX0_setNodes 23 = .ok (.iadd, 1) := by decide +kernel
theorem dX0_setNodes_24 : decode cX0_setNodes 24 = .ok (.iload 4, 2) := by decide +kernel
theorem dX0_setNodes_26 : decode cX0_setNodes 26 = .ok (.invokestatic 58, 3) := by decide +kernel
theorem dX0_setNodes_29 : decode cX0_setNodes 29 = .ok (.return_, 1) := by decide +kernel
theorem dX0_chooseStatement_0 : decode cX0_chooseStatement 0 = .ok (.aload_n 0, 1) := by decide +kernel
theorem dX0_chooseStatement_1 : decode cX0_chooseStatement 1 = .ok (.aload_n 0, 1) := by decide +kernel
theorem dX0_chooseStatement_2 : decode cX0_chooseStatement 2 = .ok (.getfield 9, 3) := by decide +kernel
theorem dX0_chooseStatement_5 : decode cX0_chooseStatement 5 = .ok (.iload_n 2, 1) := by decide +kernel
theorem dX0_chooseStatement_6 : decode cX0_chooseStatement 6 = .ok (.iload_n 3, 1) := by decide +kernel
theorem dX0_chooseStatement_7 : decode cX0_chooseStatement 7 = .ok (.invokevirtual 102, 3) := by decide +kernel
theorem dX0_chooseStatement_10 : decode cX0_chooseStatement 10 = .ok (.invokevirtual 106, 3) := by decide +kernel
theorem dX0_chooseStatement_13 : decode cX0_chooseStatement 13 = .ok (.istore 4, 2) := by decide +kernel
theorem dX0_chooseStatement_15 : decode cX0_chooseStatement 15 = .ok (.iload 4, 2) := by decide +kernel
theorem dX0_chooseStatement_17 : decode cX0_chooseStatement 17 = .ok (.iconst 1, 1) := by decide +kernel
theorem dX0_chooseStatement_18 : decode cX0_chooseStatement 18 = .ok (.isub, 1) := by decide +kernel
theorem dX0_chooseStatement_19 : decode cX0_chooseStatement 19 = .ok (.istore 5, 2) := by decide +kernel
theorem dX0_chooseStatement_21 : decode cX0_chooseStatement 21 = .ok (.iload 5, 2) := by decide +kernel
theorem dX0_chooseStatement_23 : decode cX0_chooseStatement 23 = .ok (.ifCond .le 95, 3) := by decide +kernel
theorem dX0_chooseStatement_26 : decode cX0_chooseStatement 26 = .ok (.aload_n 0, 1) := by decide +kernel
theorem dX0_chooseStatement_27 : decode cX0_chooseStatement 27 = .ok (.getfield 41, 3) := by decide +kernel
theorem dX0_chooseStatement_30 : decode cX0_chooseStatement 30 = .ok (.iload 5, 2) := by decide +kernel
theorem dX0_chooseStatement_32 : decode cX0_chooseStatement 32 = .ok (.invokestatic 54, 3) := by decide +kernel
theorem dX0_chooseStatement_35 : decode cX0_chooseStatement 35 = .ok (.istore 6, 2) := by decide +kernel
theorem dX0_chooseStatement_37 : decode cX0_chooseStatement 37 = .ok (.aload_n 0, 1) := by decide +kernel
theorem dX0_chooseStatement_38 : decode cX0_chooseStatement 38 = .ok (.getfield 9, 3) := by decide +kernel
theorem dX0_chooseStatement_41 : decode cX0_chooseStatement 41 = .ok (.getfield 53, 3) := by decide +kernel
theorem dX0_chooseStatement_44 : decode cX0_chooseStatement 44 = .ok (.iload 6, 2) := by decide +kernel
theorem dX0_chooseStatement_46 : decode cX0_chooseStatement 46 = .ok (.invokestatic 54, 3) := by decide +kernel
theorem dX0_chooseStatement_49 : decode cX0_chooseStatement 49 = .ok (.iconst 1, 1) := by decide +kernel
theorem dX0_chooseStatement_50 : decode cX0_chooseStatement 50 = .ok (.if_icmp .ne 27, 3) := by decide +kernel
theorem dX0_chooseStatement_53 : decode cX0_chooseStatement 53 = .ok (.aload_n 0, 1) := by decide +kernel
theorem dX0_chooseStatement_54 : decode cX0_chooseStatement 54 = .ok (.getfield 35, 3) := by decide +kernel
theorem dX0_chooseStatement_57 : decode cX0_chooseStatement 57 = .ok (.iload 6, 2) := by decide +kernel
theorem dX0_chooseStatement_59 : decode cX0_chooseStatement 59 = .ok (.aload_n 0, 1) := by decide +kernel
theorem dX0_chooseStatement_60 : decode cX0_chooseStatement 60 = .ok (.getfield 9, 3) := by decide +kernel
theorem dX0_chooseStatement_63 : decode cX0_chooseStatement 63 = .ok (.getfield 85, 3) := by decide +kernel
theorem dX0_chooseStatement_66 : decode cX0_chooseStatement 66 = .ok (.iload 6, 2) := by decide +kernel
theorem dX0_chooseStatement_68 : decode cX0_chooseStatement 68 = .ok (.invokestatic 54, 3) := by decide +kernel
theorem dX0_chooseStatement_71 : decode cX0_chooseStatement 71 = .ok (.invokestatic 58, 3) := by decide +kernel
theorem dX0_chooseStatement_74 : decode cX0_chooseStatement 74 = .ok (.goto 38, 3) := by decide +kernel
theorem dX0_chooseStatement_77 : decode cX0_chooseStatement 77 = .ok (.aload_n 0, 1) := by decide +kernel
theorem dX0_chooseStatement_78 : decode cX0_chooseStatement 78 = .ok (.getfield 35, 3) := by decide +kernel
theorem dX0_chooseStatement_81 : decode cX0_chooseStatement 81 = .ok (.iload 6, 2) := by decide +kernel
theorem dX0_chooseStatement_83 : decode cX0_chooseStatement 83 = .ok (.aload_n 0, 1) := by decide +kernel
theorem dX0_chooseStatement_84 : decode cX0_chooseStatement 84 = .ok (.getfield 44, 3) := by decide +kernel
theorem dX0_chooseStatement_87 : decode cX0_chooseStatement 87 = .ok (.invokestatic 58, 3) := by decide +kernel
theorem dX0_chooseStatement_90 : decode cX0_chooseStatement 90 = .ok (.aload_n 0, 1) := by decide +kernel
theorem dX0_chooseStatement_91 : decode cX0_chooseStatement 91 = .ok (.aload_n 1, 1) := by decide +kernel
theorem dX0_chooseStatement_92 : decode cX0_chooseStatement 92 = .ok (.iload 6, 2) := by decide +kernel
theorem dX0_chooseStatement_94 : decode cX0_chooseStatement 94 = .ok (.aload_n 0, 1) := by decide +kernel
theorem dX0_chooseStatement_95 : decode cX0_chooseStatement 95 = .ok (.getfield 44, 3) := by decide +kernel
theorem dX0_chooseStatement_98 : decode cX0_chooseStatement 98 = .ok (.iload_n 2, 1) := by decide +kernel
theorem dX0_chooseStatement_99 : decode cX0_chooseStatement 99 = .ok (.invokevirtual 109, 3) := by decide +kernel
theorem dX0_chooseStatement_102 : decode cX0_chooseStatement 102 = .ok (.aload_n 0, 1) := by decide +kernel
theorem dX0_chooseStatement_103 : decode cX0_chooseStatement 103 = .ok (.dup, 1) := by decide +kernel
theorem dX0_chooseStatement_104 : decode cX0_chooseStatement 104 = .ok (.getfield 44, 3) := by decide +kernel
theorem dX0_chooseStatement_107 : decode cX0_chooseStatement 107 = .ok (.iconst 1, 1) := by decide +kernel
theorem dX0_chooseStatement_108 : decode cX0_chooseStatement 108 = .ok (.iadd, 1) := by decide +kernel
theorem dX0_chooseStatement_109 : decode cX0_chooseStatement 109 = .ok (.putfield 44, 3) := by decide +kernel
theorem dX0_chooseStatement_112 : decode cX0_chooseStatement 112 = .ok (.iinc 5 (-1), 3) := by decide +kernel
theorem dX0_chooseStatement_115 : decode cX0_chooseStatement 115 = .ok (.goto (-94), 3) := by decide +kernel
theorem dX0_chooseStatement_118 : decode cX0_chooseStatement 118 = .ok (.aload_n 0, 1) := by decide +kernel
theorem dX0_chooseStatement_119 : decode cX0_chooseStatement 119 = .ok (.aload_n 1, 1) := by decide +kernel
theorem dX0_chooseStatement_120 : decode cX0_chooseStatement 120 = .ok (.aload_n 0, 1) := by decide +kernel
theorem dX0_chooseStatement_121 : decode cX0_chooseStatement 121 = .ok (.getfield 41, 3) := by decide +kernel
theorem dX0_chooseStatement_124 : decode cX0_chooseStatement 124 = .ok (.iconst 0, 1) := by decide +kernel
theorem dX0_chooseStatement_125 : decode cX0_chooseStatement 125 = .ok (.invokestatic 54, 3) := by decide +kernel
theorem dX0_chooseStatement_128 : decode cX0_chooseStatement 128 = .ok (.aload_n 0, 1) := by decide +kernel
theorem dX0_chooseStatement_129 : decode cX0_chooseStatement 129 = .ok (.getfield 9, 3) := by decide +kernel
theorem dX0_chooseStatement_132 : decode cX0_chooseStatement 132 = .ok (.iload_n 2, 1) := by decide +kernel
theorem dX0_chooseStatement_133 : decode cX0_chooseStatement 133 = .ok (.iload_n 3, 1) := by decide +kernel
theorem dX0_chooseStatement_134 : decode cX0_chooseStatement 134 = .ok (.invokevirtual 113, 3) := by decide +kernel
theorem dX0_chooseStatement_137 : decode cX0_chooseStatement 137 = .ok (.iload_n 2, 1) := by decide +kernel
theorem dX0_chooseStatement_138 : decode cX0_chooseStatement 138 = .ok (.invokevirtual 109, 3) := by decide +kernel
theorem dX0_chooseStatement_141 : decode cX0_chooseStatement 141 = .ok (.return_, 1) := by decide +kernel
theorem dX0_gather_0 : decode cX0_gather 0 = .ok (.iconst 0, 1) := by decide +kernel
theorem dX0_gather_1 : decode cX0_gather 1 = .ok (.istore_n 2, 1) := by decide +kernel
theorem dX0_gather_2 : decode cX0_gather 2 = .ok (.aload_n 0, 1) := by decide +kernel
theorem dX0_gather_3 : decode cX0_gather 3 = .ok (.iconst 0, 1) := by decide +kernel
theorem dX0_gather_4 : decode cX0_gather 4 = .ok (.putfield 116, 3) := by decide +kernel
theorem dX0_gather_7 : decode cX0_gather 7 = .ok (.aload_n 0, 1) := by decide +kernel
theorem dX0_gather_8 : decode cX0_gather 8 = .ok (.iload_n 1, 1) := by decide +kernel
theorem dX0_gather_9 : decode cX0_gather 9 = .ok (.invokevirtual 119, 3) := by decide +kernel
theorem dX0_gather_12 : decode cX0_gather 12 = .ok (.aload_n 0, 1) := by decide +kernel
theorem dX0_gather_13 : decode cX0_gather 13 = .ok (.getfield 116, 3) := by decide +kernel
theorem dX0_gather_16 : decode cX0_gather 16 = .ok (.ifCond .le 78, 3) := by decide +kernel
theorem dX0_gather_19 : decode cX0_gather 19 = .ok (.iload_n 2, 1) := by decide +kernel
theorem dX0_gather_20 : decode cX0_gather 20 = .ok (.bipush 80, 2) := by decide +kernel
theorem dX0_gather_22 : decode cX0_gather 22 = .ok (.if_icmp .ge 72, 3) := by decide +kernel
theorem dX0_gather_25 : decode cX0_gather 25 = .ok (.aload_n 0, 1) := by decide +kernel
theorem dX0_gather_26 : decode cX0_gather 26 = .ok (.dup, 1) := by decide +kernel
theorem dX0_gather_27 : decode cX0_gather 27 = .ok (.getfield 116, 3) := by decide +kernel
theorem dX0_gather_30 : decode cX0_gather 30 = .ok (.iconst 1, 1) := by decide +kernel
theorem dX0_gather_31 : decode cX0_gather 31 = .ok (.isub, 1) := by decide +kernel
theorem dX0_gather_32 : decode cX0_gather 32 = .ok (.putfield 116, 3) := by decide +kernel
theorem dX0_gather_35 : decode cX0_gather 35 = .ok (.aload_n 0, 1) := by decide +kernel
theorem dX0_gather_36 : decode cX0_gather 36 = .ok (.getfield 38, 3) := by decide +kernel
theorem dX0_gather_39 : decode cX0_gather 39 = .ok (.aload_n 0, 1) := by decide +kernel
theorem dX0_gather_40 : decode cX0_gather 40 = .ok (.getfield 116, 3) := by decide +kernel
theorem dX0_gather_43 : decode cX0_gather 43 = .ok (.invokestatic 54, 3) := by decide +kernel
theorem dX0_gather_46 : decode cX0_gather 46 = .ok (.istore_n 3, 1) := by decide +kernel
theorem dX0_gather_47 : decode cX0_gather 47 = .ok (.aload_n 0, 1) := by decide +kernel
theorem dX0_gather_48 : decode cX0_gather 48 = .ok (.getfield 41, 3) := by decide +kernel
theorem dX0_gather_51 : decode cX0_gather 51 = .ok (.iload_n 2, 1) := by decide +kernel
theorem dX0_gather_52 : decode cX0_gather 52 = .ok (.iload_n 3, 1) := by decide +kernel
theorem dX0_gather_53 : decode cX0_gather 53 = .ok (.invokestatic 58, 3) := by decide +kernel
theorem dX0_gather_56 : decode cX0_gather 56 = .ok (.iinc 2 1, 3) := by decide +kernel
theorem dX0_gather_59 : decode cX0_gather 59 = .ok (.iconst 0, 1) := by decide +kernel
theorem dX0_gather_60 : decode cX0_gather 60 = .ok (.istore 4, 2) := by decide +kernel
theorem dX0_gather_62 : decode cX0_gather 62 = .ok (.iload 4, 2) := by decide +kernel
theorem dX0_gather_64 : decode cX0_gather 64 = .ok (.iconst 3, 1) := by decide +kernel
theorem dX0_gather_65 : decode cX0_gather 65 = .ok (.if_icmp .ge 26, 3) := by decide +kernel
theorem dX0_gather_68 : decode cX0_gather 68 = .ok (.aload_n 0, 1) := by decide +kernel
theorem dX0_gather_69 : decode cX0_gather 69 = .ok (.aload_n 0, 1) := by decide +kernel
theorem dX0_gather_70 : decode cX0_gather 70 = .ok (.getfield 32, 3) := by decide +kernel
theorem dX0_gather_73 : decode cX0_gather 73 = .ok (.iconst 3, 1) := by decide +kernel
theorem dX0_gather_74 : decode cX0_gather 74 = .ok (.iload_n 3, 1) := by decide +kernel
theorem dX0_gather_75 : decode cX0_gather 75 = .ok (.imul, 1) := by decide +kernel
theorem dX0_gather_76 : decode cX0_gather 76 = .ok (.iload 4, 2) := by decide +kernel
theorem dX0_gather_78 : decode cX0_gather 78 = .ok (.iadd, 1) := by decide +kernel
theorem dX0_gather_79 : decode cX0_gather 79 = .ok (.invokestatic 54, 3) := by decide +kernel
theorem dX0_gather_82 : decode cX0_gather 82 = .ok (.invokevirtual 119, 3) := by decide +kernel
theorem dX0_gather_85 : decode cX0_gather 85 = .ok (.iinc 4 1, 3) := by decide +kernel
theorem dX0_gather_88 : decode cX0_gather 88 = .ok (.goto (-26), 3) := by decide +kernel
theorem dX0_gather_91 : decode cX0_gather 91 = .ok (.goto (-79), 3) := by decide +kernel
theorem dX0_gather_94 : decode cX0_gather 94 = .ok (.iload_n 2, 1) := by decide +kernel
theorem dX0_gather_95 : decode cX0_gather 95 = .ok (.ireturn, 1) := by decide +kernel
theorem dX0_push_0 : decode cX0_push 0 = .ok (.iload_n 1, 1) := by decide +kernel
theorem dX0_push_1 : decode cX0_push 1 = .ok (.iconst (-1), 1) := by decide +kernel
theorem dX0_push_2 : decode cX0_push 2 = .ok (.if_icmp .eq 25, 3) := by decide +kernel
theorem dX0_push_5 : decode cX0_push 5 = .ok (.aload_n 0, 1) := by decide +kernel
theorem dX0_push_6 : decode cX0_push 6 = .ok (.getfield 38, 3) := by decide +kernel
theorem dX0_push_9 : decode cX0_push 9 = .ok (.aload_n 0, 1) := by decide +kernel
theorem dX0_push_10 : decode cX0_push 10 = .ok (.getfield 116, 3) := by decide +kernel
theorem dX0_push_13 : decode cX0_push 13 = .ok (.iload_n 1, 1) := by decide +kernel
theorem dX0_push_14 : decode cX0_push 14 = .ok (.invokestatic 58, 3) := by decide +kernel
theorem dX0_push_17 : decode cX0_push 17 = .ok (.aload_n 0, 1) := by decide +kernel
theorem dX0_push_18 : decode cX0_push 18 = .ok (.dup, 1) := by decide +kernel
theorem dX0_push_19 : decode cX0_push 19 = .ok (.getfield 116, 3) := by decide +kernel
theorem dX0_push_22 : decode cX0_push 22 = .ok (.iconst 1, 1) := by decide +kernel
theorem dX0_push_23 : decode cX0_push 23 = .ok (.iadd, 1) := by decide +kernel
theorem dX0_push_24 : decode cX0_push 24 = .ok (.putfield 116, 3) := by decide +kernel
theorem dX0_push_27 : decode cX0_push 27 = .ok (.return_, 1) := by decide +kernel
theorem dX0_emit_0 : decode cX0_emit 0 = .ok (.aload_n 0, 1) := by decide +kernel
theorem dX0_emit_1 : decode cX0_emit 1 = .ok (.getfield 23, 3) := by decide +kernel
theorem dX0_emit_4 : decode cX0_emit 4 = .ok (.iload_n 2, 1) := by decide +kernel
theorem dX0_emit_5 : decode cX0_emit 5 = .ok (.invokestatic 54, 3) := by decide +kernel
theorem dX0_emit_8 : decode cX0_emit 8 = .ok (.istore 5, 2) := by decide +kernel
theorem dX0_emit_10 : decode cX0_emit 10 = .ok (.aload_n 1, 1) := by decide +kernel
theorem dX0_emit_11 : decode cX0_emit 11 = .ok (.iload 5, 2) := by decide +kernel
theorem dX0_emit_13 : decode cX0_emit 13 = .ok (.iload_n 3, 1) := by decide +kernel
theorem dX0_emit_14 : decode cX0_emit 14 = .ok (.iload 4, 2) := by decide +kernel
theorem dX0_emit_16 : decode cX0_emit 16 = .ok (.invokevirtual 123, 3) := by decide +kernel
theorem dX0_emit_19 : decode cX0_emit 19 = .ok (.aload_n 1, 1) := by decide +kernel
theorem dX0_emit_20 : decode cX0_emit 20 = .ok (.aload_n 0, 1) := by decide +kernel
theorem dX0_emit_21 : decode cX0_emit 21 = .ok (.getfield 26, 3) := by decide +kernel
theorem dX0_emit_24 : decode cX0_emit 24 = .ok (.iload_n 2, 1) := by decide +kernel
theorem dX0_emit_25 : decode cX0_emit 25 = .ok (.invokestatic 54, 3) := by decide +kernel
theorem dX0_emit_28 : decode cX0_emit 28 = .ok (.invokevirtual 129, 3) := by decide +kernel
theorem dX0_emit_31 : decode cX0_emit 31 = .ok (.iload 5, 2) := by decide +kernel
theorem dX0_emit_33 : decode cX0_emit 33 = .ok (.iconst 1, 1) := by decide +kernel
theorem dX0_emit_34 : decode cX0_emit 34 = .ok (.if_icmp .ne 23, 3) := by decide +kernel
theorem dX0_emit_37 : decode cX0_emit 37 = .ok (.aload_n 1, 1) := by decide +kernel
theorem dX0_emit_38 : decode cX0_emit 38 = .ok (.aload_n 0, 1) := by decide +kernel
theorem dX0_emit_39 : decode cX0_emit 39 = .ok (.getfield 9, 3) := by decide +kernel
theorem dX0_emit_42 : decode cX0_emit 42 = .ok (.getfield 85, 3) := by decide +kernel
theorem dX0_emit_45 : decode cX0_emit 45 = .ok (.iload_n 2, 1) := by decide +kernel
theorem dX0_emit_46 : decode cX0_emit 46 = .ok (.invokestatic 54, 3) := by decide +kernel
theorem dX0_emit_49 : decode cX0_emit 49 = .ok (.iconst (-1), 1) := by decide +kernel
theorem dX0_emit_50 : decode cX0_emit 50 = .ok (.iconst (-1), 1) := by decide +kernel
theorem dX0_emit_51 : decode cX0_emit 51 = .ok (.invokevirtual 132, 3) := by decide +kernel
theorem dX0_emit_54 : decode cX0_emit 54 = .ok (.goto 25, 3) := by decide +kernel
theorem dX0_emit_57 : decode cX0_emit 57 = .ok (.aload_n 1, 1) := by decide +kernel
theorem dX0_emit_58 : decode cX0_emit 58 = .ok (.aload_n 0, 1) := by decide +kernel
theorem dX0_emit_59 : decode cX0_emit 59 = .ok (.iload_n 2, 1) := by decide +kernel
theorem dX0_emit_60 : decode cX0_emit 60 = .ok (.iconst 0, 1) := by decide +kernel
theorem dX0_emit_61 : decode cX0_emit 61 = .ok (.invokevirtual 135, 3) := by decide +kernel
theorem dX0_emit_64 : decode cX0_emit 64 = .ok (.aload_n 0, 1) := by decide +kernel
theorem dX0_emit_65 : decode cX0_emit 65 = .ok (.iload_n 2, 1) := by decide +kernel
theorem dX0_emit_66 : decode cX0_emit 66 = .ok (.iconst 1, 1) := by decide +kernel
theorem dX0_emit_67 : decode cX0_emit 67 = .ok (.invokevirtual 135, 3) := by decide +kernel
theorem dX0_emit_70 : decode cX0_emit 70 = .ok (.aload_n 0, 1) := by decide +kernel
theorem dX0_emit_71 : decode cX0_emit 71 = .ok (.iload_n 2, 1) := by decide +kernel
theorem dX0_emit_72 : decode cX0_emit 72 = .ok (.iconst 2, 1) := by decide +kernel
theorem dX0_emit_73 : decode cX0_emit 73 = .ok (.invokevirtual 135, 3) := by decide +kernel
theorem dX0_emit_76 : decode cX0_emit 76 = .ok (.invokevirtual 132, 3) := by decide +kernel
theorem dX0_emit_79 : decode cX0_emit 79 = .ok (.return_, 1) := by decide +kernel
theorem dX0_valueRead_0 : decode cX0_valueRead 0 = .ok (.aload_n 0, 1) := by decide +kernel
theorem dX0_valueRead_1 : decode cX0_valueRead 1 = .ok (.getfield 35, 3) := by decide +kernel
theorem dX0_valueRead_4 : decode cX0_valueRead 4 = .ok (.aload_n 0, 1) := by decide +kernel
theorem dX0_valueRead_5 : decode cX0_valueRead 5 = .ok (.getfield 29, 3) := by decide +kernel
theorem dX0_valueRead_8 : decode cX0_valueRead 8 = .ok (.iconst 3, 1) := by decide +kernel
theorem dX0_valueRead_9 : decode cX0_valueRead 9 = .ok (.iload_n 1, 1) := by decide +kernel
theorem dX0_valueRead_10 : decode cX0_valueRead 10 = .ok (.imul, 1) := by decide +kernel
theorem dX0_valueRead_11 : decode cX0_valueRead 11 = .ok (.iload_n 2, 1) := by decide +kernel
theorem dX0_valueRead_12 : decode cX0_valueRead 12 = .ok (.iadd, 1) := by decide +kernel
theorem dX0_valueRead_13 : decode cX0_valueRead 13 = .ok (.invokestatic 54, 3) := by decide +kernel
theorem dX0_valueRead_16 : decode cX0_valueRead 16 = .ok (.invokestatic 54, 3) := by decide +kernel
theorem dX0_valueRead_19 : decode cX0_valueRead 19 = .ok (.ireturn, 1) := by decide +kernel
theorem dX1_init_0 : decode cX1_init 0 = .ok (.aload_n 0, 1) := by decide +kernel
theorem dX1_init_1 : decode cX1_init 1 = .ok (.invokespecial 3, 3) := by decide +kernel
theorem dX1_init_4 : decode cX1_init 4 = .ok (.aload_n 0, 1) := by decide +kernel
theorem dX1_init_5 : decode cX1_init 5 = .ok (.aload_n 1, 1) := by decide +kernel
theorem dX1_init_6 : decode cX1_init 6 = .ok (.putfield 9, 3) := by decide +kernel
theorem dX1_init_9 : decode cX1_init 9 = .ok (.aload_n 0, 1) := by decide +kernel
theorem dX1_init_10 : decode cX1_init 10 = .ok (.sipush 528, 3) := by decide +kernel
theorem dX1_init_13 : decode cX1_init 13 = .ok (.newarray .int, 2) := by decide +kernel
theorem dX1_init_15 : decode cX1_init 15 = .ok (.putfield 15, 3) := by decide +kernel
theorem dX1_init_18 : decode cX1_init 18 = .ok (.aload_n 0, 1) := by decide +kernel
theorem dX1_init_19 : decode cX1_init 19 = .ok (.sipush 2112, 3) := by decide +kernel
theorem dX1_init_22 : decode cX1_init 22 = .ok (.newarray .int, 2) := by decide +kernel
theorem dX1_init_24 : decode cX1_init 24 = .ok (.putfield 19, 3) := by decide +kernel
theorem dX1_init_27 : decode cX1_init 27 = .ok (.aload_n 0, 1) := by decide +kernel
theorem dX1_init_28 : decode cX1_init 28 = .ok (.sipush 528, 3) := by decide +kernel
theorem dX1_init_31 : decode cX1_init 31 = .ok (.newarray .int, 2) := by decide +kernel
theorem dX1_init_33 : decode cX1_init 33 = .ok (.putfield 22, 3) := by decide +kernel
theorem dX1_init_36 : decode cX1_init 36 = .ok (.aload_n 0, 1) := by decide +kernel
theorem dX1_init_37 : decode cX1_init 37 = .ok (.bipush 89, 2) := by decide +kernel
theorem dX1_init_39 : decode cX1_init 39 = .ok (.newarray .int, 2) := by decide +kernel
theorem dX1_init_41 : decode cX1_init 41 = .ok (.putfield 25, 3) := by decide +kernel
theorem dX1_init_44 : decode cX1_init 44 = .ok (.return_, 1) := by decide +kernel
theorem dX1_make_0 : decode cX1_make 0 = .ok (.aload_n 0, 1) := by decide +kernel
theorem dX1_make_1 : decode cX1_make 1 = .ok (.iconst 0, 1) := by decide +kernel
theorem dX1_make_2 : decode cX1_make 2 = .ok (.putfield 28, 3) := by decide +kernel
theorem dX1_make_5 : decode cX1_make 5 = .ok (.iconst 0, 1) := by decide +kernel
theorem dX1_make_6 : decode cX1_make 6 = .ok (.istore_n 3, 1) := by decide +kernel
theorem dX1_make_7 : decode cX1_make 7 = .ok (.iload_n 3, 1) := by decide +kernel
theorem dX1_make_8 : decode cX1_make 8 = .ok (.aload_n 1, 1) := by decide +kernel
theorem dX1_make_9 : decode cX1_make 9 = .ok (.getfield 32, 3) := by decide +kernel
theorem dX1_make_12 : decode cX1_make 12 = .ok (.if_icmp .ge 72, 3) := by decide +kernel
theorem dX1_make_15 : decode cX1_make 15 = .ok (.aload_n 0, 1) := by decide +kernel
theorem dX1_make_16 : decode cX1_make 16 = .ok (.iload_n 3, 1) := by decide +kernel
theorem dX1_make_17 : decode cX1_make 17 = .ok (.putfield 37, 3) := by decide +kernel
theorem dX1_make_20 : decode cX1_make 20 = .ok (.aload_n 0, 1) := by decide +kernel
theorem dX1_make_21 : decode cX1_make 21 = .ok (.getfield 25, 3) := by decide +kernel
theorem dX1_make_24 : decode cX1_make 24 = .ok (.aload_n 0, 1) := by decide +kernel
theorem dX1_make_25 : decode cX1_make 25 = .ok (.getfield 37, 3) := by decide +kernel
theorem dX1_make_28 : decode cX1_make 28 = .ok (.aload_n 0, 1) := by decide +kernel
theorem dX1_make_29 : decode cX1_make 29 = .ok (.getfield 28, 3) := by decide +kernel
theorem dX1_make_32 : decode cX1_make 32 = .ok (.invokestatic 40, 3) := by decide +kernel
theorem dX1_make_35 : decode cX1_make 35 = .ok (.aload_n 1, 1) := by decide +kernel
theorem dX1_make_36 : decode cX1_make 36 = .ok (.aload_n 0, 1) := by decide +kernel
theorem dX1_make_37 : decode cX1_make 37 = .ok (.getfield 37, 3) := by decide +kernel
theorem dX1_make_40 : decode cX1_make 40 = .ok (.invokevirtual 44, 3) := by decide +kernel
theorem dX1_make_43 : decode cX1_make 43 = .ok (.bipush 9, 2) := by decide +kernel
theorem dX1_make_45 : decode cX1_make 45 = .ok (.if_icmp .ne 12, 3) := by decide +kernel
theorem dX1_make_48 : decode cX1_make 48 = .ok (.aload_n 0, 1) := by decide +kernel
theorem dX1_make_49 : decode cX1_make 49 = .ok (.aload_n 1, 1) := by decide +kernel
theorem dX1_make_50 : decode cX1_make 50 = .ok (.aload_n 2, 1) := by decide +kernel
theorem dX1_make_51 : decode cX1_make 51 = .ok (.invokevirtual 48, 3) := by decide +kernel
theorem dX1_make_54 : decode cX1_make 54 = .ok (.goto 24, 3) := by decide +kernel
theorem dX1_make_57 : decode cX1_make 57 = .ok (.aload_n 2, 1) := by decide +kernel
theorem dX1_make_58 : decode cX1_make 58 = .ok (.aload_n 1, 1) := by decide +kernel
theorem dX1_make_59 : decode cX1_make 59 = .ok (.aload_n 0, 1) := by decide +kernel
theorem dX1_make_60 : decode cX1_make 60 = .ok (.getfield 37, 3) := by decide +kernel
theorem dX1_make_63 : decode cX1_make 63 = .ok (.invokevirtual 52, 3) := by decide +kernel
theorem dX1_make_66 : decode cX1_make 66 = .ok (.invokevirtual 55, 3) := by decide +kernel
theorem dX1_make_69 : decode cX1_make 69 = .ok (.ifCond .ne 9, 3) := by decide +kernel
theorem dX1_make_72 : decode cX1_make 72 = .ok (.aload_n 0, 1) := by decide +kernel
theorem dX1_make_73 : decode cX1_make 73 = .ok (.aload_n 1, 1) := by decide +kernel
theorem dX1_make_74 : decode cX1_make 74 = .ok (.aload_n 2, 1) := by decide +kernel
theorem dX1_make_75 : decode cX1_make 75 = .ok (.invokevirtual 61, 3) := by decide +kernel
theorem dX1_make_78 : decode cX1_make 78 = .ok (.iinc 3 1, 3) := by decide +kernel
theorem dX1_make_81 : decode cX1_make 81 = .ok (.goto (-74), 3) := by decide +kernel
theorem dX1_make_84 : decode cX1_make 84 = .ok (.aload_n 0, 1) := by decide +kernel
theorem dX1_make_85 : decode cX1_make 85 = .ok (.getfield 25, 3) := by decide +kernel
theorem dX1_make_88 : decode cX1_make 88 = .ok (.aload_n 1, 1) := by decide +kernel
theorem dX1_make_89 : decode cX1_make 89 = .ok (.getfield 32, 3) := by decide +kernel
theorem dX1_make_92 : decode cX1_make 92 = .ok (.aload_n 0, 1) := by decide +kernel
theorem dX1_make_93 : decode cX1_make 93 = .ok (.getfield 28, 3) := by decide +kernel
theorem dX1_make_96 : decode cX1_make 96 = .ok (.invokestatic 40, 3) := by decide +kernel
theorem dX1_make_99 : decode cX1_make 99 = .ok (.return_, 1) := by decide +kernel
theorem dX1_makeOne_0 : decode cX1_makeOne 0 = .ok (.aload_n 1, 1) := by decide +kernel
theorem dX1_makeOne_1 : decode cX1_makeOne 1 = .ok (.aload_n 0, 1) := by decide +kernel
theorem dX1_makeOne_2 : decode cX1_makeOne 2 = .ok (.getfield 37, 3) := by decide +kernel
theorem dX1_makeOne_5 : decode cX1_makeOne 5 = .ok (.invokevirtual 52, 3) := by decide +kernel
theorem dX1_makeOne_8 : decode cX1_makeOne 8 = .ok (.istore_n 3, 1) := by decide +kernel
theorem dX1_makeOne_9 : decode cX1_makeOne 9 = .ok (.aload_n 0, 1) := by decide +kernel
theorem dX1_makeOne_10 : decode cX1_makeOne 10 = .ok (.aload_n 1, 1) := by decide +kernel
theorem dX1_makeOne_11 : decode cX1_makeOne 11 = .ok (.aload_n 2, 1) := by decide +kernel
theorem dX1_makeOne_12 : decode cX1_makeOne 12 = .ok (.iconst 0, 1) := by decide +kernel
theorem dX1_makeOne_13 : decode cX1_makeOne 13 = .ok (.invokevirtual 64, 3) := by decide +kernel
theorem dX1_makeOne_16 : decode cX1_makeOne 16 = .ok (.istore 4, 2) := by decide +kernel
theorem dX1_makeOne_18 : decode cX1_makeOne 18 = .ok (.aload_n 0, 1) := by decide +kernel
theorem dX1_makeOne_19 : decode cX1_makeOne 19 = .ok (.aload_n 1, 1) := by decide +kernel
theorem dX1_makeOne_20 : decode cX1_makeOne 20 = .ok (.aload_n 2, 1) := by decide +kernel
theorem dX1_makeOne_21 : decode cX1_makeOne 21 = .ok (.iconst 1, 1) := by decide +kernel
theorem dX1_makeOne_22 : decode cX1_makeOne 22 = .ok (.invokevirtual 64, 3) := by decide +kernel
theorem dX1_makeOne_25 : decode cX1_makeOne 25 = .ok (.istore 5, 2) := by decide +kernel
theorem dX1_makeOne_27 : decode cX1_makeOne 27 = .ok (.aload_n 0, 1) := by decide +kernel
theorem dX1_makeOne_28 : decode cX1_makeOne 28 = .ok (.aload_n 1, 1) := by decide +kernel
theorem dX1_makeOne_29 : decode cX1_makeOne 29 = .ok (.aload_n 2, 1) := by decide +kernel
theorem dX1_makeOne_30 : decode cX1_makeOne 30 = .ok (.iconst 2, 1) := by decide +kernel
theorem dX1_makeOne_31 : decode cX1_makeOne 31 = .ok (.invokevirtual 64, 3) := by decide +kernel
theorem dX1_makeOne_34 : decode cX1_makeOne 34 = .ok (.istore 6, 2) := by decide +kernel
theorem dX1_makeOne_36 : decode cX1_makeOne 36 = .ok (.aload_n 2, 1) := by decide +kernel
theorem dX1_makeOne_37 : decode cX1_makeOne 37 = .ok (.iload_n 3, 1) := by decide +kernel
theorem dX1_makeOne_38 : decode cX1_makeOne 38 = .ok (.invokevirtual 68, 3) := by decide +kernel
theorem dX1_makeOne_41 : decode cX1_makeOne 41 = .ok (.ifCond .eq 13, 3) := by decide +kernel
theorem dX1_makeOne_44 : decode cX1_makeOne 44 = .ok (.aload_n 0, 1) := by decide +kernel
theorem dX1_makeOne_45 : decode cX1_makeOne 45 = .ok (.getfield 9, 3) := by decide +kernel
theorem dX1_makeOne_48 : decode cX1_makeOne 48 = .ok (.invokevirtual 71, 3) := by decide +kernel
theorem dX1_makeOne_51 : decode cX1_makeOne 51 = .ok (.goto 8, 3) := by decide +kernel
theorem dX1_makeOne_54 : decode cX1_makeOne 54 = .ok (.aload_n 2, 1) := by decide +kernel
theorem dX1_makeOne_55 : decode cX1_makeOne 55 = .ok (.iload_n 3, 1) := by decide +kernel
theorem dX1_makeOne_56 : decode cX1_makeOne 56 = .ok (.invokevirtual 77, 3) := by decide +kernel
theorem dX1_makeOne_59 : decode cX1_makeOne 59 = .ok (.istore 7, 2) := by decide +kernel
theorem dX1_makeOne_61 : decode cX1_makeOne 61 = .ok (.aload_n 1, 1) := by decide +kernel
theorem dX1_makeOne_62 : decode cX1_makeOne 62 = .ok (.aload_n 0, 1) := by decide +kernel
theorem dX1_makeOne_63 : decode cX1_makeOne 63 = .ok (.getfield 37, 3) := by decide +kernel
theorem dX1_makeOne_66 : decode cX1_makeOne 66 = .ok (.invokevirtual 44, 3) := by decide +kernel
theorem dX1_makeOne_69 : decode cX1_makeOne 69 = .ok (.lookupswitch 88 #[(0, 35), (1, 55), (5, 66)], 35) := by decide +kernel
theorem dX1_makeOne_104 : decode cX1_makeOne 104 = .ok (.aload_n 0, 1) := by decide +kernel
theorem dX1_makeOne_105 : decode cX1_makeOne 105 = .ok (.iconst 0, 1) := by decide +kernel
theorem dX1_makeOne_106 : decode cX1_makeOne 106 = .ok (.iload 7, 2) := by decide +kernel
theorem dX1_makeOne_108 : decode cX1_makeOne 108 = .ok (.aload_n 1, 1) := by decide +kernel
theorem dX1_makeOne_109 : decode cX1_makeOne 109 = .ok (.aload_n 0, 1) := by decide +kernel
theorem dX1_makeOne_110 : decode cX1_makeOne 110 = .ok (.getfield 37, 3) := by decide +kernel
theorem dX1_makeOne_113 : decode cX1_makeOne 113 = .ok (.invokevirtual 80, 3) := by decide +kernel
theorem dX1_makeOne_116 : decode cX1_makeOne 116 = .ok (.iconst 0, 1) := by decide +kernel
theorem dX1_makeOne_117 : decode cX1_makeOne 117 = .ok (.iconst 0, 1) := by decide +kernel
theorem dX1_makeOne_118 : decode cX1_makeOne 118 = .ok (.invokevirtual 83, 3) := by decide +kernel
theorem dX1_makeOne_121 : decode cX1_makeOne 121 = .ok (.goto 57, 3) := by decide +kernel
theorem dX1_makeOne_124 : decode cX1_makeOne 124 = .ok (.aload_n 0, 1) := by decide +kernel
theorem dX1_makeOne_125 : decode cX1_makeOne 125 = .ok (.iload 7, 2) := by decide +kernel
theorem dX1_makeOne_127 : decode cX1_makeOne 127 = .ok (.iload 4, 2) := by decide +kernel
theorem dX1_makeOne_129 : decode cX1_makeOne 129 = .ok (.invokevirtual 87, 3) := by decide +kernel
theorem dX1_makeOne_132 : decode cX1_makeOne 132 = .ok (.goto 46, 3) := by decide +kernel
theorem dX1_makeOne_135 : decode cX1_makeOne 135 = .ok (.aload_n 0, 1) := by decide +kernel
theorem dX1_makeOne_136 : decode cX1_makeOne 136 = .ok (.iconst 5, 1) := by decide +kernel
theorem dX1_makeOne_137 : decode cX1_makeOne 137 = .ok (.iload 7, 2) := by decide +kernel
theorem dX1_makeOne_139 : decode cX1_makeOne 139 = .ok (.iload 4, 2) := by decide +kernel
theorem dX1_makeOne_141 : decode cX1_makeOne 141 = .ok (.iconst (-1), 1) := by decide +kernel
theorem dX1_makeOne_142 : decode cX1_makeOne 142 = .ok (.iconst (-1), 1) := by decide +kernel
theorem dX1_makeOne_143 : decode cX1_makeOne 143 = .ok (.aload_n 1, 1) := by decide +kernel
theorem dX1_makeOne_144 : decode cX1_makeOne 144 = .ok (.aload_n 0, 1) := by decide +kernel
theorem dX1_makeOne_145 : decode cX1_makeOne 145 = .ok (.getfield 37, 3) := by decide +kernel
theorem dX1_makeOne_148 : decode cX1_makeOne 148 = .ok (.invokevirtual 80, 3) := by decide +kernel
theorem dX1_makeOne_151 : decode cX1_makeOne 151 = .ok (.invokevirtual 91, 3) := by decide +kernel
theorem dX1_makeOne_154 : decode cX1_makeOne 154 = .ok (.goto 24, 3) := by decide +kernel
theorem dX1_makeOne_157 : decode cX1_makeOne 157 = .ok (.aload_n 0, 1) := by decide +kernel
theorem dX1_makeOne_158 : decode cX1_makeOne 158 = .ok (.aload_n 1, 1) := by decide +kernel
theorem dX1_makeOne_159 : decode cX1_makeOne 159 = .ok (.aload_n 0, 1) := by decide +kernel
theorem dX1_makeOne_160 : decode cX1_makeOne 160 = .ok (.getfield 37, 3) := by decide +kernel
theorem dX1_makeOne_163 : decode cX1_makeOne 163 = .ok (.invokevirtual 44, 3) := by decide +kernel
theorem dX1_makeOne_166 : decode cX1_makeOne 166 = .ok (.iload 7, 2) := by decide +kernel
theorem dX1_makeOne_168 : decode cX1_makeOne 168 = .ok (.iload 4, 2) := by decide +kernel
theorem dX1_makeOne_170 : decode cX1_makeOne 170 = .ok (.iload 5, 2) := by decide +kernel
theorem dX1_makeOne_172 : decode cX1_makeOne 172 = .ok (.iload 6, 2) := by decide +kernel
theorem dX1_makeOne_174 : decode cX1_makeOne 174 = .ok (.iconst 0, 1) := by decide +kernel
theorem dX1_makeOne_175 : decode cX1_makeOne 175 = .ok (.invokevirtual 91, 3) := by decide +kernel
theorem dX1_makeOne_178 : decode cX1_makeOne 178 = .ok (.aload_n 2, 1) := by decide +kernel
theorem dX1_makeOne_179 : decode cX1_makeOne 179 = .ok (.iload_n 3, 1) := by decide +kernel
theorem dX1_makeOne_180 : decode cX1_makeOne 180 = .ok (.invokevirtual 68, 3) := by decide +kernel
theorem dX1_makeOne_183 : decode cX1_makeOne 183 = .ok (.ifCond .eq 18, 3) := by decide +kernel
theorem dX1_makeOne_186 : decode cX1_makeOne 186 = .ok (.aload_n 0, 1) := by decide +kernel
theorem dX1_makeOne_187 : decode cX1_makeOne 187 = .ok (.bipush 8, 2) := by decide +kernel
theorem dX1_makeOne_189 : decode cX1_makeOne 189 = .ok (.iload 7, 2) := by decide +kernel
theorem dX1_makeOne_191 : decode cX1_makeOne 191 = .ok (.aload_n 2, 1) := by decide +kernel
theorem dX1_makeOne_192 : decode cX1_makeOne 192 = .ok (.iload_n 3, 1) := by decide +kernel
theorem dX1_makeOne_193 : decode cX1_makeOne 193 = .ok (.invokevirtual 95, 3) := by decide +kernel
theorem dX1_makeOne_196 : decode cX1_makeOne 196 = .ok (.iconst 0, 1) := by decide +kernel
theorem dX1_makeOne_197 : decode cX1_makeOne 197 = .ok (.iconst 0, 1) := by decide +kernel
theorem dX1_makeOne_198 : decode cX1_makeOne 198 = .ok (.invokevirtual 83, 3) := by decide +kernel
theorem dX1_makeOne_201 : decode cX1_makeOne 201 = .ok (.return_, 1) := by decide +kernel
theorem dX1_fetch_0 : decode cX1_fetch 0 = .ok (.aload_n 1, 1) := by decide +kernel
theorem dX1_fetch_1 : decode cX1_fetch 1 = .ok (.aload_n 0, 1) := by decide +kernel
theorem dX1_fetch_2 : decode cX1_fetch 2 = .ok (.getfield 37, 3) := by decide +kernel
theorem dX1_fetch_5 : decode cX1_fetch 5 = .ok (.iload_n 3, 1) := by decide +kernel
theorem dX1_fetch_6 : decode cX1_fetch 6 = .ok (.invokevirtual 98, 3) := by decide +kernel
theorem dX1_fetch_9 : decode cX1_fetch 9 = .ok (.istore 4, 2) := by decide +kernel
theorem dX1_fetch_11 : decode cX1_fetch 11 = .ok (.iload 4, 2) := by decide +kernel
theorem dX1_fetch_13 : decode cX1_fetch 13 = .ok (.iconst (-1), 1) := by decide +kernel
theorem dX1_fetch_14 : decode cX1_fetch 14 = .ok (.if_icmp .eq 12, 3) := by decide +kernel
theorem dX1_fetch_17 : decode cX1_fetch 17 = .ok (.aload_n 2, 1) := by decide +kernel
theorem dX1_fetch_18 : decode cX1_fetch 18 = .ok (.iload 4, 2) := by decide +kernel
theorem dX1_fetch_20 : decode cX1_fetch 20 = .ok (.invokevirtual 68, 3) := by decide +kernel
theorem dX1_fetch_23 : decode cX1_fetch 23 = .ok (.ifCond .ne 10, 3) := by decide +kernel
theorem dX1_fetch_26 : decode cX1_fetch 26 = .ok (.aload_n 2, 1) := by decide +kernel
theorem dX1_fetch_27 : decode cX1_fetch 27 = .ok (.iload 4, 2) := by decide +kernel
theorem dX1_fetch_29 : decode cX1_fetch 29 = .ok (.invokevirtual 77, 3) := by decide +kernel
theorem dX1_fetch_32 : decode cX1_fetch 32 = .ok (.ireturn, 1) := by decide +kernel
theorem dX1_fetch_33 : decode cX1_fetch 33 = .ok (.aload_n 0, 1) := by decide +kernel
theorem dX1_fetch_34 : decode cX1_fetch 34 = .ok (.aload_n 2, 1) := by decide +kernel
theorem dX1_fetch_35 : decode cX1_fetch 35 = .ok (.iload 4, 2) := by decide +kernel
theorem dX1_fetch_37 : decode cX1_fetch 37 = .ok (.aload_n 0, 1) := by decide +kernel
theorem dX1_fetch_38 : decode cX1_fetch 38 = .ok (.getfield 9, 3) := by decide +kernel
theorem dX1_fetch_41 : decode cX1_fetch 41 = .ok (.invokevirtual 71, 3) := by decide +kernel
theorem dX1_fetch_44 : decode cX1_fetch 44 = .ok (.iload_n 3, 1) := by decide +kernel
theorem dX1_fetch_45 : decode cX1_fetch 45 = .ok (.iadd, 1) := by decide +kernel
theorem dX1_fetch_46 : decode cX1_fetch 46 = .ok (.invokevirtual 102, 3) := by decide +kernel
theorem dX1_fetch_49 : decode cX1_fetch 49 = .ok (.aload_n 0, 1) := by decide +kernel
theorem dX1_fetch_50 : decode cX1_fetch 50 = .ok (.getfield 9, 3) := by decide +kernel
theorem dX1_fetch_53 : decode cX1_fetch 53 = .ok (.invokevirtual 71, 3) := by decide +kernel
theorem dX1_fetch_56 : decode cX1_fetch 56 = .ok (.iload_n 3, 1) := by decide +kernel
theorem dX1_fetch_57 : decode cX1_fetch 57 = .ok (.iadd, 1) := by decide +kernel
theorem dX1_fetch_58 : decode cX1_fetch 58 = .ok (.ireturn, 1) := by decide +kernel
theorem dX1_bring_0 : decode cX1_bring 0 = .ok (.aload_n 1, 1) := by decide +kernel
theorem dX1_bring_1 : decode cX1_bring 1 = .ok (.iload_n 2, 1) := by decide +kernel
theorem dX1_bring_2 : decode cX1_bring 2 = .ok (.invokevirtual 68, 3) := by decide +kernel
theorem dX1_bring_5 : decode cX1_bring 5 = .ok (.ifCond .eq 13, 3) := by decide +kernel
theorem dX1_bring_8 : decode cX1_bring 8 = .ok (.aload_n 0, 1) := by decide +kernel
theorem dX1_bring_9 : decode cX1_bring 9 = .ok (.aload_n 1, 1) := by decide +kernel
theorem dX1_bring_10 : decode cX1_bring 10 = .ok (.iload_n 2, 1) := by decide +kernel
theorem dX1_bring_11 : decode cX1_bring 11 = .ok (.iload_n 3, 1) := by decide +kernel
theorem dX1_bring_12 : decode cX1_bring 12 = .ok (.invokevirtual 102, 3) := by decide +kernel
theorem dX1_bring_15 : decode cX1_bring 15 = .ok (.goto 13, 3) := by decide +kernel
theorem dX1_bring_18 : decode cX1_bring 18 = .ok (.aload_n 0, 1) := by decide +kernel
theorem dX1_bring_19 : decode cX1_bring 19 = .ok (.iload_n 3, 1) := by decide +kernel
theorem dX1_bring_20 : decode cX1_bring 20 = .ok (.aload_n 1, 1) := by decide +kernel
theorem dX1_bring_21 : decode cX1_bring 21 = .ok (.iload_n 2, 1) := by decide +kernel
theorem dX1_bring_22 : decode cX1_bring 22 = .ok (.invokevirtual 77, 3) := by decide +kernel
theorem dX1_bring_25 : decode cX1_bring 25 = .ok (.invokevirtual 87, 3) := by decide +kernel
theorem dX1_bring_28 : decode cX1_bring 28 = .ok (.return_, 1) := by decide +kernel
theorem dX1_addLoad_0 : decode cX1_addLoad 0 = .ok (.aload_n 1, 1) := by decide +kernel
theorem dX1_addLoad_1 : decode cX1_addLoad 1 = .ok (.getfield 106, 3) := by decide +kernel
theorem dX1_addLoad_4 : decode cX1_addLoad 4 = .ok (.iload_n 2, 1) := by decide +kernel
theorem dX1_addLoad_5 : decode cX1_addLoad 5 = .ok (.invokestatic 109, 3) := by decide +kernel
theorem dX1_addLoad_8 : decode cX1_addLoad 8 = .ok (.iconst 1, 1) := by decide +kernel
theorem dX1_addLoad_9 : decode cX1_addLoad 9 = .ok (.if_icmp .ne 22, 3) := by decide +kernel
theorem dX1_addLoad_12 : decode cX1_addLoad 12 = .ok (.aload_n 0, 1) := by decide +kernel
theorem dX1_addLoad_13 : decode cX1_addLoad 13 = .ok (.iconst 0, 1) := by decide +kernel
theorem dX1_addLoad_14 : decode cX1_addLoad 14 = .ok (.iload_n 3, 1) := by decide +kernel
theorem dX1_addLoad_15 : decode cX1_addLoad 15 = .ok (.aload_n 1, 1) := by decide +kernel
theorem dX1_addLoad_16 : decode cX1_addLoad 16 = .ok (.getfield 113, 3) := by decide +kernel
theorem dX1_addLoad_19 : decode cX1_addLoad 19 = .ok (.iload_n 2, 1) := by decide +kernel
theorem dX1_addLoad_20 : decode cX1_addLoad 20 = .ok (.invokestatic 109, 3) := by decide +kernel
theorem dX1_addLoad_23 : decode cX1_addLoad 23 = .ok (.iconst 0, 1) := by decide +kernel
theorem dX1_addLoad_24 : decode cX1_addLoad 24 = .ok (.iconst 0, 1) := by decide +kernel
theorem dX1_addLoad_25 : decode cX1_addLoad 25 = .ok (.invokevirtual 83, 3) := by decide +kernel
theorem dX1_addLoad_28 : decode cX1_addLoad 28 = .ok (.goto 20, 3) := by decide +kernel
theorem dX1_addLoad_31 : decode cX1_addLoad 31 = .ok (.aload_n 0, 1) := by decide +kernel
theorem dX1_addLoad_32 : decode cX1_addLoad 32 = .ok (.bipush 7, 2) := by decide +kernel
theorem dX1_addLoad_34 : decode cX1_addLoad 34 = .ok (.iload_n 3, 1) := by decide +kernel
theorem dX1_addLoad_35 : decode cX1_addLoad 35 = .ok (.aload_n 1, 1) := by decide +kernel
theorem dX1_addLoad_36 : decode cX1_addLoad 36 = .ok (.getfield 116, 3) := by decide +kernel
theorem dX1_addLoad_39 : decode cX1_addLoad 39 = .ok (.iload_n 2, 1) := by decide +kernel
theorem dX1_addLoad_40 : decode cX1_addLoad 40 = .ok (.invokestatic 109, 3) := by decide +kernel
theorem dX1_addLoad_43 : decode cX1_addLoad 43 = .ok (.iconst 0, 1) := by decide +kernel
theorem dX1_addLoad_44 : decode cX1_addLoad 44 = .ok (.iconst 0, 1) := by decide +kernel
theorem dX1_addLoad_45 : decode cX1_addLoad 45 = .ok (.invokevirtual 83, 3) := by decide +kernel
theorem dX1_addLoad_48 : decode cX1_addLoad 48 = .ok (.return_, 1) := by decide +kernel
theorem dX1_operate_0 : decode cX1_operate 0 = .ok (.aload_n 0, 1) := by decide +kernel
theorem dX1_operate_1 : decode cX1_operate 1 = .ok (.getfield 9, 3) := by decide +kernel
theorem dX1_operate_4 : decode cX1_operate 4 = .ok (.invokevirtual 71, 3) := by decide +kernel
theorem dX1_operate_7 : decode cX1_operate 7 = .ok (.istore 7, 2) := by decide +kernel
theorem dX1_operate_9 : decode cX1_operate 9 = .ok (.aload_n 0, 1) := by decide +kernel
theorem dX1_operate_10 : decode cX1_operate 10 = .ok (.getfield 9, 3) := by decide +kernel
theorem dX1_operate_13 : decode cX1_operate 13 = .ok (.getfield 119, 3) := by decide +kernel
theorem dX1_operate_16 : decode cX1_operate 16 = .ok (.ifCond .eq 8, 3) := by decide +kernel
theorem dX1_operate_19 : decode cX1_operate 19 = .ok (.iload_n 3, 1) := by decide +kernel
theorem dX1_operate_20 : decode cX1_operate 20 = .ok (.iload_n 2, 1) := by decide +kernel
theorem dX1_operate_21 : decode cX1_operate 21 = .ok (.if_icmp .ne 19, 3) := by decide +kernel
theorem dX1_operate_24 : decode cX1_operate 24 = .ok (.aload_n 0, 1) := by decide +kernel
theorem dX1_operate_25 : decode cX1_operate 25 = .ok (.iload_n 1, 1) := by decide +kernel
theorem dX1_operate_26 : decode cX1_operate 26 = .ok (.iload_n 2, 1) := by decide +kernel
theorem dX1_operate_27 : decode cX1_operate 27 = .ok (.iload_n 3, 1) := by decide +kernel
theorem dX1_operate_28 : decode cX1_operate 28 = .ok (.iload 4, 2) := by decide +kernel
theorem dX1_operate_30 : decode cX1_operate 30 = .ok (.iload 5, 2) := by decide +kernel
theorem dX1_operate_32 : decode cX1_operate 32 = .ok (.iload 6, 2) := by decide +kernel
theorem dX1_operate_34 : decode cX1_operate 34 = .ok (.invokevirtual 123, 3) := by decide +kernel
theorem dX1_operate_37 : decode cX1_operate 37 = .ok (.goto 92, 3) := by decide +kernel
theorem dX1_operate_40 : decode cX1_operate 40 = .ok (.iload_n 2, 1) := by decide +kernel
theorem dX1_operate_41 : decode cX1_operate 41 = .ok (.iload 4, 2) := by decide +kernel
theorem dX1_operate_43 : decode cX1_operate 43 = .ok (.if_icmp .eq 31, 3) := by decide +kernel
theorem dX1_operate_46 : decode cX1_operate 46 = .ok (.iload_n 2, 1) := by decide +kernel
theorem dX1_operate_47 : decode cX1_operate 47 = .ok (.iload 5, 2) := by decide +kernel
theorem dX1_operate_49 : decode cX1_operate 49 = .ok (.if_icmp .eq 25, 3) := by decide +kernel
theorem dX1_operate_52 : decode cX1_operate 52 = .ok (.aload_n 0, 1) := by decide +kernel
theorem dX1_operate_53 : decode cX1_operate 53 = .ok (.iload_n 2, 1) := by decide +kernel
theorem dX1_operate_54 : decode cX1_operate 54 = .ok (.iload_n 3, 1) := by decide +kernel
theorem dX1_operate_55 : decode cX1_operate 55 = .ok (.invokevirtual 87, 3) := by decide +kernel
theorem dX1_operate_58 : decode cX1_operate 58 = .ok (.aload_n 0, 1) := by decide +kernel
theorem dX1_operate_59 : decode cX1_operate 59 = .ok (.iload_n 1, 1) := by decide +kernel
theorem dX1_operate_60 : decode cX1_operate 60 = .ok (.iload_n 2, 1) := by decide +kernel
theorem dX1_operate_61 : decode cX1_operate 61 = .ok (.iload_n 2, 1) := by decide +kernel
theorem dX1_operate_62 : decode cX1_operate 62 = .ok (.iload 4, 2) := by decide +kernel
theorem dX1_operate_64 : decode cX1_operate 64 = .ok (.iload 5, 2) := by decide +kernel
theorem dX1_operate_66 : decode cX1_operate 66 = .ok (.iload 6, 2) := by decide +kernel
theorem dX1_operate_68 : decode cX1_operate 68 = .ok (.invokevirtual 123, 3) := by decide +kernel
theorem dX1_operate_71 : decode cX1_operate 71 = .ok (.goto 58, 3) := by decide +kernel
theorem dX1_operate_74 : decode cX1_operate 74 = .ok (.iload_n 1, 1) := by decide +kernel
theorem dX1_operate_75 : decode cX1_operate 75 = .ok (.iconst 2, 1) := by decide +kernel
theorem dX1_operate_76 : decode cX1_operate 76 = .ok (.if_icmp .eq 8, 3) := by decide +kernel
theorem dX1_operate_79 : decode cX1_operate 79 = .ok (.iload_n 1, 1) := by decide +kernel
theorem dX1_operate_80 : decode cX1_operate 80 = .ok (.iconst 4, 1) := by decide +kernel
theorem dX1_operate_81 : decode cX1_operate 81 = .ok (.if_icmp .ne 19, 3) := by decide +kernel
theorem dX1_operate_84 : decode cX1_operate 84 = .ok (.aload_n 0, 1) := by decide +kernel
theorem dX1_operate_85 : decode cX1_operate 85 = .ok (.iload_n 1, 1) := by decide +kernel
theorem dX1_operate_86 : decode cX1_operate 86 = .ok (.iload_n 2, 1) := by decide +kernel
theorem dX1_operate_87 : decode cX1_operate 87 = .ok (.iload 4, 2) := by decide +kernel
theorem dX1_operate_89 : decode cX1_operate 89 = .ok (.iload_n 3, 1) := by decide +kernel
theorem dX1_operate_90 : decode cX1_operate 90 = .ok (.iload 5, 2) := by decide +kernel
theorem dX1_operate_92 : decode cX1_operate 92 = .ok (.iload 6, 2) := by decide +kernel
theorem dX1_operate_94 : decode cX1_operate 94 = .ok (.invokevirtual 123, 3) := by decide +kernel
theorem dX1_operate_97 : decode cX1_operate 97 = .ok (.goto 32, 3) := by decide +kernel
theorem dX1_operate_100 : decode cX1_operate 100 = .ok (.aload_n 0, 1) := by decide +kernel
theorem dX1_operate_101 : decode cX1_operate 101 = .ok (.iload 7, 2) := by decide +kernel
theorem dX1_operate_103 : decode cX1_operate 103 = .ok (.iload_n 3, 1) := by decide +kernel
theorem dX1_operate_104 : decode cX1_operate 104 = .ok (.invokevirtual 87, 3) := by decide +kernel
theorem dX1_operate_107 : decode cX1_operate 107 = .ok (.aload_n 0, 1) := by decide +kernel
theorem dX1_operate_108 : decode cX1_operate 108 = .ok (.iload_n 1, 1) := by decide +kernel
theorem dX1_operate_109 : decode cX1_operate 109 = .ok (.iload 7, 2) := by decide +kernel
theorem dX1_operate_111 : decode cX1_operate 111 = .ok (.iload 7, 2) := by decide +kernel
theorem dX1_operate_113 : decode cX1_operate 113 = .ok (.iload 4, 2) := by decide +kernel
theorem dX1_operate_115 : decode cX1_operate 115 = .ok (.iload 5, 2) := by decide +kernel
theorem dX1_operate_117 : decode cX1_operate 117 = .ok (.iload 6, 2) := by decide +kernel
theorem dX1_operate_119 : decode cX1_operate 119 = .ok (.invokevirtual 123, 3) := by decide +kernel
theorem dX1_operate_122 : decode cX1_operate 122 = .ok (.aload_n 0, 1) := by decide +kernel
theorem dX1_operate_123 : decode cX1_operate 123 = .ok (.iload_n 2, 1) := by decide +kernel
theorem dX1_operate_124 : decode cX1_operate 124 = .ok (.iload 7, 2) := by decide +kernel
theorem dX1_operate_126 : decode cX1_operate 126 = .ok (.invokevirtual 87, 3) := by decide +kernel
theorem dX1_operate_129 : decode cX1_operate 129 = .ok (.return_, 1) := by decide +kernel
theorem dX1_addOperation_0 : decode cX1_addOperation 0 = .ok (.iload_n 1, 1) := by decide +kernel
theorem dX1_addOperation_1 : decode cX1_addOperation 1 = .ok (.iconst 5, 1) := by decide +kernel
theorem dX1_addOperation_2 : decode cX1_addOperation 2 = .ok (.if_icmp .ne 16, 3) := by decide +kernel
theorem dX1_addOperation_5 : decode cX1_addOperation 5 = .ok (.aload_n 0, 1) := by decide +kernel
theorem dX1_addOperation_6 : decode cX1_addOperation 6 = .ok (.iconst 5, 1) := by decide +kernel
theorem dX1_addOperation_7 : decode cX1_addOperation 7 = .ok (.iload_n 2, 1) := by decide +kernel
theorem dX1_addOperation_8 : decode cX1_addOperation 8 = .ok (.iload_n 3, 1) := by decide +kernel
theorem dX1_addOperation_9 : decode cX1_addOperation 9 = .ok (.iload 6, 2) := by decide +kernel
theorem dX1_addOperation_11 : decode cX1_addOperation 11 = .ok (.iconst 0, 1) := by decide +kernel
theorem dX1_addOperation_12 : decode cX1_addOperation 12 = .ok (.invokevirtual 83, 3) := by decide +kernel
theorem dX1_addOperation_15 : decode cX1_addOperation 15 = .ok (.goto 24, 3) := by decide +kernel
theorem dX1_addOperation_18 : decode cX1_addOperation 18 = .ok (.aload_n 0, 1) := by decide +kernel
theorem dX1_addOperation_19 : decode cX1_addOperation 19 = .ok (.iload_n 1, 1) := by decide +kernel
theorem dX1_addOperation_20 : decode cX1_addOperation 20 = .ok (.iload_n 2, 1) := by decide +kernel
theorem dX1_addOperation_21 : decode cX1_addOperation 21 = .ok (.iload_n 3, 1) := by decide +kernel
theorem dX1_addOperation_22 : decode cX1_addOperation 22 = .ok (.iload 4, 2) := by decide +kernel
theorem dX1_addOperation_24 : decode cX1_addOperation 24 = .ok (.iload_n 1, 1) := by decide +kernel
theorem dX1_addOperation_25 : decode cX1_addOperation 25 = .ok (.bipush 6, 2) := by decide +kernel
theorem dX1_addOperation_27 : decode cX1_addOperation 27 = .ok (.if_icmp .ne 8, 3) := by decide +kernel
theorem dX1_addOperation_30 : decode cX1_addOperation 30 = .ok (.iload 5, 2) := by decide +kernel
theorem dX1_addOperation_32 : decode cX1_addOperation 32 = .ok (.goto 4, 3) := by decide +kernel
theorem dX1_addOperation_35 : decode cX1_addOperation 35 = .ok (.iconst 0, 1) := by decide +kernel
theorem dX1_addOperation_36 : decode cX1_addOperation 36 = .ok (.invokevirtual 83, 3) := by decide +kernel
theorem dX1_addOperation_39 : decode cX1_addOperation 39 = .ok (.return_, 1) := by decide +kernel
theorem dX1_makeCall_0 : decode cX1_makeCall 0 = .ok (.aload_n 1, 1) := by decide +kernel
theorem dX1_makeCall_1 : decode cX1_makeCall 1 = .ok (.aload_n 0, 1) := by decide +kernel
theorem dX1_makeCall_2 : decode cX1_makeCall 2 = .ok (.getfield 37, 3) := by decide +kernel
theorem dX1_makeCall_5 : decode cX1_makeCall 5 = .ok (.invokevirtual 52, 3) := by decide +kernel
theorem dX1_makeCall_8 : decode cX1_makeCall 8 = .ok (.istore_n 3, 1) := by decide +kernel
theorem dX1_makeCall_9 : decode cX1_makeCall 9 = .ok (.aload_n 1, 1) := by decide +kernel
theorem dX1_makeCall_10 : decode cX1_makeCall 10 = .ok (.aload_n 0, 1) := by decide +kernel
theorem dX1_makeCall_11 : decode cX1_makeCall 11 = .ok (.getfield 37, 3) := by decide +kernel
theorem dX1_makeCall_14 : decode cX1_makeCall 14 = .ok (.iconst 0, 1) := by decide +kernel
theorem dX1_makeCall_15 : decode cX1_makeCall 15 = .ok (.invokevirtual 98, 3) := by decide +kernel
theorem dX1_makeCall_18 : decode cX1_makeCall 18 = .ok (.istore 4, 2) := by decide +kernel
theorem dX1_makeCall_20 : decode cX1_makeCall 20 = .ok (.aload_n 1, 1) := by decide +kernel
theorem dX1_makeCall_21 : decode cX1_makeCall 21 = .ok (.aload_n 0, 1) := by decide +kernel
theorem dX1_makeCall_22 : decode cX1_makeCall 22 = .ok (.getfield 37, 3) := by decide +kernel
theorem dX1_makeCall_25 : decode cX1_makeCall 25 = .ok (.iconst 1, 1) := by decide +kernel
theorem dX1_makeCall_26 : decode cX1_makeCall 26 = .ok (.invokevirtual 98, 3) := by decide +kernel
theorem dX1_makeCall_29 : decode cX1_makeCall 29 = .ok (.istore 5, 2) := by decide +kernel
theorem dX1_makeCall_31 : decode cX1_makeCall 31 = .ok (.aload_n 2, 1) := by decide +kernel
theorem dX1_makeCall_32 : decode cX1_makeCall 32 = .ok (.iload 5, 2) := by decide +kernel
theorem dX1_makeCall_34 : decode cX1_makeCall 34 = .ok (.invokevirtual 77, 3) := by decide +kernel
theorem dX1_makeCall_37 : decode cX1_makeCall 37 = .ok (.ifCond .ne 7, 3) := by decide +kernel
theorem dX1_makeCall_40 : decode cX1_makeCall 40 = .ok (.iconst 1, 1) := by decide +kernel
theorem dX1_makeCall_41 : decode cX1_makeCall 41 = .ok (.goto 4, 3) := by decide +kernel
theorem dX1_makeCall_44 : decode cX1_makeCall 44 = .ok (.iconst 0, 1) := by decide +kernel
theorem dX1_makeCall_45 : decode cX1_makeCall 45 = .ok (.istore 6, 2) := by decide +kernel
theorem dX1_makeCall_47 : decode cX1_makeCall 47 = .ok (.iload 6, 2) := by decide +kernel
theorem dX1_makeCall_49 : decode cX1_makeCall 49 = .ok (.ifCond .eq 46, 3) := by decide +kernel
theorem dX1_makeCall_52 : decode cX1_makeCall 52 = .ok (.aload_n 2, 1) := by decide +kernel
theorem dX1_makeCall_53 : decode cX1_makeCall 53 = .ok (.iload 4, 2) := by decide +kernel
theorem dX1_makeCall_55 : decode cX1_makeCall 55 = .ok (.invokevirtual 77, 3) := by decide +kernel
theorem dX1_makeCall_58 : decode cX1_makeCall 58 = .ok (.iconst 1, 1) := by decide +kernel
theorem dX1_makeCall_59 : decode cX1_makeCall 59 = .ok (.if_icmp .ne 36, 3) := by decide +kernel
theorem dX1_makeCall_62 : decode cX1_makeCall 62 = .ok (.aload_n 0, 1) := by decide +kernel
theorem dX1_makeCall_63 : decode cX1_makeCall 63 = .ok (.aload_n 0, 1) := by decide +kernel
theorem dX1_makeCall_64 : decode cX1_makeCall 64 = .ok (.getfield 9, 3) := by decide +kernel
theorem dX1_makeCall_67 : decode cX1_makeCall 67 = .ok (.invokevirtual 71, 3) := by decide +kernel
theorem dX1_makeCall_70 : decode cX1_makeCall 70 = .ok (.iconst 0, 1) := by decide +kernel
theorem dX1_makeCall_71 : decode cX1_makeCall 71 = .ok (.invokevirtual 87, 3) := by decide +kernel
theorem dX1_makeCall_74 : decode cX1_makeCall 74 = .ok (.aload_n 0, 1) := by decide +kernel
theorem dX1_makeCall_75 : decode cX1_makeCall 75 = .ok (.iconst 0, 1) := by decide +kernel
theorem dX1_makeCall_76 : decode cX1_makeCall 76 = .ok (.iconst 1, 1) := by decide +kernel
theorem dX1_makeCall_77 : decode cX1_makeCall 77 = .ok (.invokevirtual 87, 3) := by decide +kernel
theorem dX1_makeCall_80 : decode cX1_makeCall 80 = .ok (.aload_n 0, 1) := by decide +kernel
theorem dX1_makeCall_81 : decode cX1_makeCall 81 = .ok (.iconst 1, 1) := by decide +kernel
theorem dX1_makeCall_82 : decode cX1_makeCall 82 = .ok (.aload_n 0, 1) := by decide +kernel
theorem dX1_makeCall_83 : decode cX1_makeCall 83 = .ok (.getfield 9, 3) := by decide +kernel
theorem dX1_makeCall_86 : decode cX1_makeCall 86 = .ok (.invokevirtual 71, 3) := by decide +kernel
theorem dX1_makeCall_89 : decode cX1_makeCall 89 = .ok (.invokevirtual 87, 3) := by decide +kernel
theorem dX1_makeCall_92 : decode cX1_makeCall 92 = .ok (.goto 41, 3) := by decide +kernel
theorem dX1_makeCall_95 : decode cX1_makeCall 95 = .ok (.iload 6, 2) := by decide +kernel
theorem dX1_makeCall_97 : decode cX1_makeCall 97 = .ok (.ifCond .eq 20, 3) := by decide +kernel
theorem dX1_makeCall_100 : decode cX1_makeCall 100 = .ok (.aload_n 0, 1) := by decide +kernel
theorem dX1_makeCall_101 : decode cX1_makeCall 101 = .ok (.iconst 1, 1) := by decide +kernel
theorem dX1_makeCall_102 : decode cX1_makeCall 102 = .ok (.iconst 0, 1) := by decide +kernel
theorem dX1_makeCall_103 : decode cX1_makeCall 103 = .ok (.invokevirtual 87, 3) := by decide +kernel
theorem dX1_makeCall_106 : decode cX1_makeCall 106 = .ok (.aload_n 0, 1) := by decide +kernel
theorem dX1_makeCall_107 : decode cX1_makeCall 107 = .ok (.aload_n 2, 1) := by decide +kernel
theorem dX1_makeCall_108 : decode cX1_makeCall 108 = .ok (.iload 4, 2) := by decide +kernel
theorem dX1_makeCall_110 : decode cX1_makeCall 110 = .ok (.iconst 0, 1) := by decide +kernel
theorem dX1_makeCall_111 : decode cX1_makeCall 111 = .ok (.invokevirtual 126, 3) := by decide +kernel
theorem dX1_makeCall_114 : decode cX1_makeCall 114 = .ok (.goto 19, 3) := by decide +kernel
theorem dX1_makeCall_117 : decode cX1_makeCall 117 = .ok (.aload_n 0, 1) := by decide +kernel
theorem dX1_makeCall_118 : decode cX1_makeCall 118 = .ok (.aload_n 2, 1) := by decide +kernel
theorem dX1_makeCall_119 : decode cX1_makeCall 119 = .ok (.iload 4, 2) := by decide +kernel
theorem dX1_makeCall_121 : decode cX1_makeCall 121 = .ok (.iconst 0, 1) := by decide +kernel
theorem dX1_makeCall_122 : decode cX1_makeCall 122 = .ok (.invokevirtual 126, 3) := by decide +kernel
theorem dX1_makeCall_125 : decode cX1_makeCall 125 = .ok (.aload_n 0, 1) := by decide +kernel
theorem dX1_makeCall_126 : decode cX1_makeCall 126 = .ok (.aload_n 2, 1) := by decide +kernel
theorem dX1_makeCall_127 : decode cX1_makeCall 127 = .ok (.iload 5, 2) := by decide +kernel
theorem dX1_makeCall_129 : decode cX1_makeCall 129 = .ok (.iconst 1, 1) := by decide +kernel
theorem dX1_makeCall_130 : decode cX1_makeCall 130 = .ok (.invokevirtual 126, 3) := by decide +kernel
theorem dX1_makeCall_133 : decode cX1_makeCall 133 = .ok (.aload_n 0, 1) := by decide +kernel
theorem dX1_makeCall_134 : decode cX1_makeCall 134 = .ok (.bipush 9, 2) := by decide +kernel
theorem dX1_makeCall_136 : decode cX1_makeCall 136 = .ok (.iconst 0, 1) := by decide +kernel
theorem dX1_makeCall_137 : decode cX1_makeCall 137 = .ok (.iconst 0, 1) := by decide +kernel
theorem dX1_makeCall_138 : decode cX1_makeCall 138 = .ok (.iconst 0, 1) := by decide +kernel
theorem dX1_makeCall_139 : decode cX1_makeCall 139 = .ok (.iconst 0, 1) := by decide +kernel
theorem dX1_makeCall_140 : decode cX1_makeCall 140 = .ok (.invokevirtual 83, 3) := by decide +kernel
theorem dX1_makeCall_143 : decode cX1_makeCall 143 = .ok (.aload_n 2, 1) := by decide +kernel
theorem dX1_makeCall_144 : decode cX1_makeCall 144 = .ok (.iload_n 3, 1) := by decide +kernel
theorem dX1_makeCall_145 : decode cX1_makeCall 145 = .ok (.invokevirtual 68, 3) := by decide +kernel
theorem dX1_makeCall_148 : decode cX1_makeCall 148 = .ok (.ifCond .eq 20, 3) := by decide +kernel
theorem dX1_makeCall_151 : decode cX1_makeCall 151 = .ok (.aload_n 0, 1) := by decide +kernel
theorem dX1_makeCall_152 : decode cX1_makeCall 152 = .ok (.bipush 8, 2) := by decide +kernel
theorem dX1_makeCall_154 : decode cX1_makeCall 154 = .ok (.iconst 0, 1) := by decide +kernel
theorem dX1_makeCall_155 : decode cX1_makeCall 155 = .ok (.aload_n 2, 1) := by decide +kernel
theorem dX1_makeCall_156 : decode cX1_makeCall 156 = .ok (.iload_n 3, 1) := by decide +kernel
theorem dX1_makeCall_157 : decode cX1_makeCall 157 = .ok (.invokevirtual 95, 3) := by decide +kernel
theorem dX1_makeCall_160 : decode cX1_makeCall 160 = .ok (.iconst 0, 1) := by decide +kernel
theorem dX1_makeCall_161 : decode cX1_makeCall 161 = .ok (.iconst 0, 1) := by decide +kernel
theorem dX1_makeCall_162 : decode cX1_makeCall 162 = .ok (.invokevirtual 83, 3) := by decide +kernel
theorem dX1_makeCall_165 : decode cX1_makeCall 165 = .ok (.goto 13, 3) := by decide +kernel
theorem dX1_makeCall_168 : decode cX1_makeCall 168 = .ok (.aload_n 0, 1) := by decide +kernel
theorem dX1_makeCall_169 : decode cX1_makeCall 169 = .ok (.aload_n 2, 1) := by decide +kernel
theorem dX1_makeCall_170 : decode cX1_makeCall 170 = .ok (.iload_n 3, 1) := by decide +kernel
theorem dX1_makeCall_171 : decode cX1_makeCall 171 = .ok (.invokevirtual 77, 3) := by decide +kernel
theorem dX1_makeCall_174 : decode cX1_makeCall 174 = .ok (.iconst 0, 1) := by decide +kernel
theorem dX1_makeCall_175 : decode cX1_makeCall 175 = .ok (.invokevirtual 87, 3) := by decide +kernel
theorem dX1_makeCall_178 : decode cX1_makeCall 178 = .ok (.return_, 1) := by decide +kernel
theorem dX1_addMove_0 : decode cX1_addMove 0 = .ok (.iload_n 1, 1) := by decide +kernel
theorem dX1_addMove_1 : decode cX1_addMove 1 = .ok (.iload_n 2, 1) := by decide +kernel
theorem dX1_addMove_2 : decode cX1_addMove 2 = .ok (.if_icmp .eq 12, 3) := by decide +kernel
theorem dX1_addMove_5 : decode cX1_addMove 5 = .ok (.aload_n 0, 1) := by decide +kernel
theorem dX1_addMove_6 : decode cX1_addMove 6 = .ok (.iconst 1, 1) := by decide +kernel
theorem dX1_addMove_7 : decode cX1_addMove 7 = .ok (.iload_n 1, 1) := by decide +kernel
theorem dX1_addMove_8 : decode cX1_addMove 8 = .ok (.iload_n 2, 1) := by decide +kernel
theorem dX1_addMove_9 : decode cX1_addMove 9 = .ok (.iconst 0, 1) := by decide +kernel
theorem dX1_addMove_10 : decode cX1_addMove 10 = .ok (.iconst 0, 1) := by decide +kernel
theorem dX1_addMove_11 : decode cX1_addMove 11 = .ok (.invokevirtual 83, 3) := by decide +kernel
theorem dX1_addMove_14 : decode cX1_addMove 14 = .ok (.return_, 1) := by decide +kernel
theorem dX1_add_0 : decode cX1_add 0 = .ok (.aload_n 0, 1) := by decide +kernel
theorem dX1_add_1 : decode cX1_add 1 = .ok (.getfield 28, 3) := by decide +kernel
theorem dX1_add_4 : decode cX1_add 4 = .ok (.ifCond .lt 13, 3) := by decide +kernel
theorem dX1_add_7 : decode cX1_add 7 = .ok (.aload_n 0, 1) := by decide +kernel
theorem dX1_add_8 : decode cX1_add 8 = .ok (.getfield 28, 3) := by decide +kernel
theorem dX1_add_11 : decode cX1_add 11 = .ok (.sipush 528, 3) := by decide +kernel
theorem dX1_add_14 : decode cX1_add 14 = .ok (.if_icmp .lt 4, 3) := by decide +kernel
theorem dX1_add_17 : decode cX1_add 17 = .ok (.return_, 1) := by decide +kernel
theorem dX1_add_18 : decode cX1_add 18 = .ok (.iconst 4, 1) := by decide +kernel
theorem dX1_add_19 : decode cX1_add 19 = .ok (.aload_n 0, 1) := by decide +kernel
theorem dX1_add_20 : decode cX1_add 20 = .ok (.getfield 28, 3) := by decide +kernel
theorem dX1_add_23 : decode cX1_add 23 = .ok (.imul, 1) := by decide +kernel
theorem dX1_add_24 : decode cX1_add 24 = .ok (.istore 6, 2) := by decide +kernel
theorem dX1_add_26 : decode cX1_add 26 = .ok (.aload_n 0, 1) := by decide +kernel
theorem dX1_add_27 : decode cX1_add 27 = .ok (.getfield 15, 3) := by decide +kernel
theorem dX1_add_30 : decode cX1_add 30 = .ok (.aload_n 0, 1) := by decide +kernel
theorem dX1_add_31 : decode cX1_add 31 = .ok (.getfield 28, 3) := by decide +kernel
theorem dX1_add_34 : decode cX1_add 34 = .ok (.iload_n 1, 1) := by decide +kernel
theorem dX1_add_35 : decode cX1_add 35 = .ok (.iastore, 1) := by decide +kernel
theorem dX1_add_36 : decode cX1_add 36 = .ok (.aload_n 0, 1) := by decide +kernel
theorem dX1_add_37 : decode cX1_add 37 = .ok (.getfield 19, 3) := by decide +kernel
theorem dX1_add_40 : decode cX1_add 40 = .ok (.iload 6, 2) := by decide +kernel
theorem dX1_add_42 : decode cX1_add 42 = .ok (.iload_n 2, 1) := by decide +kernel
theorem dX1_add_43 : decode cX1_add 43 = .ok (.iastore, 1) := by decide +kernel
theorem dX1_add_44 : decode cX1_add 44 = .ok (.aload_n 0, 1) := by decide +kernel
theorem dX1_add_45 : decode cX1_add 45 = .ok (.getfield 19, 3) := by decide +kernel
theorem dX1_add_48 : decode cX1_add 48 = .ok (.iload 6, 2) := by decide +kernel
theorem dX1_add_50 : decode cX1_add 50 = .ok (.iconst 1, 1) := by decide +kernel
theorem dX1_add_51 : decode cX1_add 51 = .ok (.iadd, 1) := by decide +kernel
theorem dX1_add_52 : decode cX1_add 52 = .ok (.iload_n 3, 1) := by decide +kernel
theorem dX1_add_53 : decode cX1_add 53 = .ok (.iastore, 1) := by decide +kernel
theorem dX1_add_54 : decode cX1_add 54 = .ok (.aload_n 0, 1) := by decide +kernel
theorem dX1_add_55 : decode cX1_add 55 = .ok (.getfield 19, 3) := by decide +kernel
theorem dX1_add_58 : decode cX1_add 58 = .ok (.iload 6, 2) := by decide +kernel
theorem dX1_add_60 : decode cX1_add 60 = .ok (.iconst 2, 1) := by decide +kernel
theorem dX1_add_61 : decode cX1_add 61 = .ok (.iadd, 1) := by decide +kernel
theorem dX1_add_62 : decode cX1_add 62 = .ok (.iload 4, 2) := by decide +kernel
theorem dX1_add_64 : decode cX1_add 64 = .ok (.iastore, 1) := by decide +kernel
theorem dX1_add_65 : decode cX1_add 65 = .ok (.aload_n 0, 1) := by decide +kernel
theorem dX1_add_66 : decode cX1_add 66 = .ok (.getfield 19, 3) := by decide +kernel
theorem dX1_add_69 : decode cX1_add 69 = .ok (.iload 6, 2) := by decide +kernel
theorem dX1_add_71 : decode cX1_add 71 = .ok (.iconst 3, 1) := by decide +kernel
theorem dX1_add_72 : decode cX1_add 72 = .ok (.iadd, 1) := by decide +kernel
theorem dX1_add_73 : decode cX1_add 73 = .ok (.iload 5, 2) := by decide +kernel
theorem dX1_add_75 : decode cX1_add 75 = .ok (.iastore, 1) := by decide +kernel
theorem dX1_add_76 : decode cX1_add 76 = .ok (.aload_n 0, 1) := by decide +kernel
theorem dX1_add_77 : decode cX1_add 77 = .ok (.getfield 22, 3) := by decide +kernel
theorem dX1_add_80 : decode cX1_add 80 = .ok (.aload_n 0, 1) := by decide +kernel
theorem dX1_add_81 : decode cX1_add 81 = .ok (.getfield 28, 3) := by decide +kernel
theorem dX1_add_84 : decode cX1_add 84 = .ok (.aload_n 0, 1) := by decide +kernel
theorem dX1_add_85 : decode cX1_add 85 = .ok (.getfield 37, 3) := by decide +kernel
theorem dX1_add_88 : decode cX1_add 88 = .ok (.iastore, 1) := by decide +kernel
theorem dX1_add_89 : decode cX1_add 89 = .ok (.aload_n 0, 1) := by decide +kernel
theorem dX1_add_90 : decode cX1_add 90 = .ok (.dup, 1) := by decide +kernel
theorem dX1_add_91 : decode cX1_add 91 = .ok (.getfield 28, 3) := by decide +kernel
theorem dX1_add_94 : decode cX1_add 94 = .ok (.iconst 1, 1) := by decide +kernel
theorem dX1_add_95 : decode cX1_add 95 = .ok (.iadd, 1) := by decide +kernel
theorem dX1_add_96 : decode cX1_add 96 = .ok (.putfield 28, 3) := by decide +kernel
theorem dX1_add_99 : decode cX1_add 99 = .ok (.return_, 1) := by decide +kernel
theorem dX1_kindOf_0 : decode cX1_kindOf 0 = .ok (.aload_n 0, 1) := by decide +kernel
theorem dX1_kindOf_1 : decode cX1_kindOf 1 = .ok (.getfield 15, 3) := by decide +kernel
theorem dX1_kindOf_4 : decode cX1_kindOf 4 = .ok (.iload_n 1, 1) := by decide +kernel
theorem dX1_kindOf_5 : decode cX1_kindOf 5 = .ok (.invokestatic 109, 3) := by decide +kernel
theorem dX1_kindOf_8 : decode cX1_kindOf 8 = .ok (.ireturn, 1) := by decide +kernel
theorem dX1_operandOf_0 : decode cX1_operandOf 0 = .ok (.aload_n 0, 1) := by decide +kernel
theorem dX1_operandOf_1 : decode cX1_operandOf 1 = .ok (.getfield 19, 3) := by decide +kernel
theorem dX1_operandOf_4 : decode cX1_operandOf 4 = .ok (.iconst 4, 1) := by decide +kernel
theorem dX1_operandOf_5 : decode cX1_operandOf 5 = .ok (.iload_n 1, 1) := by decide +kernel
theorem dX1_operandOf_6 : decode cX1_operandOf 6 = .ok (.imul, 1) := by decide +kernel
theorem dX1_operandOf_7 : decode cX1_operandOf 7 = .ok (.iload_n 2, 1) := by decide +kernel
theorem dX1_operandOf_8 : decode cX1_operandOf 8 = .ok (.iadd, 1) := by decide +kernel
theorem dX1_operandOf_9 : decode cX1_operandOf 9 = .ok (.iconst 1, 1) := by decide +kernel
theorem dX1_operandOf_10 : decode cX1_operandOf 10 = .ok (.isub, 1) := by decide +kernel
theorem dX1_operandOf_11 : decode cX1_operandOf 11 = .ok (.invokestatic 109, 3) := by decide +kernel
theorem dX1_operandOf_14 : decode cX1_operandOf 14 = .ok (.ireturn, 1) := by decide +kernel
theorem dX1_startOf_0 : decode cX1_startOf 0 = .ok (.aload_n 0, 1) := by decide +kernel
theorem dX1_startOf_1 : decode cX1_startOf 1 = .ok (.getfield 25, 3) := by decide +kernel
theorem dX1_startOf_4 : decode cX1_startOf 4 = .ok (.iload_n 1, 1) := by decide +kernel
theorem dX1_startOf_5 : decode cX1_startOf 5 = .ok (.invokestatic 109, 3) := by decide +kernel
theorem dX1_startOf_8 : decode cX1_startOf 8 = .ok (.ireturn, 1) := by decide +kernel
theorem dX1_tellPlace_0 : decode cX1_tellPlace 0 = .ok (.iload_n 2, 1) := by decide +kernel
theorem dX1_tellPlace_1 : decode cX1_tellPlace 1 = .ok (.ifCond .ne 9, 3) := by decide +kernel
theorem dX1_tellPlace_4 : decode cX1_tellPlace 4 = .ok (.aload_n 0, 1) := by decide +kernel
theorem dX1_tellPlace_5 : decode cX1_tellPlace 5 = .ok (.iload_n 1, 1) := by decide +kernel
theorem dX1_tellPlace_6 : decode cX1_tellPlace 6 = .ok (.invokevirtual 129, 3) := by decide +kernel
theorem dX1_tellPlace_9 : decode cX1_tellPlace 9 = .ok (.ireturn, 1) := by decide +kernel
theorem dX1_tellPlace_10 : decode cX1_tellPlace 10 = .ok (.iload_n 2, 1) := by decide +kernel
theorem dX1_tellPlace_11 : decode cX1_tellPlace 11 = .ok (.iconst 5, 1) := by decide +kernel
theorem dX1_tellPlace_12 : decode cX1_tellPlace 12 = .ok (.if_icmp .ne 14, 3) := by decide +kernel
theorem dX1_tellPlace_15 : decode cX1_tellPlace 15 = .ok (.aload_n 0, 1) := by decide +kernel
theorem dX1_tellPlace_16 : decode cX1_tellPlace 16 = .ok (.getfield 22, 3) := by decide +kernel
theorem dX1_tellPlace_19 : decode cX1_tellPlace 19 = .ok (.iload_n 1, 1) := by decide +kernel
theorem dX1_tellPlace_20 : decode cX1_tellPlace 20 = .ok (.invokestatic 109, 3) := by decide +kernel
theorem dX1_tellPlace_23 : decode cX1_tellPlace 23 = .ok (.goto 9, 3) := by decide +kernel
theorem dX1_tellPlace_26 : decode cX1_tellPlace 26 = .ok (.aload_n 0, 1) := by decide +kernel
theorem dX1_tellPlace_27 : decode cX1_tellPlace 27 = .ok (.iload_n 1, 1) := by decide +kernel
theorem dX1_tellPlace_28 : decode cX1_tellPlace 28 = .ok (.iload_n 2, 1) := by decide +kernel
theorem dX1_tellPlace_29 : decode cX1_tellPlace 29 = .ok (.invokevirtual 130, 3) := by decide +kernel
theorem dX1_tellPlace_32 : decode cX1_tellPlace 32 = .ok (.ireturn, 1) := by decide +kernel
theorem dX1_countOf_0 : decode cX1_countOf 0 = .ok (.iconst 0, 1) := by decide +kernel
theorem dX1_countOf_1 : decode cX1_countOf 1 = .ok (.istore_n 2, 1) := by decide +kernel
theorem dX1_countOf_2 : decode cX1_countOf 2 = .ok (.iconst 0, 1) := by decide +kernel
theorem dX1_countOf_3 : decode cX1_countOf 3 = .ok (.istore_n 3, 1) := by decide +kernel
theorem dX1_countOf_4 : decode cX1_countOf 4 = .ok (.iload_n 3, 1) := by decide +kernel
theorem dX1_countOf_5 : decode cX1_countOf 5 = .ok (.aload_n 0, 1) := by decide +kernel
theorem dX1_countOf_6 : decode cX1_countOf 6 = .ok (.getfield 28, 3) := by decide +kernel
theorem dX1_countOf_9 : decode cX1_countOf 9 = .ok (.if_icmp .ge 21, 3) := by decide +kernel
theorem dX1_countOf_12 : decode cX1_countOf 12 = .ok (.aload_n 0, 1) := by decide +kernel
theorem dX1_countOf_13 : decode cX1_countOf 13 = .ok (.iload_n 3, 1) := by decide +kernel
theorem dX1_countOf_14 : decode cX1_countOf 14 = .ok (.invokevirtual 129, 3) := by decide +kernel
theorem dX1_countOf_17 : decode cX1_countOf 17 = .ok (.iload_n 1, 1) := by decide +kernel
theorem dX1_countOf_18 : decode cX1_countOf 18 = .ok (.if_icmp .ne 6, 3) := by decide +kernel
theorem dX1_countOf_21 : decode cX1_countOf 21 = .ok (.iinc 2 1, 3) := by decide +kernel
theorem dX1_countOf_24 : decode cX1_countOf 24 = .ok (.iinc 3 1, 3) := by decide +kernel
theorem dX1_countOf_27 : decode cX1_countOf 27 = .ok (.goto (-23), 3) := by decide +kernel
theorem dX1_countOf_30 : decode cX1_countOf 30 = .ok (.iload_n 2, 1) := by decide +kernel
theorem dX1_countOf_31 : decode cX1_countOf 31 = .ok (.ireturn, 1) := by decide +kernel
theorem dX2_init_0 : decode cX2_init 0 = .ok (.aload_n 0, 1) := by decide +kernel
theorem dX2_init_1 : decode cX2_init 1 = .ok (.invokespecial 3, 3) := by decide +kernel
theorem dX2_init_4 : decode cX2_init 4 = .ok (.aload_n 0, 1) := by decide +kernel
theorem dX2_init_5 : decode cX2_init 5 = .ok (.aload_n 1, 1) := by decide +kernel
theorem dX2_init_6 : decode cX2_init 6 = .ok (.putfield 9, 3) := by decide +kernel
theorem dX2_init_9 : decode cX2_init 9 = .ok (.aload_n 0, 1) := by decide +kernel
theorem dX2_init_10 : decode cX2_init 10 = .ok (.bipush 88, 2) := by decide +kernel
theorem dX2_init_12 : decode cX2_init 12 = .ok (.newarray .int, 2) := by decide +kernel
theorem dX2_init_14 : decode cX2_init 14 = .ok (.putfield 15, 3) := by decide +kernel
theorem dX2_init_17 : decode cX2_init 17 = .ok (.aload_n 0, 1) := by decide +kernel
theorem dX2_init_18 : decode cX2_init 18 = .ok (.bipush 88, 2) := by decide +kernel
theorem dX2_init_20 : decode cX2_init 20 = .ok (.newarray .int, 2) := by decide +kernel
theorem dX2_init_22 : decode cX2_init 22 = .ok (.putfield 19, 3) := by decide +kernel
theorem dX2_init_25 : decode cX2_init 25 = .ok (.aload_n 0, 1) := by decide +kernel
theorem dX2_init_26 : decode cX2_init 26 = .ok (.bipush 88, 2) := by decide +kernel
theorem dX2_init_28 : decode cX2_init 28 = .ok (.newarray .int, 2) := by decide +kernel
theorem dX2_init_30 : decode cX2_init 30 = .ok (.putfield 22, 3) := by decide +kernel
theorem dX2_init_33 : decode cX2_init 33 = .ok (.aload_n 0, 1) := by decide +kernel
theorem dX2_init_34 : decode cX2_init 34 = .ok (.bipush 88, 2) := by decide +kernel
theorem dX2_init_36 : decode cX2_init 36 = .ok (.newarray .int, 2) := by decide +kernel
theorem dX2_init_38 : decode cX2_init 38 = .ok (.putfield 25, 3) := by decide +kernel
theorem dX2_init_41 : decode cX2_init 41 = .ok (.aload_n 0, 1) := by decide +kernel
theorem dX2_init_42 : decode cX2_init 42 = .ok (.bipush 88, 2) := by decide +kernel
theorem dX2_init_44 : decode cX2_init 44 = .ok (.newarray .int, 2) := by decide +kernel
theorem dX2_init_46 : decode cX2_init 46 = .ok (.putfield 28, 3) := by decide +kernel
theorem dX2_init_49 : decode cX2_init 49 = .ok (.return_, 1) := by decide +kernel
theorem dX2_give_0 : decode cX2_give 0 = .ok (.aload_n 0, 1) := by decide +kernel
theorem dX2_give_1 : decode cX2_give 1 = .ok (.iconst 0, 1) := by decide +kernel
theorem dX2_give_2 : decode cX2_give 2 = .ok (.putfield 31, 3) := by decide +kernel
theorem dX2_give_5 : decode cX2_give 5 = .ok (.aload_n 0, 1) := by decide +kernel
theorem dX2_give_6 : decode cX2_give 6 = .ok (.iconst 0, 1) := by decide +kernel
theorem dX2_give_7 : decode cX2_give 7 = .ok (.putfield 35, 3) := by decide +kernel
theorem dX2_give_10 : decode cX2_give 10 = .ok (.aload_n 0, 1) := by decide +kernel
theorem dX2_give_11 : decode cX2_give 11 = .ok (.iconst 0, 1) := by decide +kernel
theorem dX2_give_12 : decode cX2_give 12 = .ok (.putfield 38, 3) := by decide +kernel
theorem dX2_give_15 : decode cX2_give 15 = .ok (.aload_n 0, 1) := by decide +kernel
theorem dX2_give_16 : decode cX2_give 16 = .ok (.getfield 15, 3) := by decide +kernel
theorem dX2_give_19 : decode cX2_give 19 = .ok (.iconst (-1), 1) := by decide +kernel
theorem dX2_give_20 : decode cX2_give 20 = .ok (.invokestatic 41, 3) := by decide +kernel
theorem dX2_give_23 : decode cX2_give 23 = .ok (.aload_n 0, 1) := by decide +kernel
theorem dX2_give_24 : decode cX2_give 24 = .ok (.getfield 19, 3) := by decide +kernel
theorem dX2_give_27 : decode cX2_give 27 = .ok (.iconst (-1), 1) := by decide +kernel
theorem dX2_give_28 : decode cX2_give 28 = .ok (.invokestatic 41, 3) := by decide +kernel
theorem dX2_give_31 : decode cX2_give 31 = .ok (.aload_n 0, 1) := by decide +kernel
theorem dX2_give_32 : decode cX2_give 32 = .ok (.getfield 22, 3) := by decide +kernel
theorem dX2_give_35 : decode cX2_give 35 = .ok (.iconst 0, 1) := by decide +kernel
theorem dX2_give_36 : decode cX2_give 36 = .ok (.invokestatic 41, 3) := by decide +kernel
theorem dX2_give_39 : decode cX2_give 39 = .ok (.iconst 0, 1) := by decide +kernel
theorem dX2_give_40 : decode cX2_give 40 = .ok (.istore_n 3, 1) := by decide +kernel
theorem dX2_give_41 : decode cX2_give 41 = .ok (.iload_n 3, 1) := by decide +kernel
theorem dX2_give_42 : decode cX2_give 42 = .ok (.aload_n 1, 1) := by decide +kernel
theorem dX2_give_43 : decode cX2_give 43 = .ok (.getfield 45, 3) := by decide +kernel
theorem dX2_give_46 : decode cX2_give 46 = .ok (.if_icmp .ge 25, 3) := by decide +kernel
theorem dX2_give_49 : decode cX2_give 49 = .ok (.aload_n 1, 1) := by decide +kernel
theorem dX2_give_50 : decode cX2_give 50 = .ok (.aload_n 2, 1) := by decide +kernel
theorem dX2_give_51 : decode cX2_give 51 = .ok (.iload_n 3, 1) := by decide +kernel
theorem dX2_give_52 : decode cX2_give 52 = .ok (.invokestatic 50, 3) := by decide +kernel
theorem dX2_give_55 : decode cX2_give 55 = .ok (.ifCond .eq 10, 3) := by decide +kernel
theorem dX2_give_58 : decode cX2_give 58 = .ok (.aload_n 0, 1) := by decide +kernel
theorem dX2_give_59 : decode cX2_give 59 = .ok (.aload_n 1, 1) := by decide +kernel
theorem dX2_give_60 : decode cX2_give 60 = .ok (.aload_n 2, 1) := by decide +kernel
theorem dX2_give_61 : decode cX2_give 61 = .ok (.iload_n 3, 1) := by decide +kernel
theorem dX2_give_62 : decode cX2_give 62 = .ok (.invokevirtual 54, 3) := by decide +kernel
theorem dX2_give_65 : decode cX2_give 65 = .ok (.iinc 3 1, 3) := by decide +kernel
theorem dX2_give_68 : decode cX2_give 68 = .ok (.goto (-27), 3) := by decide +kernel
theorem dX2_give_71 : decode cX2_give 71 = .ok (.iconst 0, 1) := by decide +kernel
theorem dX2_give_72 : decode cX2_give 72 = .ok (.istore_n 3, 1) := by decide +kernel
theorem dX2_give_73 : decode cX2_give 73 = .ok (.iload_n 3, 1) := by decide +kernel
theorem dX2_give_74 : decode cX2_give 74 = .ok (.aload_n 1, 1) := by decide +kernel
theorem dX2_give_75 : decode cX2_give 75 = .ok (.getfield 45, 3) := by decide +kernel
theorem dX2_give_78 : decode cX2_give 78 = .ok (.if_icmp .ge 47, 3) := by decide +kernel
theorem dX2_give_81 : decode cX2_give 81 = .ok (.aload_n 1, 1) := by decide +kernel
theorem dX2_give_82 : decode cX2_give 82 = .ok (.aload_n 2, 1) := by decide +kernel
theorem dX2_give_83 : decode cX2_give 83 = .ok (.iload_n 3, 1) := by decide +kernel
theorem dX2_give_84 : decode cX2_give 84 = .ok (.invokestatic 50, 3) := by decide +kernel
theorem dX2_give_87 : decode cX2_give 87 = .ok (.ifCond .eq 32, 3) := by decide +kernel
theorem dX2_give_90 : decode cX2_give 90 = .ok (.aload_n 0, 1) := by decide +kernel
theorem dX2_give_91 : decode cX2_give 91 = .ok (.aload_n 1, 1) := by decide +kernel
theorem dX2_give_92 : decode cX2_give 92 = .ok (.iload_n 3, 1) := by decide +kernel
theorem dX2_give_93 : decode cX2_give 93 = .ok (.invokevirtual 58, 3) := by decide +kernel
theorem dX2_give_96 : decode cX2_give 96 = .ok (.invokevirtual 62, 3) := by decide +kernel
theorem dX2_give_99 : decode cX2_give 99 = .ok (.ifCond .eq 20, 3) := by decide +kernel
theorem dX2_give_102 : decode cX2_give 102 = .ok (.aload_n 0, 1) := by decide +kernel
theorem dX2_give_103 : decode cX2_give 103 = .ok (.dup, 1) := by decide +kernel
theorem dX2_give_104 : decode cX2_give 104 = .ok (.getfield 31, 3) := by decide +kernel
theorem dX2_give_107 : decode cX2_give 107 = .ok (.iconst 1, 1) := by decide +kernel
theorem dX2_give_108 : decode cX2_give 108 = .ok (.iadd, 1) := by decide +kernel
theorem dX2_give_109 : decode cX2_give 109 = .ok (.putfield 31, 3) := by decide +kernel
theorem dX2_give_112 : decode cX2_give 112 = .ok (.aload_n 0, 1) := by decide +kernel
theorem dX2_give_113 : decode cX2_give 113 = .ok (.aload_n 1, 1) := by decide +kernel
theorem dX2_give_114 : decode cX2_give 114 = .ok (.aload_n 2, 1) := by decide +kernel
theorem dX2_give_115 : decode cX2_give 115 = .ok (.iload_n 3, 1) := by decide +kernel
theorem dX2_give_116 : decode cX2_give 116 = .ok (.invokevirtual 66, 3) := by decide +kernel
theorem dX2_give_119 : decode cX2_give 119 = .ok (.iinc 3 1, 3) := by decide +kernel
theorem dX2_give_122 : decode cX2_give 122 = .ok (.goto (-49), 3) := by decide +kernel
theorem dX2_give_125 : decode cX2_give 125 = .ok (.aload_n 0, 1) := by decide +kernel
theorem dX2_give_126 : decode cX2_give 126 = .ok (.aload_n 0, 1) := by decide +kernel
theorem dX2_give_127 : decode cX2_give 127 = .ok (.getfield 38, 3) := by decide +kernel
theorem dX2_give_130 : decode cX2_give 130 = .ok (.aload_n 0, 1) := by decide +kernel
theorem dX2_give_131 : decode cX2_give 131 = .ok (.aload_n 2, 1) := by decide +kernel
theorem dX2_give_132 : decode cX2_give 132 = .ok (.getfield 69, 3) := by decide +kernel
theorem dX2_give_135 : decode cX2_give 135 = .ok (.invokevirtual 74, 3) := by decide +kernel
theorem dX2_give_138 : decode cX2_give 138 = .ok (.iadd, 1) := by decide +kernel
theorem dX2_give_139 : decode cX2_give 139 = .ok (.putfield 77, 3) := by decide +kernel
theorem dX2_give_142 : decode cX2_give 142 = .ok (.aload_n 0, 1) := by decide +kernel
theorem dX2_give_143 : decode cX2_give 143 = .ok (.dup, 1) := by decide +kernel
theorem dX2_give_144 : decode cX2_give 144 = .ok (.getfield 77, 3) := by decide +kernel
theorem dX2_give_147 : decode cX2_give 147 = .ok (.aload_n 0, 1) := by decide +kernel
theorem dX2_give_148 : decode cX2_give 148 = .ok (.getfield 77, 3) := by decide +kernel
theorem dX2_give_151 : decode cX2_give 151 = .ok (.iconst 1, 1) := by decide +kernel
theorem dX2_give_152 : decode cX2_give 152 = .ok (.iand, 1) := by decide +kernel
theorem dX2_give_153 : decode cX2_give 153 = .ok (.iadd, 1) := by decide +kernel
theorem dX2_give_154 : decode cX2_give 154 = .ok (.putfield 77, 3) := by decide +kernel
theorem dX2_give_157 : decode cX2_give 157 = .ok (.return_, 1) := by decide +kernel
theorem dX2_isBirth_0 : decode cX2_isBirth 0 = .ok (.aload_n 1, 1) := by decide +kernel
theorem dX2_isBirth_1 : decode cX2_isBirth 1 = .ok (.aload_n 0, 1) := by decide +kernel
theorem dX2_isBirth_2 : decode cX2_isBirth 2 = .ok (.iload_n 2, 1) := by decide +kernel
theorem dX2_isBirth_3 : decode cX2_isBirth 3 = .ok (.invokevirtual 58, 3) := by decide +kernel
theorem dX2_isBirth_6 : decode cX2_isBirth 6 = .ok (.invokevirtual 80, 3) := by decide +kernel
theorem dX2_isBirth_9 : decode cX2_isBirth 9 = .ok (.iload_n 2, 1) := by decide +kernel
theorem dX2_isBirth_10 : decode cX2_isBirth 10 = .ok (.if_icmp .ne 7, 3) := by decide +kernel
theorem dX2_isBirth_13 : decode cX2_isBirth 13 = .ok (.iconst 1, 1) := by decide +kernel
theorem dX2_isBirth_14 : decode cX2_isBirth 14 = .ok (.goto 4, 3) := by decide +kernel
theorem dX2_isBirth_17 : decode cX2_isBirth 17 = .ok (.iconst 0, 1) := by decide +kernel
theorem dX2_isBirth_18 : decode cX2_isBirth 18 = .ok (.ireturn, 1) := by decide +kernel
theorem dX2_giveRegister_0 : decode cX2_giveRegister 0 = .ok (.aload_n 1, 1) := by decide +kernel
theorem dX2_giveRegister_1 : decode cX2_giveRegister 1 = .ok (.iload_n 3, 1) := by decide +kernel
theorem dX2_giveRegister_2 : decode cX2_giveRegister 2 = .ok (.invokevirtual 58, 3) := by decide +kernel
theorem dX2_giveRegister_5 : decode cX2_giveRegister 5 = .ok (.istore 4, 2) := by decide +kernel
theorem dX2_giveRegister_7 : decode cX2_giveRegister 7 = .ok (.aload_n 2, 1) := by decide +kernel
theorem dX2_giveRegister_8 : decode cX2_giveRegister 8 = .ok (.iload 4, 2) := by decide +kernel
theorem dX2_giveRegister_10 : decode cX2_giveRegister 10 = .ok (.invokevirtual 83, 3) := by decide +kernel
theorem dX2_giveRegister_13 : decode cX2_giveRegister 13 = .ok (.ifCond .le 13, 3) := by decide +kernel
theorem dX2_giveRegister_16 : decode cX2_giveRegister 16 = .ok (.aload_n 0, 1) := by decide +kernel
theorem dX2_giveRegister_17 : decode cX2_giveRegister 17 = .ok (.getfield 9, 3) := by decide +kernel
theorem dX2_giveRegister_20 : decode cX2_giveRegister 20 = .ok (.getfield 86, 3) := by decide +kernel
theorem dX2_giveRegister_23 : decode cX2_giveRegister 23 = .ok (.goto 15, 3) := by decide +kernel
theorem dX2_giveRegister_26 : decode cX2_giveRegister 26 = .ok (.aload_n 0, 1) := by decide +kernel
theorem dX2_giveRegister_27 : decode cX2_giveRegister 27 = .ok (.getfield 9, 3) := by decide +kernel
theorem dX2_giveRegister_30 : decode cX2_giveRegister 30 = .ok (.invokevirtual 91, 3) := by decide +kernel
theorem dX2_giveRegister_33 : decode cX2_giveRegister 33 = .ok (.invokestatic 95, 3) := by decide +kernel
theorem dX2_giveRegister_36 : decode cX2_giveRegister 36 = .ok (.iconst 1, 1) := by decide +kernel
theorem dX2_giveRegister_37 : decode cX2_giveRegister 37 = .ok (.isub, 1) := by decide +kernel
theorem dX2_giveRegister_38 : decode cX2_giveRegister 38 = .ok (.istore 5, 2) := by decide +kernel
theorem dX2_giveRegister_40 : decode cX2_giveRegister 40 = .ok (.iload 5, 2) := by decide +kernel
theorem dX2_giveRegister_42 : decode cX2_giveRegister 42 = .ok (.aload_n 0, 1) := by decide +kernel
theorem dX2_giveRegister_43 : decode cX2_giveRegister 43 = .ok (.aload_n 2, 1) := by decide +kernel
theorem dX2_giveRegister_44 : decode cX2_giveRegister 44 = .ok (.iload_n 3, 1) := by decide +kernel
theorem dX2_giveRegister_45 : decode cX2_giveRegister 45 = .ok (.invokevirtual 98, 3) := by decide +kernel
theorem dX2_giveRegister_48 : decode cX2_giveRegister 48 = .ok (.iconst (-1), 1) := by decide +kernel
theorem dX2_giveRegister_49 : decode cX2_giveRegister 49 = .ok (.ixor, 1) := by decide +kernel
theorem dX2_giveRegister_50 : decode cX2_giveRegister 50 = .ok (.iand, 1) := by decide +kernel
theorem dX2_giveRegister_51 : decode cX2_giveRegister 51 = .ok (.istore 6, 2) := by decide +kernel
theorem dX2_giveRegister_53 : decode cX2_giveRegister 53 = .ok (.iload 6, 2) := by decide +kernel
theorem dX2_giveRegister_55 : decode cX2_giveRegister 55 = .ok (.ifCond .ne 13, 3) := by decide +kernel
theorem dX2_giveRegister_58 : decode cX2_giveRegister 58 = .ok (.aload_n 0, 1) := by decide +kernel
theorem dX2_giveRegister_59 : decode cX2_giveRegister 59 = .ok (.aload_n 2, 1) := by decide +kernel
theorem dX2_giveRegister_60 : decode cX2_giveRegister 60 = .ok (.iload 4, 2) := by decide +kernel
theorem dX2_giveRegister_62 : decode cX2_giveRegister 62 = .ok (.iload 5, 2) := by decide +kernel
theorem dX2_giveRegister_64 : decode cX2_giveRegister 64 = .ok (.invokevirtual 102, 3) := by decide +kernel
theorem dX2_giveRegister_67 : decode cX2_giveRegister 67 = .ok (.return_, 1) := by decide +kernel
theorem dX2_giveRegister_68 : decode cX2_giveRegister 68 = .ok (.aload_n 0, 1) := by decide +kernel
theorem dX2_giveRegister_69 : decode cX2_giveRegister 69 = .ok (.aload_n 1, 1) := by decide +kernel
theorem dX2_giveRegister_70 : decode cX2_giveRegister 70 = .ok (.iload_n 3, 1) := by decide +kernel
theorem dX2_giveRegister_71 : decode cX2_giveRegister 71 = .ok (.invokevirtual 106, 3) := by decide +kernel
theorem dX2_giveRegister_74 : decode cX2_giveRegister 74 = .ok (.istore 7, 2) := by decide +kernel
theorem dX2_giveRegister_76 : decode cX2_giveRegister 76 = .ok (.aload_n 0, 1) := by decide +kernel
theorem dX2_giveRegister_77 : decode cX2_giveRegister 77 = .ok (.getfield 15, 3) := by decide +kernel
theorem dX2_giveRegister_80 : decode cX2_giveRegister 80 = .ok (.iload 4, 2) := by decide +kernel
theorem dX2_giveRegister_82 : decode cX2_giveRegister 82 = .ok (.iload 6, 2) := by decide +kernel
theorem dX2_giveRegister_84 : decode cX2_giveRegister 84 = .ok (.iload 7, 2) := by decide +kernel
theorem dX2_giveRegister_86 : decode cX2_giveRegister 86 = .ok (.invokestatic 110, 3) := by decide +kernel
theorem dX2_giveRegister_89 : decode cX2_giveRegister 89 = .ok (.ifCond .eq 8, 3) := by decide +kernel
theorem dX2_giveRegister_92 : decode cX2_giveRegister 92 = .ok (.iload 7, 2) := by decide +kernel
theorem dX2_giveRegister_94 : decode cX2_giveRegister 94 = .ok (.goto 8, 3) := by decide +kernel
theorem dX2_giveRegister_97 : decode cX2_giveRegister 97 = .ok (.iload 6, 2) := by decide +kernel
theorem dX2_giveRegister_99 : decode cX2_giveRegister 99 = .ok (.invokestatic 114, 3) := by decide +kernel
theorem dX2_giveRegister_102 : decode cX2_giveRegister 102 = .ok (.invokestatic 117, 3) := by decide +kernel
theorem dX2_giveRegister_105 : decode cX2_giveRegister 105 = .ok (.return_, 1) := by decide +kernel
theorem dX2_takenBehind_0 : decode cX2_takenBehind 0 = .ok (.iconst 0, 1) := by decide +kernel
theorem dX2_takenBehind_1 : decode cX2_takenBehind 1 = .ok (.istore_n 3, 1) := by decide +kernel
theorem dX2_takenBehind_2 : decode cX2_takenBehind 2 = .ok (.iconst 0, 1) := by decide +kernel
theorem dX2_takenBehind_3 : decode cX2_takenBehind 3 = .ok (.istore 4, 2) := by decide +kernel
theorem dX2_takenBehind_5 : decode cX2_takenBehind 5 = .ok (.iload 4, 2) := by decide +kernel
theorem dX2_takenBehind_7 : decode cX2_takenBehind 7 = .ok (.aload_n 1, 1) := by decide +kernel
theorem dX2_takenBehind_8 : decode cX2_takenBehind 8 = .ok (.getfield 69, 3) := by decide +kernel
theorem dX2_takenBehind_11 : decode cX2_takenBehind 11 = .ok (.if_icmp .ge 44, 3) := by decide +kernel
theorem dX2_takenBehind_14 : decode cX2_takenBehind 14 = .ok (.aload_n 0, 1) := by decide +kernel
theorem dX2_takenBehind_15 : decode cX2_takenBehind 15 = .ok (.getfield 15, 3) := by decide +kernel
theorem dX2_takenBehind_18 : decode cX2_takenBehind 18 = .ok (.iload 4, 2) := by decide +kernel
theorem dX2_takenBehind_20 : decode cX2_takenBehind 20 = .ok (.invokestatic 121, 3) := by decide +kernel
theorem dX2_takenBehind_23 : decode cX2_takenBehind 23 = .ok (.istore 5, 2) := by decide +kernel
theorem dX2_takenBehind_25 : decode cX2_takenBehind 25 = .ok (.iload 5, 2) := by decide +kernel
theorem dX2_takenBehind_27 : decode cX2_takenBehind 27 = .ok (.iconst (-1), 1) := by decide +kernel
theorem dX2_takenBehind_28 : decode cX2_takenBehind 28 = .ok (.if_icmp .eq 21, 3) := by decide +kernel
theorem dX2_takenBehind_31 : decode cX2_takenBehind 31 = .ok (.aload_n 1, 1) := by decide +kernel
theorem dX2_takenBehind_32 : decode cX2_takenBehind 32 = .ok (.iload 4, 2) := by decide +kernel
theorem dX2_takenBehind_34 : decode cX2_takenBehind 34 = .ok (.invokevirtual 125, 3) := by decide +kernel
theorem dX2_takenBehind_37 : decode cX2_takenBehind 37 = .ok (.iload_n 2, 1) := by decide +kernel
theorem dX2_takenBehind_38 : decode cX2_takenBehind 38 = .ok (.if_icmp .le 11, 3) := by decide +kernel
theorem dX2_takenBehind_41 : decode cX2_takenBehind 41 = .ok (.iload_n 3, 1) := by decide +kernel
theorem dX2_takenBehind_42 : decode cX2_takenBehind 42 = .ok (.iload 5, 2) := by decide +kernel
theorem dX2_takenBehind_44 : decode cX2_takenBehind 44 = .ok (.invokestatic 95, 3) := by decide +kernel
theorem dX2_takenBehind_47 : decode cX2_takenBehind 47 = .ok (.ior, 1) := by decide +kernel
theorem dX2_takenBehind_48 : decode cX2_takenBehind 48 = .ok (.istore_n 3, 1) := by decide +kernel
theorem dX2_takenBehind_49 : decode cX2_takenBehind 49 = .ok (.iinc 4 1, 3) := by decide +kernel
theorem dX2_takenBehind_52 : decode cX2_takenBehind 52 = .ok (.goto (-47), 3) := by decide +kernel
theorem dX2_takenBehind_55 : decode cX2_takenBehind 55 = .ok (.iload_n 3, 1) := by decide +kernel
theorem dX2_takenBehind_56 : decode cX2_takenBehind 56 = .ok (.ireturn, 1) := by decide +kernel
theorem dX2_likedRegister_0 : decode cX2_likedRegister 0 = .ok (.aload_n 1, 1) := by decide +kernel
theorem dX2_likedRegister_1 : decode cX2_likedRegister 1 = .ok (.iload_n 2, 1) := by decide +kernel
theorem dX2_likedRegister_2 : decode cX2_likedRegister 2 = .ok (.invokevirtual 128, 3) := by decide +kernel
theorem dX2_likedRegister_5 : decode cX2_likedRegister 5 = .ok (.istore_n 3, 1) := by decide +kernel
theorem dX2_likedRegister_6 : decode cX2_likedRegister 6 = .ok (.aload_n 0, 1) := by decide +kernel
theorem dX2_likedRegister_7 : decode cX2_likedRegister 7 = .ok (.getfield 9, 3) := by decide +kernel
theorem dX2_likedRegister_10 : decode cX2_likedRegister 10 = .ok (.getfield 131, 3) := by decide +kernel
theorem dX2_likedRegister_13 : decode cX2_likedRegister 13 = .ok (.ifCond .eq 22, 3) := by decide +kernel
theorem dX2_likedRegister_16 : decode cX2_likedRegister 16 = .ok (.iload_n 3, 1) := by decide +kernel
theorem dX2_likedRegister_17 : decode cX2_likedRegister 17 = .ok (.iconst 2, 1) := by decide +kernel
theorem dX2_likedRegister_18 : decode cX2_likedRegister 18 = .ok (.if_icmp .eq 13, 3) := by decide +kernel
theorem dX2_likedRegister_21 : decode cX2_likedRegister 21 = .ok (.iload_n 3, 1) := by decide +kernel
theorem dX2_likedRegister_22 : decode cX2_likedRegister 22 = .ok (.iconst 3, 1) := by decide +kernel
theorem dX2_likedRegister_23 : decode cX2_likedRegister 23 = .ok (.if_icmp .eq 8, 3) := by decide +kernel
theorem dX2_likedRegister_26 : decode cX2_likedRegister 26 = .ok (.iload_n 3, 1) := by decide +kernel
theorem dX2_likedRegister_27 : decode cX2_likedRegister 27 = .ok (.iconst 4, 1) := by decide +kernel
theorem dX2_likedRegister_28 : decode cX2_likedRegister 28 = .ok (.if_icmp .ne 7, 3) := by decide +kernel
theorem dX2_likedRegister_31 : decode cX2_likedRegister 31 = .ok (.iconst 1, 1) := by decide +kernel
theorem dX2_likedRegister_32 : decode cX2_likedRegister 32 = .ok (.goto 4, 3) := by decide +kernel
theorem dX2_likedRegister_35 : decode cX2_likedRegister 35 = .ok (.iconst 0, 1) := by decide +kernel
theorem dX2_likedRegister_36 : decode cX2_likedRegister 36 = .ok (.istore 4, 2) := by decide +kernel
theorem dX2_likedRegister_38 : decode cX2_likedRegister 38 = .ok (.iload_n 3, 1) := by decide +kernel
theorem dX2_likedRegister_39 : decode cX2_likedRegister 39 = .ok (.iconst 1, 1) := by decide +kernel
theorem dX2_likedRegister_40 : decode cX2_likedRegister 40 = .ok (.if_icmp .eq 8, 3) := by decide +kernel
theorem dX2_likedRegister_43 : decode cX2_likedRegister 43 = .ok (.iload 4, 2) := by decide +kernel
theorem dX2_likedRegister_45 : decode cX2_likedRegister 45 = .ok (.ifCond .eq 16, 3) := by decide +kernel
theorem dX2_likedRegister_48 : decode cX2_likedRegister 48 = .ok (.aload_n 0, 1) := by decide +kernel
theorem dX2_likedRegister_49 : decode cX2_likedRegister 49 = .ok (.aload_n 1, 1) := by decide +kernel
theorem dX2_likedRegister_50 : decode cX2_likedRegister 50 = .ok (.iload_n 2, 1) := by decide +kernel
theorem dX2_likedRegister_51 : decode cX2_likedRegister 51 = .ok (.iconst 0, 1) := by decide +kernel
theorem dX2_likedRegister_52 : decode cX2_likedRegister 52 = .ok (.invokevirtual 135, 3) := by decide +kernel
theorem dX2_likedRegister_55 : decode cX2_likedRegister 55 = .ok (.invokevirtual 139, 3) := by decide +kernel
theorem dX2_likedRegister_58 : decode cX2_likedRegister 58 = .ok (.goto 4, 3) := by decide +kernel
theorem dX2_likedRegister_61 : decode cX2_likedRegister 61 = .ok (.iconst (-1), 1) := by decide +kernel
theorem dX2_likedRegister_62 : decode cX2_likedRegister 62 = .ok (.ireturn, 1) := by decide +kernel
theorem dX2_smallestOf_0 : decode cX2_smallestOf 0 = .ok (.iconst 0, 1) := by decide +kernel
theorem dX2_smallestOf_1 : decode cX2_smallestOf 1 = .ok (.istore_n 1, 1) := by decide +kernel
theorem dX2_smallestOf_2 : decode cX2_smallestOf 2 = .ok (.iload_n 1, 1) := by decide +kernel
theorem dX2_smallestOf_3 : decode cX2_smallestOf 3 = .ok (.bipush 11, 2) := by decide +kernel
theorem dX2_smallestOf_5 : decode cX2_smallestOf 5 = .ok (.if_icmp .ge 17, 3) := by decide +kernel
theorem dX2_smallestOf_8 : decode cX2_smallestOf 8 = .ok (.iload_n 0, 1) := by decide +kernel
theorem dX2_smallestOf_9 : decode cX2_smallestOf 9 = .ok (.iload_n 1, 1) := by decide +kernel
theorem dX2_smallestOf_10 : decode cX2_smallestOf 10 = .ok (.invokestatic 110, 3) := by decide +kernel
theorem dX2_smallestOf_13 : decode cX2_smallestOf 13 = .ok (.ifCond .ne 9, 3) := by decide +kernel
theorem dX2_smallestOf_16 : decode cX2_smallestOf 16 = .ok (.iinc 1 1, 3) := by decide +kernel
theorem dX2_smallestOf_19 : decode cX2_smallestOf 19 = .ok (.goto (-17), 3) := by decide +kernel
theorem dX2_smallestOf_22 : decode cX2_smallestOf 22 = .ok (.iload_n 1, 1) := by decide +kernel
theorem dX2_smallestOf_23 : decode cX2_smallestOf 23 = .ok (.ireturn, 1) := by decide +kernel
theorem dX2_spillOne_0 : decode cX2_spillOne 0 = .ok (.aload_n 1, 1) := by decide +kernel
theorem dX2_spillOne_1 : decode cX2_spillOne 1 = .ok (.iload_n 2, 1) := by decide +kernel
theorem dX2_spillOne_2 : decode cX2_spillOne 2 = .ok (.invokevirtual 80, 3) := by decide +kernel
theorem dX2_spillOne_5 : decode cX2_spillOne 5 = .ok (.istore 4, 2) := by decide +kernel
theorem dX2_spillOne_7 : decode cX2_spillOne 7 = .ok (.iload_n 2, 1) := by decide +kernel
theorem dX2_spillOne_8 : decode cX2_spillOne 8 = .ok (.istore 5, 2) := by decide +kernel
theorem dX2_spillOne_10 : decode cX2_spillOne 10 = .ok (.iconst 0, 1) := by decide +kernel
theorem dX2_spillOne_11 : decode cX2_spillOne 11 = .ok (.istore 6, 2) := by decide +kernel
theorem dX2_spillOne_13 : decode cX2_spillOne 13 = .ok (.iload 6, 2) := by decide +kernel
theorem dX2_spillOne_15 : decode cX2_spillOne 15 = .ok (.aload_n 1, 1) := by decide +kernel
theorem dX2_spillOne_16 : decode cX2_spillOne 16 = .ok (.getfield 69, 3) := by decide +kernel
theorem dX2_spillOne_19 : decode cX2_spillOne 19 = .ok (.if_icmp .ge 51, 3) := by decide +kernel
theorem dX2_spillOne_22 : decode cX2_spillOne 22 = .ok (.iload_n 3, 1) := by decide +kernel
theorem dX2_spillOne_23 : decode cX2_spillOne 23 = .ok (.aload_n 0, 1) := by decide +kernel
theorem dX2_spillOne_24 : decode cX2_spillOne 24 = .ok (.getfield 15, 3) := by decide +kernel
theorem dX2_spillOne_27 : decode cX2_spillOne 27 = .ok (.iload 6, 2) := by decide +kernel
theorem dX2_spillOne_29 : decode cX2_spillOne 29 = .ok (.invokestatic 121, 3) := by decide +kernel
theorem dX2_spillOne_32 : decode cX2_spillOne 32 = .ok (.invokestatic 110, 3) := by decide +kernel
theorem dX2_spillOne_35 : decode cX2_spillOne 35 = .ok (.ifCond .eq 29, 3) := by decide +kernel
theorem dX2_spillOne_38 : decode cX2_spillOne 38 = .ok (.aload_n 1, 1) := by decide +kernel
theorem dX2_spillOne_39 : decode cX2_spillOne 39 = .ok (.iload 6, 2) := by decide +kernel
theorem dX2_spillOne_41 : decode cX2_spillOne 41 = .ok (.invokevirtual 125, 3) := by decide +kernel
theorem dX2_spillOne_44 : decode cX2_spillOne 44 = .ok (.iload 4, 2) := by decide +kernel
theorem dX2_spillOne_46 : decode cX2_spillOne 46 = .ok (.if_icmp .le 18, 3) := by decide +kernel
theorem dX2_spillOne_49 : decode cX2_spillOne 49 = .ok (.aload_n 1, 1) := by decide +kernel
theorem dX2_spillOne_50 : decode cX2_spillOne 50 = .ok (.iload 6, 2) := by decide +kernel
theorem dX2_spillOne_52 : decode cX2_spillOne 52 = .ok (.iload 5, 2) := by decide +kernel
theorem dX2_spillOne_54 : decode cX2_spillOne 54 = .ok (.invokestatic 142, 3) := by decide +kernel
theorem dX2_spillOne_57 : decode cX2_spillOne 57 = .ok (.ifCond .eq 7, 3) := by decide +kernel
theorem dX2_spillOne_60 : decode cX2_spillOne 60 = .ok (.iload 6, 2) := by decide +kernel
theorem dX2_spillOne_62 : decode cX2_spillOne 62 = .ok (.istore 5, 2) := by decide +kernel
theorem dX2_spillOne_64 : decode cX2_spillOne 64 = .ok (.iinc 6 1, 3) := by decide +kernel
theorem dX2_spillOne_67 : decode cX2_spillOne 67 = .ok (.goto (-54), 3) := by decide +kernel
theorem dX2_spillOne_70 : decode cX2_spillOne 70 = .ok (.iload 5, 2) := by decide +kernel
theorem dX2_spillOne_72 : decode cX2_spillOne 72 = .ok (.iload_n 2, 1) := by decide +kernel
theorem dX2_spillOne_73 : decode cX2_spillOne 73 = .ok (.if_icmp .eq 30, 3) := by decide +kernel
theorem dX2_spillOne_76 : decode cX2_spillOne 76 = .ok (.aload_n 0, 1) := by decide +kernel
theorem dX2_spillOne_77 : decode cX2_spillOne 77 = .ok (.getfield 15, 3) := by decide +kernel
theorem dX2_spillOne_80 : decode cX2_spillOne 80 = .ok (.iload_n 2, 1) := by decide +kernel
theorem dX2_spillOne_81 : decode cX2_spillOne 81 = .ok (.aload_n 0, 1) := by decide +kernel
theorem dX2_spillOne_82 : decode cX2_spillOne 82 = .ok (.getfield 15, 3) := by decide +kernel
theorem dX2_spillOne_85 : decode cX2_spillOne 85 = .ok (.iload 5, 2) := by decide +kernel
theorem dX2_spillOne_87 : decode cX2_spillOne 87 = .ok (.invokestatic 121, 3) := by decide +kernel
theorem dX2_spillOne_90 : decode cX2_spillOne 90 = .ok (.invokestatic 117, 3) := by decide +kernel
theorem dX2_spillOne_93 : decode cX2_spillOne 93 = .ok (.aload_n 0, 1) := by decide +kernel
theorem dX2_spillOne_94 : decode cX2_spillOne 94 = .ok (.getfield 15, 3) := by decide +kernel
theorem dX2_spillOne_97 : decode cX2_spillOne 97 = .ok (.iload 5, 2) := by decide +kernel
theorem dX2_spillOne_99 : decode cX2_spillOne 99 = .ok (.iconst (-1), 1) := by decide +kernel
theorem dX2_spillOne_100 : decode cX2_spillOne 100 = .ok (.invokestatic 117, 3) := by decide +kernel
theorem dX2_spillOne_103 : decode cX2_spillOne 103 = .ok (.return_, 1) := by decide +kernel
theorem dX2_isLighter_0 : decode cX2_isLighter 0 = .ok (.aload_n 0, 1) := by decide +kernel
theorem dX2_isLighter_1 : decode cX2_isLighter 1 = .ok (.getfield 146, 3) := by decide +kernel
theorem dX2_isLighter_4 : decode cX2_isLighter 4 = .ok (.iload_n 1, 1) := by decide +kernel
theorem dX2_isLighter_5 : decode cX2_isLighter 5 = .ok (.invokestatic 121, 3) := by decide +kernel
theorem dX2_isLighter_8 : decode cX2_isLighter 8 = .ok (.aload_n 0, 1) := by decide +kernel
theorem dX2_isLighter_9 : decode cX2_isLighter 9 = .ok (.getfield 146, 3) := by decide +kernel
theorem dX2_isLighter_12 : decode cX2_isLighter 12 = .ok (.iload_n 2, 1) := by decide +kernel
theorem dX2_isLighter_13 : decode cX2_isLighter 13 = .ok (.invokestatic 121, 3) := by decide +kernel
theorem dX2_isLighter_16 : decode cX2_isLighter 16 = .ok (.isub, 1) := by decide +kernel
theorem dX2_isLighter_17 : decode cX2_isLighter 17 = .ok (.istore_n 3, 1) := by decide +kernel
theorem dX2_isLighter_18 : decode cX2_isLighter 18 = .ok (.iload_n 3, 1) := by decide +kernel
theorem dX2_isLighter_19 : decode cX2_isLighter 19 = .ok (.ifCond .lt 12, 3) := by decide +kernel
theorem dX2_isLighter_22 : decode cX2_isLighter 22 = .ok (.iload_n 3, 1) := by decide +kernel
theorem dX2_isLighter_23 : decode cX2_isLighter 23 = .ok (.ifCond .ne 12, 3) := by decide +kernel
theorem dX2_isLighter_26 : decode cX2_isLighter 26 = .ok (.iload_n 1, 1) := by decide +kernel
theorem dX2_isLighter_27 : decode cX2_isLighter 27 = .ok (.iload_n 2, 1) := by decide +kernel
theorem dX2_isLighter_28 : decode cX2_isLighter 28 = .ok (.if_icmp .le 7, 3) := by decide +kernel
theorem dX2_isLighter_31 : decode cX2_isLighter 31 = .ok (.iconst 1, 1) := by decide +kernel
theorem dX2_isLighter_32 : decode cX2_isLighter 32 = .ok (.goto 4, 3) := by decide +kernel
theorem dX2_isLighter_35 : decode cX2_isLighter 35 = .ok (.iconst 0, 1) := by decide +kernel
theorem dX2_isLighter_36 : decode cX2_isLighter 36 = .ok (.ireturn, 1) := by decide +kernel
theorem dX2_giveSlot_0 : decode cX2_giveSlot 0 = .ok (.aload_n 1, 1) := by decide +kernel
theorem dX2_giveSlot_1 : decode cX2_giveSlot 1 = .ok (.iload_n 3, 1) := by decide +kernel
theorem dX2_giveSlot_2 : decode cX2_giveSlot 2 = .ok (.invokevirtual 58, 3) := by decide +kernel
theorem dX2_giveSlot_5 : decode cX2_giveSlot 5 = .ok (.istore 4, 2) := by decide +kernel
theorem dX2_giveSlot_7 : decode cX2_giveSlot 7 = .ok (.aload_n 2, 1) := by decide +kernel
theorem dX2_giveSlot_8 : decode cX2_giveSlot 8 = .ok (.iload 4, 2) := by decide +kernel
theorem dX2_giveSlot_10 : decode cX2_giveSlot 10 = .ok (.invokevirtual 149, 3) := by decide +kernel
theorem dX2_giveSlot_13 : decode cX2_giveSlot 13 = .ok (.iconst 1, 1) := by decide +kernel
theorem dX2_giveSlot_14 : decode cX2_giveSlot 14 = .ok (.if_icmp .ne 46, 3) := by decide +kernel
theorem dX2_giveSlot_17 : decode cX2_giveSlot 17 = .ok (.aload_n 1, 1) := by decide +kernel
theorem dX2_giveSlot_18 : decode cX2_giveSlot 18 = .ok (.iload_n 3, 1) := by decide +kernel
theorem dX2_giveSlot_19 : decode cX2_giveSlot 19 = .ok (.invokevirtual 128, 3) := by decide +kernel
theorem dX2_giveSlot_22 : decode cX2_giveSlot 22 = .ok (.ifCond .ne 38, 3) := by decide +kernel
theorem dX2_giveSlot_25 : decode cX2_giveSlot 25 = .ok (.aload_n 0, 1) := by decide +kernel
theorem dX2_giveSlot_26 : decode cX2_giveSlot 26 = .ok (.getfield 22, 3) := by decide +kernel
theorem dX2_giveSlot_29 : decode cX2_giveSlot 29 = .ok (.iload 4, 2) := by decide +kernel
theorem dX2_giveSlot_31 : decode cX2_giveSlot 31 = .ok (.iconst 1, 1) := by decide +kernel
theorem dX2_giveSlot_32 : decode cX2_giveSlot 32 = .ok (.invokestatic 117, 3) := by decide +kernel
theorem dX2_giveSlot_35 : decode cX2_giveSlot 35 = .ok (.aload_n 0, 1) := by decide +kernel
theorem dX2_giveSlot_36 : decode cX2_giveSlot 36 = .ok (.getfield 25, 3) := by decide +kernel
theorem dX2_giveSlot_39 : decode cX2_giveSlot 39 = .ok (.iload 4, 2) := by decide +kernel
theorem dX2_giveSlot_41 : decode cX2_giveSlot 41 = .ok (.aload_n 1, 1) := by decide +kernel
theorem dX2_giveSlot_42 : decode cX2_giveSlot 42 = .ok (.iload_n 3, 1) := by decide +kernel
theorem dX2_giveSlot_43 : decode cX2_giveSlot 43 = .ok (.invokevirtual 152, 3) := by decide +kernel
theorem dX2_giveSlot_46 : decode cX2_giveSlot 46 = .ok (.invokestatic 117, 3) := by decide +kernel
theorem dX2_giveSlot_49 : decode cX2_giveSlot 49 = .ok (.aload_n 0, 1) := by decide +kernel
theorem dX2_giveSlot_50 : decode cX2_giveSlot 50 = .ok (.dup, 1) := by decide +kernel
theorem dX2_giveSlot_51 : decode cX2_giveSlot 51 = .ok (.getfield 35, 3) := by decide +kernel
theorem dX2_giveSlot_54 : decode cX2_giveSlot 54 = .ok (.iconst 1, 1) := by decide +kernel
theorem dX2_giveSlot_55 : decode cX2_giveSlot 55 = .ok (.iadd, 1) := by decide +kernel
theorem dX2_giveSlot_56 : decode cX2_giveSlot 56 = .ok (.putfield 35, 3) := by decide +kernel
theorem dX2_giveSlot_59 : decode cX2_giveSlot 59 = .ok (.return_, 1) := by decide +kernel
theorem dX2_giveSlot_60 : decode cX2_giveSlot 60 = .ok (.aload_n 0, 1) := by decide +kernel
theorem dX2_giveSlot_61 : decode cX2_giveSlot 61 = .ok (.aload_n 2, 1) := by decide +kernel
theorem dX2_giveSlot_62 : decode cX2_giveSlot 62 = .ok (.iload_n 3, 1) := by decide +kernel
