theorem dX2_giveSlot_63 : decode cX2_giveSlot 63 = .ok (.invokevirtual 155, 3) := by decide +kernel
theorem dX2_giveSlot_66 : decode cX2_giveSlot 66 = .ok (.istore 5, 2) := by decide +kernel
theorem dX2_giveSlot_68 : decode cX2_giveSlot 68 = .ok (.aload_n 0, 1) := by decide +kernel
theorem dX2_giveSlot_69 : decode cX2_giveSlot 69 = .ok (.getfield 19, 3) := by decide +kernel
theorem dX2_giveSlot_72 : decode cX2_giveSlot 72 = .ok (.iload 4, 2) := by decide +kernel
theorem dX2_giveSlot_74 : decode cX2_giveSlot 74 = .ok (.iload 5, 2) := by decide +kernel
theorem dX2_giveSlot_76 : decode cX2_giveSlot 76 = .ok (.invokestatic 117, 3) := by decide +kernel
theorem dX2_giveSlot_79 : decode cX2_giveSlot 79 = .ok (.aload_n 0, 1) := by decide +kernel
theorem dX2_giveSlot_80 : decode cX2_giveSlot 80 = .ok (.aload_n 0, 1) := by decide +kernel
theorem dX2_giveSlot_81 : decode cX2_giveSlot 81 = .ok (.getfield 38, 3) := by decide +kernel
theorem dX2_giveSlot_84 : decode cX2_giveSlot 84 = .ok (.iload 5, 2) := by decide +kernel
theorem dX2_giveSlot_86 : decode cX2_giveSlot 86 = .ok (.iconst 1, 1) := by decide +kernel
theorem dX2_giveSlot_87 : decode cX2_giveSlot 87 = .ok (.iadd, 1) := by decide +kernel
theorem dX2_giveSlot_88 : decode cX2_giveSlot 88 = .ok (.invokestatic 158, 3) := by decide +kernel
theorem dX2_giveSlot_91 : decode cX2_giveSlot 91 = .ok (.putfield 38, 3) := by decide +kernel
theorem dX2_giveSlot_94 : decode cX2_giveSlot 94 = .ok (.return_, 1) := by decide +kernel
theorem dX2_firstSlotFree_0 : decode cX2_firstSlotFree 0 = .ok (.aload_n 0, 1) := by decide +kernel
theorem dX2_firstSlotFree_1 : decode cX2_firstSlotFree 1 = .ok (.getfield 28, 3) := by decide +kernel
theorem dX2_firstSlotFree_4 : decode cX2_firstSlotFree 4 = .ok (.iconst 0, 1) := by decide +kernel
theorem dX2_firstSlotFree_5 : decode cX2_firstSlotFree 5 = .ok (.invokestatic 41, 3) := by decide +kernel
theorem dX2_firstSlotFree_8 : decode cX2_firstSlotFree 8 = .ok (.iconst 0, 1) := by decide +kernel
theorem dX2_firstSlotFree_9 : decode cX2_firstSlotFree 9 = .ok (.istore_n 3, 1) := by decide +kernel
theorem dX2_firstSlotFree_10 : decode cX2_firstSlotFree 10 = .ok (.iload_n 3, 1) := by decide +kernel
theorem dX2_firstSlotFree_11 : decode cX2_firstSlotFree 11 = .ok (.aload_n 1, 1) := by decide +kernel
theorem dX2_firstSlotFree_12 : decode cX2_firstSlotFree 12 = .ok (.getfield 69, 3) := by decide +kernel
theorem dX2_firstSlotFree_15 : decode cX2_firstSlotFree 15 = .ok (.if_icmp .ge 46, 3) := by decide +kernel
theorem dX2_firstSlotFree_18 : decode cX2_firstSlotFree 18 = .ok (.aload_n 0, 1) := by decide +kernel
theorem dX2_firstSlotFree_19 : decode cX2_firstSlotFree 19 = .ok (.getfield 19, 3) := by decide +kernel
theorem dX2_firstSlotFree_22 : decode cX2_firstSlotFree 22 = .ok (.iload_n 3, 1) := by decide +kernel
theorem dX2_firstSlotFree_23 : decode cX2_firstSlotFree 23 = .ok (.invokestatic 121, 3) := by decide +kernel
theorem dX2_firstSlotFree_26 : decode cX2_firstSlotFree 26 = .ok (.iconst (-1), 1) := by decide +kernel
theorem dX2_firstSlotFree_27 : decode cX2_firstSlotFree 27 = .ok (.if_icmp .eq 28, 3) := by decide +kernel
theorem dX2_firstSlotFree_30 : decode cX2_firstSlotFree 30 = .ok (.aload_n 1, 1) := by decide +kernel
theorem dX2_firstSlotFree_31 : decode cX2_firstSlotFree 31 = .ok (.iload_n 3, 1) := by decide +kernel
theorem dX2_firstSlotFree_32 : decode cX2_firstSlotFree 32 = .ok (.invokevirtual 125, 3) := by decide +kernel
theorem dX2_firstSlotFree_35 : decode cX2_firstSlotFree 35 = .ok (.iload_n 2, 1) := by decide +kernel
theorem dX2_firstSlotFree_36 : decode cX2_firstSlotFree 36 = .ok (.if_icmp .lt 19, 3) := by decide +kernel
theorem dX2_firstSlotFree_39 : decode cX2_firstSlotFree 39 = .ok (.aload_n 0, 1) := by decide +kernel
theorem dX2_firstSlotFree_40 : decode cX2_firstSlotFree 40 = .ok (.getfield 28, 3) := by decide +kernel
theorem dX2_firstSlotFree_43 : decode cX2_firstSlotFree 43 = .ok (.aload_n 0, 1) := by decide +kernel
theorem dX2_firstSlotFree_44 : decode cX2_firstSlotFree 44 = .ok (.getfield 19, 3) := by decide +kernel
theorem dX2_firstSlotFree_47 : decode cX2_firstSlotFree 47 = .ok (.iload_n 3, 1) := by decide +kernel
theorem dX2_firstSlotFree_48 : decode cX2_firstSlotFree 48 = .ok (.invokestatic 121, 3) := by decide +kernel
theorem dX2_firstSlotFree_51 : decode cX2_firstSlotFree 51 = .ok (.iconst 1, 1) := by decide +kernel
theorem dX2_firstSlotFree_52 : decode cX2_firstSlotFree 52 = .ok (.invokestatic 117, 3) := by decide +kernel
theorem dX2_firstSlotFree_55 : decode cX2_firstSlotFree 55 = .ok (.iinc 3 1, 3) := by decide +kernel
theorem dX2_firstSlotFree_58 : decode cX2_firstSlotFree 58 = .ok (.goto (-48), 3) := by decide +kernel
theorem dX2_firstSlotFree_61 : decode cX2_firstSlotFree 61 = .ok (.iconst 0, 1) := by decide +kernel
theorem dX2_firstSlotFree_62 : decode cX2_firstSlotFree 62 = .ok (.istore_n 3, 1) := by decide +kernel
theorem dX2_firstSlotFree_63 : decode cX2_firstSlotFree 63 = .ok (.iload_n 3, 1) := by decide +kernel
theorem dX2_firstSlotFree_64 : decode cX2_firstSlotFree 64 = .ok (.bipush 88, 2) := by decide +kernel
theorem dX2_firstSlotFree_66 : decode cX2_firstSlotFree 66 = .ok (.if_icmp .ge 21, 3) := by decide +kernel
theorem dX2_firstSlotFree_69 : decode cX2_firstSlotFree 69 = .ok (.aload_n 0, 1) := by decide +kernel
theorem dX2_firstSlotFree_70 : decode cX2_firstSlotFree 70 = .ok (.getfield 28, 3) := by decide +kernel
theorem dX2_firstSlotFree_73 : decode cX2_firstSlotFree 73 = .ok (.iload_n 3, 1) := by decide +kernel
theorem dX2_firstSlotFree_74 : decode cX2_firstSlotFree 74 = .ok (.invokestatic 121, 3) := by decide +kernel
theorem dX2_firstSlotFree_77 : decode cX2_firstSlotFree 77 = .ok (.iconst 1, 1) := by decide +kernel
theorem dX2_firstSlotFree_78 : decode cX2_firstSlotFree 78 = .ok (.if_icmp .ne 9, 3) := by decide +kernel
theorem dX2_firstSlotFree_81 : decode cX2_firstSlotFree 81 = .ok (.iinc 3 1, 3) := by decide +kernel
theorem dX2_firstSlotFree_84 : decode cX2_firstSlotFree 84 = .ok (.goto (-21), 3) := by decide +kernel
theorem dX2_firstSlotFree_87 : decode cX2_firstSlotFree 87 = .ok (.iload_n 3, 1) := by decide +kernel
theorem dX2_firstSlotFree_88 : decode cX2_firstSlotFree 88 = .ok (.ireturn, 1) := by decide +kernel
theorem dX2_keptInUse_0 : decode cX2_keptInUse 0 = .ok (.iconst 0, 1) := by decide +kernel
theorem dX2_keptInUse_1 : decode cX2_keptInUse 1 = .ok (.istore_n 2, 1) := by decide +kernel
theorem dX2_keptInUse_2 : decode cX2_keptInUse 2 = .ok (.iconst 0, 1) := by decide +kernel
theorem dX2_keptInUse_3 : decode cX2_keptInUse 3 = .ok (.istore_n 3, 1) := by decide +kernel
theorem dX2_keptInUse_4 : decode cX2_keptInUse 4 = .ok (.iload_n 3, 1) := by decide +kernel
theorem dX2_keptInUse_5 : decode cX2_keptInUse 5 = .ok (.iload_n 1, 1) := by decide +kernel
theorem dX2_keptInUse_6 : decode cX2_keptInUse 6 = .ok (.if_icmp .ge 23, 3) := by decide +kernel
theorem dX2_keptInUse_9 : decode cX2_keptInUse 9 = .ok (.iload_n 2, 1) := by decide +kernel
theorem dX2_keptInUse_10 : decode cX2_keptInUse 10 = .ok (.aload_n 0, 1) := by decide +kernel
theorem dX2_keptInUse_11 : decode cX2_keptInUse 11 = .ok (.getfield 15, 3) := by decide +kernel
theorem dX2_keptInUse_14 : decode cX2_keptInUse 14 = .ok (.iload_n 3, 1) := by decide +kernel
theorem dX2_keptInUse_15 : decode cX2_keptInUse 15 = .ok (.invokestatic 121, 3) := by decide +kernel
theorem dX2_keptInUse_18 : decode cX2_keptInUse 18 = .ok (.invokestatic 95, 3) := by decide +kernel
theorem dX2_keptInUse_21 : decode cX2_keptInUse 21 = .ok (.ior, 1) := by decide +kernel
theorem dX2_keptInUse_22 : decode cX2_keptInUse 22 = .ok (.istore_n 2, 1) := by decide +kernel
theorem dX2_keptInUse_23 : decode cX2_keptInUse 23 = .ok (.iinc 3 1, 3) := by decide +kernel
theorem dX2_keptInUse_26 : decode cX2_keptInUse 26 = .ok (.goto (-22), 3) := by decide +kernel
theorem dX2_keptInUse_29 : decode cX2_keptInUse 29 = .ok (.iload_n 2, 1) := by decide +kernel
theorem dX2_keptInUse_30 : decode cX2_keptInUse 30 = .ok (.aload_n 0, 1) := by decide +kernel
theorem dX2_keptInUse_31 : decode cX2_keptInUse 31 = .ok (.getfield 9, 3) := by decide +kernel
theorem dX2_keptInUse_34 : decode cX2_keptInUse 34 = .ok (.getfield 86, 3) := by decide +kernel
theorem dX2_keptInUse_37 : decode cX2_keptInUse 37 = .ok (.iand, 1) := by decide +kernel
theorem dX2_keptInUse_38 : decode cX2_keptInUse 38 = .ok (.invokestatic 163, 3) := by decide +kernel
theorem dX2_keptInUse_41 : decode cX2_keptInUse 41 = .ok (.ireturn, 1) := by decide +kernel
theorem dX2_isSpilled_0 : decode cX2_isSpilled 0 = .ok (.aload_n 0, 1) := by decide +kernel
theorem dX2_isSpilled_1 : decode cX2_isSpilled 1 = .ok (.getfield 15, 3) := by decide +kernel
theorem dX2_isSpilled_4 : decode cX2_isSpilled 4 = .ok (.iload_n 1, 1) := by decide +kernel
theorem dX2_isSpilled_5 : decode cX2_isSpilled 5 = .ok (.invokestatic 121, 3) := by decide +kernel
theorem dX2_isSpilled_8 : decode cX2_isSpilled 8 = .ok (.iconst (-1), 1) := by decide +kernel
theorem dX2_isSpilled_9 : decode cX2_isSpilled 9 = .ok (.if_icmp .ne 7, 3) := by decide +kernel
theorem dX2_isSpilled_12 : decode cX2_isSpilled 12 = .ok (.iconst 1, 1) := by decide +kernel
theorem dX2_isSpilled_13 : decode cX2_isSpilled 13 = .ok (.goto 4, 3) := by decide +kernel
theorem dX2_isSpilled_16 : decode cX2_isSpilled 16 = .ok (.iconst 0, 1) := by decide +kernel
theorem dX2_isSpilled_17 : decode cX2_isSpilled 17 = .ok (.ireturn, 1) := by decide +kernel
theorem dX2_registerOf_0 : decode cX2_registerOf 0 = .ok (.aload_n 0, 1) := by decide +kernel
theorem dX2_registerOf_1 : decode cX2_registerOf 1 = .ok (.getfield 15, 3) := by decide +kernel
theorem dX2_registerOf_4 : decode cX2_registerOf 4 = .ok (.iload_n 1, 1) := by decide +kernel
theorem dX2_registerOf_5 : decode cX2_registerOf 5 = .ok (.invokestatic 121, 3) := by decide +kernel
theorem dX2_registerOf_8 : decode cX2_registerOf 8 = .ok (.ireturn, 1) := by decide +kernel
theorem dX2_slotOf_0 : decode cX2_slotOf 0 = .ok (.aload_n 0, 1) := by decide +kernel
theorem dX2_slotOf_1 : decode cX2_slotOf 1 = .ok (.getfield 19, 3) := by decide +kernel
theorem dX2_slotOf_4 : decode cX2_slotOf 4 = .ok (.iload_n 1, 1) := by decide +kernel
theorem dX2_slotOf_5 : decode cX2_slotOf 5 = .ok (.invokestatic 121, 3) := by decide +kernel
theorem dX2_slotOf_8 : decode cX2_slotOf 8 = .ok (.ireturn, 1) := by decide +kernel
theorem dX2_isRemade_0 : decode cX2_isRemade 0 = .ok (.aload_n 0, 1) := by decide +kernel
theorem dX2_isRemade_1 : decode cX2_isRemade 1 = .ok (.getfield 22, 3) := by decide +kernel
theorem dX2_isRemade_4 : decode cX2_isRemade 4 = .ok (.iload_n 1, 1) := by decide +kernel
theorem dX2_isRemade_5 : decode cX2_isRemade 5 = .ok (.invokestatic 121, 3) := by decide +kernel
theorem dX2_isRemade_8 : decode cX2_isRemade 8 = .ok (.iconst 1, 1) := by decide +kernel
theorem dX2_isRemade_9 : decode cX2_isRemade 9 = .ok (.if_icmp .ne 7, 3) := by decide +kernel
theorem dX2_isRemade_12 : decode cX2_isRemade 12 = .ok (.iconst 1, 1) := by decide +kernel
theorem dX2_isRemade_13 : decode cX2_isRemade 13 = .ok (.goto 4, 3) := by decide +kernel
theorem dX2_isRemade_16 : decode cX2_isRemade 16 = .ok (.iconst 0, 1) := by decide +kernel
theorem dX2_isRemade_17 : decode cX2_isRemade 17 = .ok (.ireturn, 1) := by decide +kernel
theorem dX2_numberOf_0 : decode cX2_numberOf 0 = .ok (.aload_n 0, 1) := by decide +kernel
theorem dX2_numberOf_1 : decode cX2_numberOf 1 = .ok (.getfield 25, 3) := by decide +kernel
theorem dX2_numberOf_4 : decode cX2_numberOf 4 = .ok (.iload_n 1, 1) := by decide +kernel
theorem dX2_numberOf_5 : decode cX2_numberOf 5 = .ok (.invokestatic 121, 3) := by decide +kernel
theorem dX2_numberOf_8 : decode cX2_numberOf 8 = .ok (.ireturn, 1) := by decide +kernel
theorem dX3_init_0 : decode cX3_init 0 = .ok (.aload_n 0, 1) := by decide +kernel
theorem dX3_init_1 : decode cX3_init 1 = .ok (.invokespecial 3, 3) := by decide +kernel
theorem dX3_init_4 : decode cX3_init 4 = .ok (.aload_n 0, 1) := by decide +kernel
theorem dX3_init_5 : decode cX3_init 5 = .ok (.bipush 88, 2) := by decide +kernel
theorem dX3_init_7 : decode cX3_init 7 = .ok (.newarray .int, 2) := by decide +kernel
theorem dX3_init_9 : decode cX3_init 9 = .ok (.putfield 9, 3) := by decide +kernel
theorem dX3_init_12 : decode cX3_init 12 = .ok (.aload_n 0, 1) := by decide +kernel
theorem dX3_init_13 : decode cX3_init 13 = .ok (.bipush 88, 2) := by decide +kernel
theorem dX3_init_15 : decode cX3_init 15 = .ok (.newarray .int, 2) := by decide +kernel
theorem dX3_init_17 : decode cX3_init 17 = .ok (.putfield 15, 3) := by decide +kernel
theorem dX3_init_20 : decode cX3_init 20 = .ok (.aload_n 0, 1) := by decide +kernel
theorem dX3_init_21 : decode cX3_init 21 = .ok (.sipush 264, 3) := by decide +kernel
theorem dX3_init_24 : decode cX3_init 24 = .ok (.newarray .int, 2) := by decide +kernel
theorem dX3_init_26 : decode cX3_init 26 = .ok (.putfield 18, 3) := by decide +kernel
theorem dX3_init_29 : decode cX3_init 29 = .ok (.aload_n 0, 1) := by decide +kernel
theorem dX3_init_30 : decode cX3_init 30 = .ok (.bipush 88, 2) := by decide +kernel
theorem dX3_init_32 : decode cX3_init 32 = .ok (.newarray .int, 2) := by decide +kernel
theorem dX3_init_34 : decode cX3_init 34 = .ok (.putfield 21, 3) := by decide +kernel
theorem dX3_init_37 : decode cX3_init 37 = .ok (.aload_n 0, 1) := by decide +kernel
theorem dX3_init_38 : decode cX3_init 38 = .ok (.bipush 88, 2) := by decide +kernel
theorem dX3_init_40 : decode cX3_init 40 = .ok (.newarray .int, 2) := by decide +kernel
theorem dX3_init_42 : decode cX3_init 42 = .ok (.putfield 24, 3) := by decide +kernel
theorem dX3_init_45 : decode cX3_init 45 = .ok (.aload_n 0, 1) := by decide +kernel
theorem dX3_init_46 : decode cX3_init 46 = .ok (.bipush 88, 2) := by decide +kernel
theorem dX3_init_48 : decode cX3_init 48 = .ok (.newarray .int, 2) := by decide +kernel
theorem dX3_init_50 : decode cX3_init 50 = .ok (.putfield 27, 3) := by decide +kernel
theorem dX3_init_53 : decode cX3_init 53 = .ok (.return_, 1) := by decide +kernel
theorem dX3_clear_0 : decode cX3_clear 0 = .ok (.aload_n 0, 1) := by decide +kernel
theorem dX3_clear_1 : decode cX3_clear 1 = .ok (.iconst 0, 1) := by decide +kernel
theorem dX3_clear_2 : decode cX3_clear 2 = .ok (.putfield 30, 3) := by decide +kernel
theorem dX3_clear_5 : decode cX3_clear 5 = .ok (.return_, 1) := by decide +kernel
theorem dX3_add_0 : decode cX3_add 0 = .ok (.aload_n 0, 1) := by decide +kernel
theorem dX3_add_1 : decode cX3_add 1 = .ok (.getfield 30, 3) := by decide +kernel
theorem dX3_add_4 : decode cX3_add 4 = .ok (.bipush 88, 2) := by decide +kernel
theorem dX3_add_6 : decode cX3_add 6 = .ok (.if_icmp .lt 4, 3) := by decide +kernel
theorem dX3_add_9 : decode cX3_add 9 = .ok (.return_, 1) := by decide +kernel
theorem dX3_add_10 : decode cX3_add 10 = .ok (.aload_n 0, 1) := by decide +kernel
theorem dX3_add_11 : decode cX3_add 11 = .ok (.getfield 9, 3) := by decide +kernel
theorem dX3_add_14 : decode cX3_add 14 = .ok (.aload_n 0, 1) := by decide +kernel
theorem dX3_add_15 : decode cX3_add 15 = .ok (.getfield 30, 3) := by decide +kernel
theorem dX3_add_18 : decode cX3_add 18 = .ok (.iload_n 1, 1) := by decide +kernel
theorem dX3_add_19 : decode cX3_add 19 = .ok (.invokestatic 34, 3) := by decide +kernel
theorem dX3_add_22 : decode cX3_add 22 = .ok (.aload_n 0, 1) := by decide +kernel
theorem dX3_add_23 : decode cX3_add 23 = .ok (.getfield 15, 3) := by decide +kernel
theorem dX3_add_26 : decode cX3_add 26 = .ok (.aload_n 0, 1) := by decide +kernel
theorem dX3_add_27 : decode cX3_add 27 = .ok (.getfield 30, 3) := by decide +kernel
theorem dX3_add_30 : decode cX3_add 30 = .ok (.iload_n 2, 1) := by decide +kernel
theorem dX3_add_31 : decode cX3_add 31 = .ok (.invokestatic 34, 3) := by decide +kernel
theorem dX3_add_34 : decode cX3_add 34 = .ok (.aload_n 0, 1) := by decide +kernel
theorem dX3_add_35 : decode cX3_add 35 = .ok (.getfield 21, 3) := by decide +kernel
theorem dX3_add_38 : decode cX3_add 38 = .ok (.aload_n 0, 1) := by decide +kernel
theorem dX3_add_39 : decode cX3_add 39 = .ok (.getfield 30, 3) := by decide +kernel
theorem dX3_add_42 : decode cX3_add 42 = .ok (.iconst 0, 1) := by decide +kernel
theorem dX3_add_43 : decode cX3_add 43 = .ok (.invokestatic 34, 3) := by decide +kernel
theorem dX3_add_46 : decode cX3_add 46 = .ok (.aload_n 0, 1) := by decide +kernel
theorem dX3_add_47 : decode cX3_add 47 = .ok (.getfield 24, 3) := by decide +kernel
theorem dX3_add_50 : decode cX3_add 50 = .ok (.aload_n 0, 1) := by decide +kernel
theorem dX3_add_51 : decode cX3_add 51 = .ok (.getfield 30, 3) := by decide +kernel
theorem dX3_add_54 : decode cX3_add 54 = .ok (.iload_n 3, 1) := by decide +kernel
theorem dX3_add_55 : decode cX3_add 55 = .ok (.invokestatic 34, 3) := by decide +kernel
theorem dX3_add_58 : decode cX3_add 58 = .ok (.aload_n 0, 1) := by decide +kernel
theorem dX3_add_59 : decode cX3_add 59 = .ok (.getfield 27, 3) := by decide +kernel
theorem dX3_add_62 : decode cX3_add 62 = .ok (.aload_n 0, 1) := by decide +kernel
theorem dX3_add_63 : decode cX3_add 63 = .ok (.getfield 30, 3) := by decide +kernel
theorem dX3_add_66 : decode cX3_add 66 = .ok (.iconst 0, 1) := by decide +kernel
theorem dX3_add_67 : decode cX3_add 67 = .ok (.invokestatic 34, 3) := by decide +kernel
theorem dX3_add_70 : decode cX3_add 70 = .ok (.aload_n 0, 1) := by decide +kernel
theorem dX3_add_71 : decode cX3_add 71 = .ok (.dup, 1) := by decide +kernel
theorem dX3_add_72 : decode cX3_add 72 = .ok (.getfield 30, 3) := by decide +kernel
theorem dX3_add_75 : decode cX3_add 75 = .ok (.iconst 1, 1) := by decide +kernel
theorem dX3_add_76 : decode cX3_add 76 = .ok (.iadd, 1) := by decide +kernel
theorem dX3_add_77 : decode cX3_add 77 = .ok (.putfield 30, 3) := by decide +kernel
theorem dX3_add_80 : decode cX3_add 80 = .ok (.return_, 1) := by decide +kernel
theorem dX3_setReads_0 : decode cX3_setReads 0 = .ok (.iconst 3, 1) := by decide +kernel
theorem dX3_setReads_1 : decode cX3_setReads 1 = .ok (.aload_n 0, 1) := by decide +kernel
theorem dX3_setReads_2 : decode cX3_setReads 2 = .ok (.getfield 30, 3) := by decide +kernel
theorem dX3_setReads_5 : decode cX3_setReads 5 = .ok (.iconst 1, 1) := by decide +kernel
theorem dX3_setReads_6 : decode cX3_setReads 6 = .ok (.isub, 1) := by decide +kernel
theorem dX3_setReads_7 : decode cX3_setReads 7 = .ok (.imul, 1) := by decide +kernel
theorem dX3_setReads_8 : decode cX3_setReads 8 = .ok (.istore 4, 2) := by decide +kernel
theorem dX3_setReads_10 : decode cX3_setReads 10 = .ok (.aload_n 0, 1) := by decide +kernel
theorem dX3_setReads_11 : decode cX3_setReads 11 = .ok (.getfield 18, 3) := by decide +kernel
theorem dX3_setReads_14 : decode cX3_setReads 14 = .ok (.iload 4, 2) := by decide +kernel
theorem dX3_setReads_16 : decode cX3_setReads 16 = .ok (.iload_n 1, 1) := by decide +kernel
theorem dX3_setReads_17 : decode cX3_setReads 17 = .ok (.invokestatic 34, 3) := by decide +kernel
theorem dX3_setReads_20 : decode cX3_setReads 20 = .ok (.aload_n 0, 1) := by decide +kernel
theorem dX3_setReads_21 : decode cX3_setReads 21 = .ok (.getfield 18, 3) := by decide +kernel
theorem dX3_setReads_24 : decode cX3_setReads 24 = .ok (.iload 4, 2) := by decide +kernel
theorem dX3_setReads_26 : decode cX3_setReads 26 = .ok (.iconst 1, 1) := by decide +kernel
theorem dX3_setReads_27 : decode cX3_setReads 27 = .ok (.iadd, 1) := by decide +kernel
theorem dX3_setReads_28 : decode cX3_setReads 28 = .ok (.iload_n 2, 1) := by decide +kernel
theorem dX3_setReads_29 : decode cX3_setReads 29 = .ok (.invokestatic 34, 3) := by decide +kernel
theorem dX3_setReads_32 : decode cX3_setReads 32 = .ok (.aload_n 0, 1) := by decide +kernel
theorem dX3_setReads_33 : decode cX3_setReads 33 = .ok (.getfield 18, 3) := by decide +kernel
theorem dX3_setReads_36 : decode cX3_setReads 36 = .ok (.iload 4, 2) := by decide +kernel
theorem dX3_setReads_38 : decode cX3_setReads 38 = .ok (.iconst 2, 1) := by decide +kernel
theorem dX3_setReads_39 : decode cX3_setReads 39 = .ok (.iadd, 1) := by decide +kernel
theorem dX3_setReads_40 : decode cX3_setReads 40 = .ok (.iload_n 3, 1) := by decide +kernel
theorem dX3_setReads_41 : decode cX3_setReads 41 = .ok (.invokestatic 34, 3) := by decide +kernel
theorem dX3_setReads_44 : decode cX3_setReads 44 = .ok (.return_, 1) := by decide +kernel
theorem dX3_setNumber_0 : decode cX3_setNumber 0 = .ok (.aload_n 0, 1) := by decide +kernel
theorem dX3_setNumber_1 : decode cX3_setNumber 1 = .ok (.getfield 21, 3) := by decide +kernel
theorem dX3_setNumber_4 : decode cX3_setNumber 4 = .ok (.aload_n 0, 1) := by decide +kernel
theorem dX3_setNumber_5 : decode cX3_setNumber 5 = .ok (.getfield 30, 3) := by decide +kernel
theorem dX3_setNumber_8 : decode cX3_setNumber 8 = .ok (.iconst 1, 1) := by decide +kernel
theorem dX3_setNumber_9 : decode cX3_setNumber 9 = .ok (.isub, 1) := by decide +kernel
theorem dX3_setNumber_10 : decode cX3_setNumber 10 = .ok (.iload_n 1, 1) := by decide +kernel
theorem dX3_setNumber_11 : decode cX3_setNumber 11 = .ok (.invokestatic 34, 3) := by decide +kernel
theorem dX3_setNumber_14 : decode cX3_setNumber 14 = .ok (.return_, 1) := by decide +kernel
theorem dX3_setHeight_0 : decode cX3_setHeight 0 = .ok (.aload_n 0, 1) := by decide +kernel
theorem dX3_setHeight_1 : decode cX3_setHeight 1 = .ok (.getfield 27, 3) := by decide +kernel
theorem dX3_setHeight_4 : decode cX3_setHeight 4 = .ok (.iload_n 1, 1) := by decide +kernel
theorem dX3_setHeight_5 : decode cX3_setHeight 5 = .ok (.iload_n 2, 1) := by decide +kernel
theorem dX3_setHeight_6 : decode cX3_setHeight 6 = .ok (.invokestatic 34, 3) := by decide +kernel
theorem dX3_setHeight_9 : decode cX3_setHeight 9 = .ok (.return_, 1) := by decide +kernel
theorem dX3_addCopy_0 : decode cX3_addCopy 0 = .ok (.aload_n 0, 1) := by decide +kernel
theorem dX3_addCopy_1 : decode cX3_addCopy 1 = .ok (.aload_n 1, 1) := by decide +kernel
theorem dX3_addCopy_2 : decode cX3_addCopy 2 = .ok (.iload_n 2, 1) := by decide +kernel
theorem dX3_addCopy_3 : decode cX3_addCopy 3 = .ok (.invokevirtual 38, 3) := by decide +kernel
theorem dX3_addCopy_6 : decode cX3_addCopy 6 = .ok (.aload_n 1, 1) := by decide +kernel
theorem dX3_addCopy_7 : decode cX3_addCopy 7 = .ok (.iload_n 2, 1) := by decide +kernel
theorem dX3_addCopy_8 : decode cX3_addCopy 8 = .ok (.invokevirtual 42, 3) := by decide +kernel
theorem dX3_addCopy_11 : decode cX3_addCopy 11 = .ok (.aload_n 1, 1) := by decide +kernel
theorem dX3_addCopy_12 : decode cX3_addCopy 12 = .ok (.iload_n 2, 1) := by decide +kernel
theorem dX3_addCopy_13 : decode cX3_addCopy 13 = .ok (.invokevirtual 45, 3) := by decide +kernel
theorem dX3_addCopy_16 : decode cX3_addCopy 16 = .ok (.invokevirtual 48, 3) := by decide +kernel
theorem dX3_addCopy_19 : decode cX3_addCopy 19 = .ok (.aload_n 0, 1) := by decide +kernel
theorem dX3_addCopy_20 : decode cX3_addCopy 20 = .ok (.aload_n 1, 1) := by decide +kernel
theorem dX3_addCopy_21 : decode cX3_addCopy 21 = .ok (.iload_n 2, 1) := by decide +kernel
theorem dX3_addCopy_22 : decode cX3_addCopy 22 = .ok (.iconst 0, 1) := by decide +kernel
theorem dX3_addCopy_23 : decode cX3_addCopy 23 = .ok (.invokevirtual 52, 3) := by decide +kernel
theorem dX3_addCopy_26 : decode cX3_addCopy 26 = .ok (.aload_n 1, 1) := by decide +kernel
theorem dX3_addCopy_27 : decode cX3_addCopy 27 = .ok (.iload_n 2, 1) := by decide +kernel
theorem dX3_addCopy_28 : decode cX3_addCopy 28 = .ok (.iconst 1, 1) := by decide +kernel
theorem dX3_addCopy_29 : decode cX3_addCopy 29 = .ok (.invokevirtual 52, 3) := by decide +kernel
theorem dX3_addCopy_32 : decode cX3_addCopy 32 = .ok (.aload_n 1, 1) := by decide +kernel
theorem dX3_addCopy_33 : decode cX3_addCopy 33 = .ok (.iload_n 2, 1) := by decide +kernel
theorem dX3_addCopy_34 : decode cX3_addCopy 34 = .ok (.iconst 2, 1) := by decide +kernel
theorem dX3_addCopy_35 : decode cX3_addCopy 35 = .ok (.invokevirtual 52, 3) := by decide +kernel
theorem dX3_addCopy_38 : decode cX3_addCopy 38 = .ok (.invokevirtual 56, 3) := by decide +kernel
theorem dX3_addCopy_41 : decode cX3_addCopy 41 = .ok (.aload_n 0, 1) := by decide +kernel
theorem dX3_addCopy_42 : decode cX3_addCopy 42 = .ok (.aload_n 1, 1) := by decide +kernel
theorem dX3_addCopy_43 : decode cX3_addCopy 43 = .ok (.iload_n 2, 1) := by decide +kernel
theorem dX3_addCopy_44 : decode cX3_addCopy 44 = .ok (.invokevirtual 59, 3) := by decide +kernel
theorem dX3_addCopy_47 : decode cX3_addCopy 47 = .ok (.invokevirtual 62, 3) := by decide +kernel
theorem dX3_addCopy_50 : decode cX3_addCopy 50 = .ok (.aload_n 0, 1) := by decide +kernel
theorem dX3_addCopy_51 : decode cX3_addCopy 51 = .ok (.aload_n 0, 1) := by decide +kernel
theorem dX3_addCopy_52 : decode cX3_addCopy 52 = .ok (.getfield 30, 3) := by decide +kernel
theorem dX3_addCopy_55 : decode cX3_addCopy 55 = .ok (.iconst 1, 1) := by decide +kernel
theorem dX3_addCopy_56 : decode cX3_addCopy 56 = .ok (.isub, 1) := by decide +kernel
theorem dX3_addCopy_57 : decode cX3_addCopy 57 = .ok (.aload_n 1, 1) := by decide +kernel
theorem dX3_addCopy_58 : decode cX3_addCopy 58 = .ok (.iload_n 2, 1) := by decide +kernel
theorem dX3_addCopy_59 : decode cX3_addCopy 59 = .ok (.invokevirtual 66, 3) := by decide +kernel
theorem dX3_addCopy_62 : decode cX3_addCopy 62 = .ok (.invokevirtual 69, 3) := by decide +kernel
theorem dX3_addCopy_65 : decode cX3_addCopy 65 = .ok (.return_, 1) := by decide +kernel
theorem dX3_kindOf_0 : decode cX3_kindOf 0 = .ok (.aload_n 0, 1) := by decide +kernel
theorem dX3_kindOf_1 : decode cX3_kindOf 1 = .ok (.getfield 9, 3) := by decide +kernel
theorem dX3_kindOf_4 : decode cX3_kindOf 4 = .ok (.iload_n 1, 1) := by decide +kernel
theorem dX3_kindOf_5 : decode cX3_kindOf 5 = .ok (.invokestatic 73, 3) := by decide +kernel
theorem dX3_kindOf_8 : decode cX3_kindOf 8 = .ok (.ireturn, 1) := by decide +kernel
theorem dX3_writtenBy_0 : decode cX3_writtenBy 0 = .ok (.aload_n 0, 1) := by decide +kernel
theorem dX3_writtenBy_1 : decode cX3_writtenBy 1 = .ok (.getfield 15, 3) := by decide +kernel
theorem dX3_writtenBy_4 : decode cX3_writtenBy 4 = .ok (.iload_n 1, 1) := by decide +kernel
theorem dX3_writtenBy_5 : decode cX3_writtenBy 5 = .ok (.invokestatic 73, 3) := by decide +kernel
theorem dX3_writtenBy_8 : decode cX3_writtenBy 8 = .ok (.ireturn, 1) := by decide +kernel
theorem dX3_readBy_0 : decode cX3_readBy 0 = .ok (.aload_n 0, 1) := by decide +kernel
theorem dX3_readBy_1 : decode cX3_readBy 1 = .ok (.getfield 18, 3) := by decide +kernel
theorem dX3_readBy_4 : decode cX3_readBy 4 = .ok (.iconst 3, 1) := by decide +kernel
theorem dX3_readBy_5 : decode cX3_readBy 5 = .ok (.iload_n 1, 1) := by decide +kernel
theorem dX3_readBy_6 : decode cX3_readBy 6 = .ok (.imul, 1) := by decide +kernel
theorem dX3_readBy_7 : decode cX3_readBy 7 = .ok (.iload_n 2, 1) := by decide +kernel
theorem dX3_readBy_8 : decode cX3_readBy 8 = .ok (.iadd, 1) := by decide +kernel
theorem dX3_readBy_9 : decode cX3_readBy 9 = .ok (.invokestatic 73, 3) := by decide +kernel
theorem dX3_readBy_12 : decode cX3_readBy 12 = .ok (.ireturn, 1) := by decide +kernel
theorem dX3_isReading_0 : decode cX3_isReading 0 = .ok (.iconst 3, 1) := by decide +kernel
theorem dX3_isReading_1 : decode cX3_isReading 1 = .ok (.iload_n 1, 1) := by decide +kernel
theorem dX3_isReading_2 : decode cX3_isReading 2 = .ok (.imul, 1) := by decide +kernel
theorem dX3_isReading_3 : decode cX3_isReading 3 = .ok (.istore_n 3, 1) := by decide +kernel
theorem dX3_isReading_4 : decode cX3_isReading 4 = .ok (.aload_n 0, 1) := by decide +kernel
theorem dX3_isReading_5 : decode cX3_isReading 5 = .ok (.getfield 18, 3) := by decide +kernel
theorem dX3_isReading_8 : decode cX3_isReading 8 = .ok (.iload_n 3, 1) := by decide +kernel
theorem dX3_isReading_9 : decode cX3_isReading 9 = .ok (.invokestatic 73, 3) := by decide +kernel
theorem dX3_isReading_12 : decode cX3_isReading 12 = .ok (.iload_n 2, 1) := by decide +kernel
theorem dX3_isReading_13 : decode cX3_isReading 13 = .ok (.if_icmp .eq 31, 3) := by decide +kernel
theorem dX3_isReading_16 : decode cX3_isReading 16 = .ok (.aload_n 0, 1) := by decide +kernel
theorem dX3_isReading_17 : decode cX3_isReading 17 = .ok (.getfield 18, 3) := by decide +kernel
theorem dX3_isReading_20 : decode cX3_isReading 20 = .ok (.iload_n 3, 1) := by decide +kernel
theorem dX3_isReading_21 : decode cX3_isReading 21 = .ok (.iconst 1, 1) := by decide +kernel
theorem dX3_isReading_22 : decode cX3_isReading 22 = .ok (.iadd, 1) := by decide +kernel
theorem dX3_isReading_23 : decode cX3_isReading 23 = .ok (.invokestatic 73, 3) := by decide +kernel
theorem dX3_isReading_26 : decode cX3_isReading 26 = .ok (.iload_n 2, 1) := by decide +kernel
theorem dX3_isReading_27 : decode cX3_isReading 27 = .ok (.if_icmp .eq 17, 3) := by decide +kernel
theorem dX3_isReading_30 : decode cX3_isReading 30 = .ok (.aload_n 0, 1) := by decide +kernel
theorem dX3_isReading_31 : decode cX3_isReading 31 = .ok (.getfield 18, 3) := by decide +kernel
theorem dX3_isReading_34 : decode cX3_isReading 34 = .ok (.iload_n 3, 1) := by decide +kernel
theorem dX3_isReading_35 : decode cX3_isReading 35 = .ok (.iconst 2, 1) := by decide +kernel
theorem dX3_isReading_36 : decode cX3_isReading 36 = .ok (.iadd, 1) := by decide +kernel
theorem dX3_isReading_37 : decode cX3_isReading 37 = .ok (.invokestatic 73, 3) := by decide +kernel
theorem dX3_isReading_40 : decode cX3_isReading 40 = .ok (.iload_n 2, 1) := by decide +kernel
theorem dX3_isReading_41 : decode cX3_isReading 41 = .ok (.if_icmp .ne 7, 3) := by decide +kernel
theorem dX3_isReading_44 : decode cX3_isReading 44 = .ok (.iconst 1, 1) := by decide +kernel
theorem dX3_isReading_45 : decode cX3_isReading 45 = .ok (.goto 4, 3) := by decide +kernel
theorem dX3_isReading_48 : decode cX3_isReading 48 = .ok (.iconst 0, 1) := by decide +kernel
theorem dX3_isReading_49 : decode cX3_isReading 49 = .ok (.ireturn, 1) := by decide +kernel
theorem dX3_numberOf_0 : decode cX3_numberOf 0 = .ok (.aload_n 0, 1) := by decide +kernel
theorem dX3_numberOf_1 : decode cX3_numberOf 1 = .ok (.getfield 21, 3) := by decide +kernel
theorem dX3_numberOf_4 : decode cX3_numberOf 4 = .ok (.iload_n 1, 1) := by decide +kernel
theorem dX3_numberOf_5 : decode cX3_numberOf 5 = .ok (.invokestatic 73, 3) := by decide +kernel
theorem dX3_numberOf_8 : decode cX3_numberOf 8 = .ok (.ireturn, 1) := by decide +kernel
theorem dX3_blockOf_0 : decode cX3_blockOf 0 = .ok (.aload_n 0, 1) := by decide +kernel
theorem dX3_blockOf_1 : decode cX3_blockOf 1 = .ok (.getfield 24, 3) := by decide +kernel
theorem dX3_blockOf_4 : decode cX3_blockOf 4 = .ok (.iload_n 1, 1) := by decide +kernel
theorem dX3_blockOf_5 : decode cX3_blockOf 5 = .ok (.invokestatic 73, 3) := by decide +kernel
theorem dX3_blockOf_8 : decode cX3_blockOf 8 = .ok (.ireturn, 1) := by decide +kernel
theorem dX3_heightOf_0 : decode cX3_heightOf 0 = .ok (.aload_n 0, 1) := by decide +kernel
theorem dX3_heightOf_1 : decode cX3_heightOf 1 = .ok (.getfield 27, 3) := by decide +kernel
theorem dX3_heightOf_4 : decode cX3_heightOf 4 = .ok (.iload_n 1, 1) := by decide +kernel
theorem dX3_heightOf_5 : decode cX3_heightOf 5 = .ok (.invokestatic 73, 3) := by decide +kernel
theorem dX3_heightOf_8 : decode cX3_heightOf 8 = .ok (.ireturn, 1) := by decide +kernel
theorem dX4_init_0 : decode cX4_init 0 = .ok (.aload_n 0, 1) := by decide +kernel
theorem dX4_init_1 : decode cX4_init 1 = .ok (.invokespecial 3, 3) := by decide +kernel
theorem dX4_init_4 : decode cX4_init 4 = .ok (.aload_n 0, 1) := by decide +kernel
theorem dX4_init_5 : decode cX4_init 5 = .ok (.aload_n 1, 1) := by decide +kernel
theorem dX4_init_6 : decode cX4_init 6 = .ok (.putfield 9, 3) := by decide +kernel
theorem dX4_init_9 : decode cX4_init 9 = .ok (.aload_n 0, 1) := by decide +kernel
theorem dX4_init_10 : decode cX4_init 10 = .ok (.bipush 88, 2) := by decide +kernel
theorem dX4_init_12 : decode cX4_init 12 = .ok (.newarray .int, 2) := by decide +kernel
theorem dX4_init_14 : decode cX4_init 14 = .ok (.putfield 15, 3) := by decide +kernel
theorem dX4_init_17 : decode cX4_init 17 = .ok (.aload_n 0, 1) := by decide +kernel
theorem dX4_init_18 : decode cX4_init 18 = .ok (.bipush 88, 2) := by decide +kernel
theorem dX4_init_20 : decode cX4_init 20 = .ok (.newarray .int, 2) := by decide +kernel
theorem dX4_init_22 : decode cX4_init 22 = .ok (.putfield 19, 3) := by decide +kernel
theorem dX4_init_25 : decode cX4_init 25 = .ok (.aload_n 0, 1) := by decide +kernel
theorem dX4_init_26 : decode cX4_init 26 = .ok (.bipush 88, 2) := by decide +kernel
theorem dX4_init_28 : decode cX4_init 28 = .ok (.newarray .int, 2) := by decide +kernel
theorem dX4_init_30 : decode cX4_init 30 = .ok (.putfield 22, 3) := by decide +kernel
theorem dX4_init_33 : decode cX4_init 33 = .ok (.aload_n 0, 1) := by decide +kernel
theorem dX4_init_34 : decode cX4_init 34 = .ok (.bipush 88, 2) := by decide +kernel
theorem dX4_init_36 : decode cX4_init 36 = .ok (.newarray .int, 2) := by decide +kernel
theorem dX4_init_38 : decode cX4_init 38 = .ok (.putfield 25, 3) := by decide +kernel
theorem dX4_init_41 : decode cX4_init 41 = .ok (.aload_n 0, 1) := by decide +kernel
theorem dX4_init_42 : decode cX4_init 42 = .ok (.bipush 88, 2) := by decide +kernel
theorem dX4_init_44 : decode cX4_init 44 = .ok (.newarray .int, 2) := by decide +kernel
theorem dX4_init_46 : decode cX4_init 46 = .ok (.putfield 28, 3) := by decide +kernel
theorem dX4_init_49 : decode cX4_init 49 = .ok (.aload_n 0, 1) := by decide +kernel
theorem dX4_init_50 : decode cX4_init 50 = .ok (.bipush 88, 2) := by decide +kernel
theorem dX4_init_52 : decode cX4_init 52 = .ok (.newarray .int, 2) := by decide +kernel
theorem dX4_init_54 : decode cX4_init 54 = .ok (.putfield 31, 3) := by decide +kernel
theorem dX4_init_57 : decode cX4_init 57 = .ok (.aload_n 0, 1) := by decide +kernel
theorem dX4_init_58 : decode cX4_init 58 = .ok (.bipush 88, 2) := by decide +kernel
theorem dX4_init_60 : decode cX4_init 60 = .ok (.newarray .int, 2) := by decide +kernel
theorem dX4_init_62 : decode cX4_init 62 = .ok (.putfield 34, 3) := by decide +kernel
theorem dX4_init_65 : decode cX4_init 65 = .ok (.aload_n 0, 1) := by decide +kernel
theorem dX4_init_66 : decode cX4_init 66 = .ok (.bipush 88, 2) := by decide +kernel
theorem dX4_init_68 : decode cX4_init 68 = .ok (.newarray .int, 2) := by decide +kernel
theorem dX4_init_70 : decode cX4_init 70 = .ok (.putfield 37, 3) := by decide +kernel
theorem dX4_init_73 : decode cX4_init 73 = .ok (.return_, 1) := by decide +kernel
theorem dX4_measure_0 : decode cX4_measure 0 = .ok (.aload_n 0, 1) := by decide +kernel
theorem dX4_measure_1 : decode cX4_measure 1 = .ok (.iconst 0, 1) := by decide +kernel
theorem dX4_measure_2 : decode cX4_measure 2 = .ok (.putfield 40, 3) := by decide +kernel
theorem dX4_measure_5 : decode cX4_measure 5 = .ok (.aload_n 0, 1) := by decide +kernel
theorem dX4_measure_6 : decode cX4_measure 6 = .ok (.iconst 0, 1) := by decide +kernel
theorem dX4_measure_7 : decode cX4_measure 7 = .ok (.putfield 44, 3) := by decide +kernel
theorem dX4_measure_10 : decode cX4_measure 10 = .ok (.aload_n 0, 1) := by decide +kernel
theorem dX4_measure_11 : decode cX4_measure 11 = .ok (.iconst 0, 1) := by decide +kernel
theorem dX4_measure_12 : decode cX4_measure 12 = .ok (.putfield 47, 3) := by decide +kernel
theorem dX4_measure_15 : decode cX4_measure 15 = .ok (.aload_n 0, 1) := by decide +kernel
theorem dX4_measure_16 : decode cX4_measure 16 = .ok (.getfield 15, 3) := by decide +kernel
theorem dX4_measure_19 : decode cX4_measure 19 = .ok (.iconst (-1), 1) := by decide +kernel
theorem dX4_measure_20 : decode cX4_measure 20 = .ok (.invokestatic 50, 3) := by decide +kernel
theorem dX4_measure_23 : decode cX4_measure 23 = .ok (.aload_n 0, 1) := by decide +kernel
theorem dX4_measure_24 : decode cX4_measure 24 = .ok (.getfield 22, 3) := by decide +kernel
theorem dX4_measure_27 : decode cX4_measure 27 = .ok (.iconst 0, 1) := by decide +kernel
theorem dX4_measure_28 : decode cX4_measure 28 = .ok (.invokestatic 50, 3) := by decide +kernel
theorem dX4_measure_31 : decode cX4_measure 31 = .ok (.aload_n 0, 1) := by decide +kernel
theorem dX4_measure_32 : decode cX4_measure 32 = .ok (.getfield 28, 3) := by decide +kernel
theorem dX4_measure_35 : decode cX4_measure 35 = .ok (.iconst 0, 1) := by decide +kernel
theorem dX4_measure_36 : decode cX4_measure 36 = .ok (.invokestatic 50, 3) := by decide +kernel
theorem dX4_measure_39 : decode cX4_measure 39 = .ok (.aload_n 0, 1) := by decide +kernel
theorem dX4_measure_40 : decode cX4_measure 40 = .ok (.getfield 31, 3) := by decide +kernel
theorem dX4_measure_43 : decode cX4_measure 43 = .ok (.iconst 0, 1) := by decide +kernel
theorem dX4_measure_44 : decode cX4_measure 44 = .ok (.invokestatic 50, 3) := by decide +kernel
theorem dX4_measure_47 : decode cX4_measure 47 = .ok (.iconst 0, 1) := by decide +kernel
theorem dX4_measure_48 : decode cX4_measure 48 = .ok (.istore_n 3, 1) := by decide +kernel
theorem dX4_measure_49 : decode cX4_measure 49 = .ok (.iload_n 3, 1) := by decide +kernel
theorem dX4_measure_50 : decode cX4_measure 50 = .ok (.aload_n 1, 1) := by decide +kernel
theorem dX4_measure_51 : decode cX4_measure 51 = .ok (.getfield 54, 3) := by decide +kernel
theorem dX4_measure_54 : decode cX4_measure 54 = .ok (.if_icmp .ge 15, 3) := by decide +kernel
theorem dX4_measure_57 : decode cX4_measure 57 = .ok (.aload_n 0, 1) := by decide +kernel
theorem dX4_measure_58 : decode cX4_measure 58 = .ok (.aload_n 1, 1) := by decide +kernel
theorem dX4_measure_59 : decode cX4_measure 59 = .ok (.iload_n 3, 1) := by decide +kernel
theorem dX4_measure_60 : decode cX4_measure 60 = .ok (.invokevirtual 59, 3) := by decide +kernel
theorem dX4_measure_63 : decode cX4_measure 63 = .ok (.iinc 3 1, 3) := by decide +kernel
theorem dX4_measure_66 : decode cX4_measure 66 = .ok (.goto (-17), 3) := by decide +kernel
theorem dX4_measure_69 : decode cX4_measure 69 = .ok (.iconst 0, 1) := by decide +kernel
theorem dX4_measure_70 : decode cX4_measure 70 = .ok (.istore_n 3, 1) := by decide +kernel
theorem dX4_measure_71 : decode cX4_measure 71 = .ok (.iload_n 3, 1) := by decide +kernel
theorem dX4_measure_72 : decode cX4_measure 72 = .ok (.aload_n 0, 1) := by decide +kernel
theorem dX4_measure_73 : decode cX4_measure 73 = .ok (.getfield 40, 3) := by decide +kernel
theorem dX4_measure_76 : decode cX4_measure 76 = .ok (.if_icmp .ge 68, 3) := by decide +kernel
theorem dX4_measure_79 : decode cX4_measure 79 = .ok (.aload_n 0, 1) := by decide +kernel
theorem dX4_measure_80 : decode cX4_measure 80 = .ok (.iload_n 3, 1) := by decide +kernel
theorem dX4_measure_81 : decode cX4_measure 81 = .ok (.invokevirtual 63, 3) := by decide +kernel
theorem dX4_measure_84 : decode cX4_measure 84 = .ok (.ifCond .eq 54, 3) := by decide +kernel
theorem dX4_measure_87 : decode cX4_measure 87 = .ok (.aload_n 0, 1) := by decide +kernel
theorem dX4_measure_88 : decode cX4_measure 88 = .ok (.dup, 1) := by decide +kernel
theorem dX4_measure_89 : decode cX4_measure 89 = .ok (.getfield 44, 3) := by decide +kernel
theorem dX4_measure_92 : decode cX4_measure 92 = .ok (.iconst 1, 1) := by decide +kernel
theorem dX4_measure_93 : decode cX4_measure 93 = .ok (.iadd, 1) := by decide +kernel
theorem dX4_measure_94 : decode cX4_measure 94 = .ok (.putfield 44, 3) := by decide +kernel
theorem dX4_measure_97 : decode cX4_measure 97 = .ok (.aload_n 0, 1) := by decide +kernel
theorem dX4_measure_98 : decode cX4_measure 98 = .ok (.getfield 19, 3) := by decide +kernel
theorem dX4_measure_101 : decode cX4_measure 101 = .ok (.iload_n 3, 1) := by decide +kernel
theorem dX4_measure_102 : decode cX4_measure 102 = .ok (.aload_n 0, 1) := by decide +kernel
theorem dX4_measure_103 : decode cX4_measure 103 = .ok (.iload_n 3, 1) := by decide +kernel
theorem dX4_measure_104 : decode cX4_measure 104 = .ok (.aload_n 1, 1) := by decide +kernel
theorem dX4_measure_105 : decode cX4_measure 105 = .ok (.aload_n 2, 1) := by decide +kernel
theorem dX4_measure_106 : decode cX4_measure 106 = .ok (.invokevirtual 67, 3) := by decide +kernel
theorem dX4_measure_109 : decode cX4_measure 109 = .ok (.invokestatic 71, 3) := by decide +kernel
theorem dX4_measure_112 : decode cX4_measure 112 = .ok (.aload_n 0, 1) := by decide +kernel
theorem dX4_measure_113 : decode cX4_measure 113 = .ok (.getfield 25, 3) := by decide +kernel
theorem dX4_measure_116 : decode cX4_measure 116 = .ok (.iload_n 3, 1) := by decide +kernel
theorem dX4_measure_117 : decode cX4_measure 117 = .ok (.aload_n 0, 1) := by decide +kernel
theorem dX4_measure_118 : decode cX4_measure 118 = .ok (.iload_n 3, 1) := by decide +kernel
theorem dX4_measure_119 : decode cX4_measure 119 = .ok (.invokevirtual 75, 3) := by decide +kernel
theorem dX4_measure_122 : decode cX4_measure 122 = .ok (.invokestatic 71, 3) := by decide +kernel
theorem dX4_measure_125 : decode cX4_measure 125 = .ok (.aload_n 0, 1) := by decide +kernel
theorem dX4_measure_126 : decode cX4_measure 126 = .ok (.getfield 34, 3) := by decide +kernel
theorem dX4_measure_129 : decode cX4_measure 129 = .ok (.iload_n 3, 1) := by decide +kernel
theorem dX4_measure_130 : decode cX4_measure 130 = .ok (.aload_n 0, 1) := by decide +kernel
theorem dX4_measure_131 : decode cX4_measure 131 = .ok (.iload_n 3, 1) := by decide +kernel
theorem dX4_measure_132 : decode cX4_measure 132 = .ok (.invokevirtual 79, 3) := by decide +kernel
theorem dX4_measure_135 : decode cX4_measure 135 = .ok (.invokestatic 71, 3) := by decide +kernel
theorem dX4_measure_138 : decode cX4_measure 138 = .ok (.iinc 3 1, 3) := by decide +kernel
theorem dX4_measure_141 : decode cX4_measure 141 = .ok (.goto (-70), 3) := by decide +kernel
theorem dX4_measure_144 : decode cX4_measure 144 = .ok (.return_, 1) := by decide +kernel
theorem dX4_touch_0 : decode cX4_touch 0 = .ok (.aload_n 0, 1) := by decide +kernel
theorem dX4_touch_1 : decode cX4_touch 1 = .ok (.getfield 9, 3) := by decide +kernel
theorem dX4_touch_4 : decode cX4_touch 4 = .ok (.aload_n 1, 1) := by decide +kernel
theorem dX4_touch_5 : decode cX4_touch 5 = .ok (.iload_n 2, 1) := by decide +kernel
theorem dX4_touch_6 : decode cX4_touch 6 = .ok (.invokevirtual 82, 3) := by decide +kernel
theorem dX4_touch_9 : decode cX4_touch 9 = .ok (.invokevirtual 85, 3) := by decide +kernel
theorem dX4_touch_12 : decode cX4_touch 12 = .ok (.istore_n 3, 1) := by decide +kernel
theorem dX4_touch_13 : decode cX4_touch 13 = .ok (.aload_n 1, 1) := by decide +kernel
theorem dX4_touch_14 : decode cX4_touch 14 = .ok (.iload_n 2, 1) := by decide +kernel
theorem dX4_touch_15 : decode cX4_touch 15 = .ok (.invokevirtual 90, 3) := by decide +kernel
theorem dX4_touch_18 : decode cX4_touch 18 = .ok (.istore 4, 2) := by decide +kernel
theorem dX4_touch_20 : decode cX4_touch 20 = .ok (.aload_n 0, 1) := by decide +kernel
theorem dX4_touch_21 : decode cX4_touch 21 = .ok (.getfield 15, 3) := by decide +kernel
theorem dX4_touch_24 : decode cX4_touch 24 = .ok (.iload 4, 2) := by decide +kernel
theorem dX4_touch_26 : decode cX4_touch 26 = .ok (.invokestatic 93, 3) := by decide +kernel
theorem dX4_touch_29 : decode cX4_touch 29 = .ok (.iconst (-1), 1) := by decide +kernel
theorem dX4_touch_30 : decode cX4_touch 30 = .ok (.if_icmp .ne 13, 3) := by decide +kernel
theorem dX4_touch_33 : decode cX4_touch 33 = .ok (.aload_n 0, 1) := by decide +kernel
theorem dX4_touch_34 : decode cX4_touch 34 = .ok (.getfield 15, 3) := by decide +kernel
theorem dX4_touch_37 : decode cX4_touch 37 = .ok (.iload 4, 2) := by decide +kernel
theorem dX4_touch_39 : decode cX4_touch 39 = .ok (.iload_n 2, 1) := by decide +kernel
theorem dX4_touch_40 : decode cX4_touch 40 = .ok (.invokestatic 71, 3) := by decide +kernel
theorem dX4_touch_43 : decode cX4_touch 43 = .ok (.aload_n 0, 1) := by decide +kernel
theorem dX4_touch_44 : decode cX4_touch 44 = .ok (.getfield 28, 3) := by decide +kernel
theorem dX4_touch_47 : decode cX4_touch 47 = .ok (.iload 4, 2) := by decide +kernel
theorem dX4_touch_49 : decode cX4_touch 49 = .ok (.aload_n 0, 1) := by decide +kernel
theorem dX4_touch_50 : decode cX4_touch 50 = .ok (.getfield 28, 3) := by decide +kernel
theorem dX4_touch_53 : decode cX4_touch 53 = .ok (.iload 4, 2) := by decide +kernel
theorem dX4_touch_55 : decode cX4_touch 55 = .ok (.invokestatic 93, 3) := by decide +kernel
theorem dX4_touch_58 : decode cX4_touch 58 = .ok (.iconst 1, 1) := by decide +kernel
theorem dX4_touch_59 : decode cX4_touch 59 = .ok (.iadd, 1) := by decide +kernel
theorem dX4_touch_60 : decode cX4_touch 60 = .ok (.invokestatic 71, 3) := by decide +kernel
theorem dX4_touch_63 : decode cX4_touch 63 = .ok (.aload_n 0, 1) := by decide +kernel
theorem dX4_touch_64 : decode cX4_touch 64 = .ok (.iload 4, 2) := by decide +kernel
theorem dX4_touch_66 : decode cX4_touch 66 = .ok (.iload_n 2, 1) := by decide +kernel
theorem dX4_touch_67 : decode cX4_touch 67 = .ok (.iload_n 3, 1) := by decide +kernel
theorem dX4_touch_68 : decode cX4_touch 68 = .ok (.invokevirtual 97, 3) := by decide +kernel
theorem dX4_touch_71 : decode cX4_touch 71 = .ok (.iconst 0, 1) := by decide +kernel
theorem dX4_touch_72 : decode cX4_touch 72 = .ok (.istore 5, 2) := by decide +kernel
theorem dX4_touch_74 : decode cX4_touch 74 = .ok (.iload 5, 2) := by decide +kernel
theorem dX4_touch_76 : decode cX4_touch 76 = .ok (.iconst 3, 1) := by decide +kernel
theorem dX4_touch_77 : decode cX4_touch 77 = .ok (.if_icmp .ge 52, 3) := by decide +kernel
theorem dX4_touch_80 : decode cX4_touch 80 = .ok (.aload_n 1, 1) := by decide +kernel
theorem dX4_touch_81 : decode cX4_touch 81 = .ok (.iload_n 2, 1) := by decide +kernel
theorem dX4_touch_82 : decode cX4_touch 82 = .ok (.iload 5, 2) := by decide +kernel
theorem dX4_touch_84 : decode cX4_touch 84 = .ok (.invokevirtual 101, 3) := by decide +kernel
theorem dX4_touch_87 : decode cX4_touch 87 = .ok (.istore 6, 2) := by decide +kernel
theorem dX4_touch_89 : decode cX4_touch 89 = .ok (.iload 6, 2) := by decide +kernel
theorem dX4_touch_91 : decode cX4_touch 91 = .ok (.iconst (-1), 1) := by decide +kernel
theorem dX4_touch_92 : decode cX4_touch 92 = .ok (.if_icmp .eq 31, 3) := by decide +kernel
theorem dX4_touch_95 : decode cX4_touch 95 = .ok (.aload_n 0, 1) := by decide +kernel
theorem dX4_touch_96 : decode cX4_touch 96 = .ok (.getfield 31, 3) := by decide +kernel
theorem dX4_touch_99 : decode cX4_touch 99 = .ok (.iload 6, 2) := by decide +kernel
theorem dX4_touch_101 : decode cX4_touch 101 = .ok (.aload_n 0, 1) := by decide +kernel
theorem dX4_touch_102 : decode cX4_touch 102 = .ok (.getfield 31, 3) := by decide +kernel
theorem dX4_touch_105 : decode cX4_touch 105 = .ok (.iload 6, 2) := by decide +kernel
theorem dX4_touch_107 : decode cX4_touch 107 = .ok (.invokestatic 93, 3) := by decide +kernel
theorem dX4_touch_110 : decode cX4_touch 110 = .ok (.iconst 1, 1) := by decide +kernel
theorem dX4_touch_111 : decode cX4_touch 111 = .ok (.iadd, 1) := by decide +kernel
theorem dX4_touch_112 : decode cX4_touch 112 = .ok (.invokestatic 71, 3) := by decide +kernel
theorem dX4_touch_115 : decode cX4_touch 115 = .ok (.aload_n 0, 1) := by decide +kernel
theorem dX4_touch_116 : decode cX4_touch 116 = .ok (.iload 6, 2) := by decide +kernel
theorem dX4_touch_118 : decode cX4_touch 118 = .ok (.iload_n 2, 1) := by decide +kernel
theorem dX4_touch_119 : decode cX4_touch 119 = .ok (.iload_n 3, 1) := by decide +kernel
theorem dX4_touch_120 : decode cX4_touch 120 = .ok (.invokevirtual 97, 3) := by decide +kernel
theorem dX4_touch_123 : decode cX4_touch 123 = .ok (.iinc 5 1, 3) := by decide +kernel
theorem dX4_touch_126 : decode cX4_touch 126 = .ok (.goto (-52), 3) := by decide +kernel
theorem dX4_touch_129 : decode cX4_touch 129 = .ok (.aload_n 1, 1) := by decide +kernel
theorem dX4_touch_130 : decode cX4_touch 130 = .ok (.iload_n 2, 1) := by decide +kernel
theorem dX4_touch_131 : decode cX4_touch 131 = .ok (.invokevirtual 105, 3) := by decide +kernel
theorem dX4_touch_134 : decode cX4_touch 134 = .ok (.bipush 9, 2) := by decide +kernel
theorem dX4_touch_136 : decode cX4_touch 136 = .ok (.if_icmp .ne 25, 3) := by decide +kernel
theorem dX4_touch_139 : decode cX4_touch 139 = .ok (.aload_n 0, 1) := by decide +kernel
theorem dX4_touch_140 : decode cX4_touch 140 = .ok (.getfield 37, 3) := by decide +kernel
theorem dX4_touch_143 : decode cX4_touch 143 = .ok (.aload_n 0, 1) := by decide +kernel
theorem dX4_touch_144 : decode cX4_touch 144 = .ok (.getfield 47, 3) := by decide +kernel
theorem dX4_touch_147 : decode cX4_touch 147 = .ok (.iload_n 2, 1) := by decide +kernel
theorem dX4_touch_148 : decode cX4_touch 148 = .ok (.invokestatic 71, 3) := by decide +kernel
theorem dX4_touch_151 : decode cX4_touch 151 = .ok (.aload_n 0, 1) := by decide +kernel
theorem dX4_touch_152 : decode cX4_touch 152 = .ok (.dup, 1) := by decide +kernel
theorem dX4_touch_153 : decode cX4_touch 153 = .ok (.getfield 47, 3) := by decide +kernel
theorem dX4_touch_156 : decode cX4_touch 156 = .ok (.iconst 1, 1) := by decide +kernel
theorem dX4_touch_157 : decode cX4_touch 157 = .ok (.iadd, 1) := by decide +kernel
theorem dX4_touch_158 : decode cX4_touch 158 = .ok (.putfield 47, 3) := by decide +kernel
theorem dX4_touch_161 : decode cX4_touch 161 = .ok (.return_, 1) := by decide +kernel
theorem dX4_touchValue_0 : decode cX4_touchValue 0 = .ok (.aload_n 0, 1) := by decide +kernel
theorem dX4_touchValue_1 : decode cX4_touchValue 1 = .ok (.aload_n 0, 1) := by decide +kernel
theorem dX4_touchValue_2 : decode cX4_touchValue 2 = .ok (.getfield 40, 3) := by decide +kernel
theorem dX4_touchValue_5 : decode cX4_touchValue 5 = .ok (.iload_n 1, 1) := by decide +kernel
theorem dX4_touchValue_6 : decode cX4_touchValue 6 = .ok (.iconst 1, 1) := by decide +kernel
theorem dX4_touchValue_7 : decode cX4_touchValue 7 = .ok (.iadd, 1) := by decide +kernel
theorem dX4_touchValue_8 : decode cX4_touchValue 8 = .ok (.invokestatic 108, 3) := by decide +kernel
theorem dX4_touchValue_11 : decode cX4_touchValue 11 = .ok (.putfield 40, 3) := by decide +kernel
theorem dX4_touchValue_14 : decode cX4_touchValue 14 = .ok (.aload_n 0, 1) := by decide +kernel
theorem dX4_touchValue_15 : decode cX4_touchValue 15 = .ok (.getfield 19, 3) := by decide +kernel
theorem dX4_touchValue_18 : decode cX4_touchValue 18 = .ok (.iload_n 1, 1) := by decide +kernel
theorem dX4_touchValue_19 : decode cX4_touchValue 19 = .ok (.iload_n 2, 1) := by decide +kernel
theorem dX4_touchValue_20 : decode cX4_touchValue 20 = .ok (.invokestatic 71, 3) := by decide +kernel
theorem dX4_touchValue_23 : decode cX4_touchValue 23 = .ok (.aload_n 0, 1) := by decide +kernel
theorem dX4_touchValue_24 : decode cX4_touchValue 24 = .ok (.getfield 22, 3) := by decide +kernel
theorem dX4_touchValue_27 : decode cX4_touchValue 27 = .ok (.iload_n 1, 1) := by decide +kernel
theorem dX4_touchValue_28 : decode cX4_touchValue 28 = .ok (.aload_n 0, 1) := by decide +kernel
theorem dX4_touchValue_29 : decode cX4_touchValue 29 = .ok (.getfield 22, 3) := by decide +kernel
theorem dX4_touchValue_32 : decode cX4_touchValue 32 = .ok (.iload_n 1, 1) := by decide +kernel
theorem dX4_touchValue_33 : decode cX4_touchValue 33 = .ok (.invokestatic 93, 3) := by decide +kernel
theorem dX4_touchValue_36 : decode cX4_touchValue 36 = .ok (.iload_n 3, 1) := by decide +kernel
theorem dX4_touchValue_37 : decode cX4_touchValue 37 = .ok (.iadd, 1) := by decide +kernel
theorem dX4_touchValue_38 : decode cX4_touchValue 38 = .ok (.invokestatic 71, 3) := by decide +kernel
theorem dX4_touchValue_41 : decode cX4_touchValue 41 = .ok (.return_, 1) := by decide +kernel
theorem dX4_endOf_0 : decode cX4_endOf 0 = .ok (.iload_n 1, 1) := by decide +kernel
theorem dX4_endOf_1 : decode cX4_endOf 1 = .ok (.bipush 8, 2) := by decide +kernel
theorem dX4_endOf_3 : decode cX4_endOf 3 = .ok (.if_icmp .ge 22, 3) := by decide +kernel
theorem dX4_endOf_6 : decode cX4_endOf 6 = .ok (.aload_n 0, 1) := by decide +kernel
theorem dX4_endOf_7 : decode cX4_endOf 7 = .ok (.getfield 9, 3) := by decide +kernel
theorem dX4_endOf_10 : decode cX4_endOf 10 = .ok (.getfield 113, 3) := by decide +kernel
theorem dX4_endOf_13 : decode cX4_endOf 13 = .ok (.iload_n 1, 1) := by decide +kernel
theorem dX4_endOf_14 : decode cX4_endOf 14 = .ok (.invokestatic 116, 3) := by decide +kernel
theorem dX4_endOf_17 : decode cX4_endOf 17 = .ok (.ifCond .eq 8, 3) := by decide +kernel
theorem dX4_endOf_20 : decode cX4_endOf 20 = .ok (.aload_n 2, 1) := by decide +kernel
theorem dX4_endOf_21 : decode cX4_endOf 21 = .ok (.getfield 54, 3) := by decide +kernel
theorem dX4_endOf_24 : decode cX4_endOf 24 = .ok (.ireturn, 1) := by decide +kernel
theorem dX4_endOf_25 : decode cX4_endOf 25 = .ok (.aload_n 0, 1) := by decide +kernel
theorem dX4_endOf_26 : decode cX4_endOf 26 = .ok (.iload_n 1, 1) := by decide +kernel
theorem dX4_endOf_27 : decode cX4_endOf 27 = .ok (.invokevirtual 120, 3) := by decide +kernel
theorem dX4_endOf_30 : decode cX4_endOf 30 = .ok (.istore 4, 2) := by decide +kernel
theorem dX4_endOf_32 : decode cX4_endOf 32 = .ok (.aload_n 2, 1) := by decide +kernel
theorem dX4_endOf_33 : decode cX4_endOf 33 = .ok (.iload 4, 2) := by decide +kernel
theorem dX4_endOf_35 : decode cX4_endOf 35 = .ok (.invokevirtual 82, 3) := by decide +kernel
theorem dX4_endOf_38 : decode cX4_endOf 38 = .ok (.istore 5, 2) := by decide +kernel
theorem dX4_endOf_40 : decode cX4_endOf 40 = .ok (.iload 5, 2) := by decide +kernel
theorem dX4_endOf_42 : decode cX4_endOf 42 = .ok (.iconst (-1), 1) := by decide +kernel
theorem dX4_endOf_43 : decode cX4_endOf 43 = .ok (.if_icmp .eq 34, 3) := by decide +kernel
theorem dX4_endOf_46 : decode cX4_endOf 46 = .ok (.aload_n 0, 1) := by decide +kernel
theorem dX4_endOf_47 : decode cX4_endOf 47 = .ok (.getfield 9, 3) := by decide +kernel
theorem dX4_endOf_50 : decode cX4_endOf 50 = .ok (.iload 5, 2) := by decide +kernel
theorem dX4_endOf_52 : decode cX4_endOf 52 = .ok (.invokevirtual 85, 3) := by decide +kernel
theorem dX4_endOf_55 : decode cX4_endOf 55 = .ok (.iconst 1, 1) := by decide +kernel
theorem dX4_endOf_56 : decode cX4_endOf 56 = .ok (.if_icmp .le 21, 3) := by decide +kernel
theorem dX4_endOf_59 : decode cX4_endOf 59 = .ok (.aload_n 0, 1) := by decide +kernel
theorem dX4_endOf_60 : decode cX4_endOf 60 = .ok (.iload_n 1, 1) := by decide +kernel
theorem dX4_endOf_61 : decode cX4_endOf 61 = .ok (.invokevirtual 123, 3) := by decide +kernel
theorem dX4_endOf_64 : decode cX4_endOf 64 = .ok (.aload_n 3, 1) := by decide +kernel
theorem dX4_endOf_65 : decode cX4_endOf 65 = .ok (.iload 5, 2) := by decide +kernel
theorem dX4_endOf_67 : decode cX4_endOf 67 = .ok (.invokestatic 93, 3) := by decide +kernel
theorem dX4_endOf_70 : decode cX4_endOf 70 = .ok (.if_icmp .ge 7, 3) := by decide +kernel
theorem dX4_endOf_73 : decode cX4_endOf 73 = .ok (.iconst 1, 1) := by decide +kernel
theorem dX4_endOf_74 : decode cX4_endOf 74 = .ok (.goto 4, 3) := by decide +kernel
theorem dX4_endOf_77 : decode cX4_endOf 77 = .ok (.iconst 0, 1) := by decide +kernel
theorem dX4_endOf_78 : decode cX4_endOf 78 = .ok (.istore 6, 2) := by decide +kernel
theorem dX4_endOf_80 : decode cX4_endOf 80 = .ok (.iload 6, 2) := by decide +kernel
theorem dX4_endOf_82 : decode cX4_endOf 82 = .ok (.ifCond .eq 14, 3) := by decide +kernel
theorem dX4_endOf_85 : decode cX4_endOf 85 = .ok (.aload_n 3, 1) := by decide +kernel
theorem dX4_endOf_86 : decode cX4_endOf 86 = .ok (.iload 5, 2) := by decide +kernel
theorem dX4_endOf_88 : decode cX4_endOf 88 = .ok (.iconst 1, 1) := by decide +kernel
theorem dX4_endOf_89 : decode cX4_endOf 89 = .ok (.iadd, 1) := by decide +kernel
theorem dX4_endOf_90 : decode cX4_endOf 90 = .ok (.invokestatic 93, 3) := by decide +kernel
theorem dX4_endOf_93 : decode cX4_endOf 93 = .ok (.goto 5, 3) := by decide +kernel
theorem dX4_endOf_96 : decode cX4_endOf 96 = .ok (.iload 4, 2) := by decide +kernel
theorem dX4_endOf_98 : decode cX4_endOf 98 = .ok (.ireturn, 1) := by decide +kernel
theorem dX4_weigh_0 : decode cX4_weigh 0 = .ok (.aload_n 0, 1) := by decide +kernel
theorem dX4_weigh_1 : decode cX4_weigh 1 = .ok (.iload_n 1, 1) := by decide +kernel
theorem dX4_weigh_2 : decode cX4_weigh 2 = .ok (.invokevirtual 120, 3) := by decide +kernel
theorem dX4_weigh_5 : decode cX4_weigh 5 = .ok (.aload_n 0, 1) := by decide +kernel
theorem dX4_weigh_6 : decode cX4_weigh 6 = .ok (.iload_n 1, 1) := by decide +kernel
theorem dX4_weigh_7 : decode cX4_weigh 7 = .ok (.invokevirtual 123, 3) := by decide +kernel
theorem dX4_weigh_10 : decode cX4_weigh 10 = .ok (.isub, 1) := by decide +kernel
theorem dX4_weigh_11 : decode cX4_weigh 11 = .ok (.iconst 1, 1) := by decide +kernel
theorem dX4_weigh_12 : decode cX4_weigh 12 = .ok (.iadd, 1) := by decide +kernel
theorem dX4_weigh_13 : decode cX4_weigh 13 = .ok (.istore_n 2, 1) := by decide +kernel
theorem dX4_weigh_14 : decode cX4_weigh 14 = .ok (.iload_n 2, 1) := by decide +kernel
theorem dX4_weigh_15 : decode cX4_weigh 15 = .ok (.ifCond .le 19, 3) := by decide +kernel
theorem dX4_weigh_18 : decode cX4_weigh 18 = .ok (.bipush 100, 2) := by decide +kernel
theorem dX4_weigh_20 : decode cX4_weigh 20 = .ok (.aload_n 0, 1) := by decide +kernel
theorem dX4_weigh_21 : decode cX4_weigh 21 = .ok (.getfield 22, 3) := by decide +kernel
theorem dX4_weigh_24 : decode cX4_weigh 24 = .ok (.iload_n 1, 1) := by decide +kernel
theorem dX4_weigh_25 : decode cX4_weigh 25 = .ok (.invokestatic 93, 3) := by decide +kernel
theorem dX4_weigh_28 : decode cX4_weigh 28 = .ok (.imul, 1) := by decide +kernel
theorem dX4_weigh_29 : decode cX4_weigh 29 = .ok (.iload_n 2, 1) := by decide +kernel
theorem dX4_weigh_30 : decode cX4_weigh 30 = .ok (.idiv, 1) := by decide +kernel
theorem dX4_weigh_31 : decode cX4_weigh 31 = .ok (.goto 4, 3) := by decide +kernel
theorem dX4_weigh_34 : decode cX4_weigh 34 = .ok (.iconst 0, 1) := by decide +kernel
theorem dX4_weigh_35 : decode cX4_weigh 35 = .ok (.ireturn, 1) := by decide +kernel
theorem dX4_countCrossed_0 : decode cX4_countCrossed 0 = .ok (.iconst 0, 1) := by decide +kernel
theorem dX4_countCrossed_1 : decode cX4_countCrossed 1 = .ok (.istore_n 2, 1) := by decide +kernel
theorem dX4_countCrossed_2 : decode cX4_countCrossed 2 = .ok (.iconst 0, 1) := by decide +kernel
theorem dX4_countCrossed_3 : decode cX4_countCrossed 3 = .ok (.istore_n 3, 1) := by decide +kernel
theorem dX4_countCrossed_4 : decode cX4_countCrossed 4 = .ok (.iload_n 3, 1) := by decide +kernel
theorem dX4_countCrossed_5 : decode cX4_countCrossed 5 = .ok (.aload_n 0, 1) := by decide +kernel
theorem dX4_countCrossed_6 : decode cX4_countCrossed 6 = .ok (.getfield 47, 3) := by decide +kernel
theorem dX4_countCrossed_9 : decode cX4_countCrossed 9 = .ok (.if_icmp .ge 28, 3) := by decide +kernel
theorem dX4_countCrossed_12 : decode cX4_countCrossed 12 = .ok (.aload_n 0, 1) := by decide +kernel
theorem dX4_countCrossed_13 : decode cX4_countCrossed 13 = .ok (.iload_n 1, 1) := by decide +kernel
theorem dX4_countCrossed_14 : decode cX4_countCrossed 14 = .ok (.aload_n 0, 1) := by decide +kernel
theorem dX4_countCrossed_15 : decode cX4_countCrossed 15 = .ok (.getfield 37, 3) := by decide +kernel
theorem dX4_countCrossed_18 : decode cX4_countCrossed 18 = .ok (.iload_n 3, 1) := by decide +kernel
theorem dX4_countCrossed_19 : decode cX4_countCrossed 19 = .ok (.invokestatic 93, 3) := by decide +kernel
theorem dX4_countCrossed_22 : decode cX4_countCrossed 22 = .ok (.invokevirtual 126, 3) := by decide +kernel
theorem dX4_countCrossed_25 : decode cX4_countCrossed 25 = .ok (.ifCond .eq 6, 3) := by decide +kernel
theorem dX4_countCrossed_28 : decode cX4_countCrossed 28 = .ok (.iinc 2 1, 3) := by decide +kernel
theorem dX4_countCrossed_31 : decode cX4_countCrossed 31 = .ok (.iinc 3 1, 3) := by decide +kernel
theorem dX4_countCrossed_34 : decode cX4_countCrossed 34 = .ok (.goto (-30), 3) := by decide +kernel
theorem dX4_countCrossed_37 : decode cX4_countCrossed 37 = .ok (.iload_n 2, 1) := by decide +kernel
theorem dX4_countCrossed_38 : decode cX4_countCrossed 38 = .ok (.ireturn, 1) := by decide +kernel
theorem dX4_isLiving_0 : decode cX4_isLiving 0 = .ok (.iload_n 1, 1) := by decide +kernel
theorem dX4_isLiving_1 : decode cX4_isLiving 1 = .ok (.bipush 88, 2) := by decide +kernel
theorem dX4_isLiving_3 : decode cX4_isLiving 3 = .ok (.invokestatic 129, 3) := by decide +kernel
theorem dX4_isLiving_6 : decode cX4_isLiving 6 = .ok (.ifCond .eq 19, 3) := by decide +kernel
theorem dX4_isLiving_9 : decode cX4_isLiving 9 = .ok (.aload_n 0, 1) := by decide +kernel
theorem dX4_isLiving_10 : decode cX4_isLiving 10 = .ok (.getfield 15, 3) := by decide +kernel
theorem dX4_isLiving_13 : decode cX4_isLiving 13 = .ok (.iload_n 1, 1) := by decide +kernel
theorem dX4_isLiving_14 : decode cX4_isLiving 14 = .ok (.invokestatic 93, 3) := by decide +kernel
theorem dX4_isLiving_17 : decode cX4_isLiving 17 = .ok (.iconst (-1), 1) := by decide +kernel
theorem dX4_isLiving_18 : decode cX4_isLiving 18 = .ok (.if_icmp .eq 7, 3) := by decide +kernel
theorem dX4_isLiving_21 : decode cX4_isLiving 21 = .ok (.iconst 1, 1) := by decide +kernel
theorem dX4_isLiving_22 : decode cX4_isLiving 22 = .ok (.goto 4, 3) := by decide +kernel
theorem dX4_isLiving_25 : decode cX4_isLiving 25 = .ok (.iconst 0, 1) := by decide +kernel
theorem dX4_isLiving_26 : decode cX4_isLiving 26 = .ok (.ireturn, 1) := by decide +kernel
theorem dX4_isCrossing_0 : decode cX4_isCrossing 0 = .ok (.aload_n 0, 1) := by decide +kernel
theorem dX4_isCrossing_1 : decode cX4_isCrossing 1 = .ok (.iload_n 1, 1) := by decide +kernel
theorem dX4_isCrossing_2 : decode cX4_isCrossing 2 = .ok (.invokevirtual 63, 3) := by decide +kernel
theorem dX4_isCrossing_5 : decode cX4_isCrossing 5 = .ok (.ifCond .eq 25, 3) := by decide +kernel
theorem dX4_isCrossing_8 : decode cX4_isCrossing 8 = .ok (.aload_n 0, 1) := by decide +kernel
theorem dX4_isCrossing_9 : decode cX4_isCrossing 9 = .ok (.iload_n 1, 1) := by decide +kernel
theorem dX4_isCrossing_10 : decode cX4_isCrossing 10 = .ok (.invokevirtual 123, 3) := by decide +kernel
theorem dX4_isCrossing_13 : decode cX4_isCrossing 13 = .ok (.iload_n 2, 1) := by decide +kernel
theorem dX4_isCrossing_14 : decode cX4_isCrossing 14 = .ok (.if_icmp .ge 16, 3) := by decide +kernel
theorem dX4_isCrossing_17 : decode cX4_isCrossing 17 = .ok (.iload_n 2, 1) := by decide +kernel
theorem dX4_isCrossing_18 : decode cX4_isCrossing 18 = .ok (.aload_n 0, 1) := by decide +kernel
theorem dX4_isCrossing_19 : decode cX4_isCrossing 19 = .ok (.iload_n 1, 1) := by decide +kernel
theorem dX4_isCrossing_20 : decode cX4_isCrossing 20 = .ok (.invokevirtual 120, 3) := by decide +kernel
theorem dX4_isCrossing_23 : decode cX4_isCrossing 23 = .ok (.if_icmp .ge 7, 3) := by decide +kernel
theorem dX4_isCrossing_26 : decode cX4_isCrossing 26 = .ok (.iconst 1, 1) := by decide +kernel
theorem dX4_isCrossing_27 : decode cX4_isCrossing 27 = .ok (.goto 4, 3) := by decide +kernel
theorem dX4_isCrossing_30 : decode cX4_isCrossing 30 = .ok (.iconst 0, 1) := by decide +kernel
theorem dX4_isCrossing_31 : decode cX4_isCrossing 31 = .ok (.ireturn, 1) := by decide +kernel
theorem dX4_firstOf_0 : decode cX4_firstOf 0 = .ok (.aload_n 0, 1) := by decide +kernel
theorem dX4_firstOf_1 : decode cX4_firstOf 1 = .ok (.getfield 15, 3) := by decide +kernel
theorem dX4_firstOf_4 : decode cX4_firstOf 4 = .ok (.iload_n 1, 1) := by decide +kernel
theorem dX4_firstOf_5 : decode cX4_firstOf 5 = .ok (.invokestatic 93, 3) := by decide +kernel
theorem dX4_firstOf_8 : decode cX4_firstOf 8 = .ok (.ireturn, 1) := by decide +kernel
theorem dX4_lastOf_0 : decode cX4_lastOf 0 = .ok (.aload_n 0, 1) := by decide +kernel
theorem dX4_lastOf_1 : decode cX4_lastOf 1 = .ok (.getfield 19, 3) := by decide +kernel
theorem dX4_lastOf_4 : decode cX4_lastOf 4 = .ok (.iload_n 1, 1) := by decide +kernel
theorem dX4_lastOf_5 : decode cX4_lastOf 5 = .ok (.invokestatic 93, 3) := by decide +kernel
theorem dX4_lastOf_8 : decode cX4_lastOf 8 = .ok (.ireturn, 1) := by decide +kernel
theorem dX4_weightOf_0 : decode cX4_weightOf 0 = .ok (.aload_n 0, 1) := by decide +kernel
theorem dX4_weightOf_1 : decode cX4_weightOf 1 = .ok (.getfield 25, 3) := by decide +kernel
theorem dX4_weightOf_4 : decode cX4_weightOf 4 = .ok (.iload_n 1, 1) := by decide +kernel
theorem dX4_weightOf_5 : decode cX4_weightOf 5 = .ok (.invokestatic 93, 3) := by decide +kernel
theorem dX4_weightOf_8 : decode cX4_weightOf 8 = .ok (.ireturn, 1) := by decide +kernel
theorem dX4_crossedBy_0 : decode cX4_crossedBy 0 = .ok (.aload_n 0, 1) := by decide +kernel
theorem dX4_crossedBy_1 : decode cX4_crossedBy 1 = .ok (.getfield 34, 3) := by decide +kernel
theorem dX4_crossedBy_4 : decode cX4_crossedBy 4 = .ok (.iload_n 1, 1) := by decide +kernel
theorem dX4_crossedBy_5 : decode cX4_crossedBy 5 = .ok (.invokestatic 93, 3) := by decide +kernel
theorem dX4_crossedBy_8 : decode cX4_crossedBy 8 = .ok (.ireturn, 1) := by decide +kernel
theorem dX4_writesOf_0 : decode cX4_writesOf 0 = .ok (.aload_n 0, 1) := by decide +kernel
theorem dX4_writesOf_1 : decode cX4_writesOf 1 = .ok (.getfield 28, 3) := by decide +kernel
theorem dX4_writesOf_4 : decode cX4_writesOf 4 = .ok (.iload_n 1, 1) := by decide +kernel
theorem dX4_writesOf_5 : decode cX4_writesOf 5 = .ok (.invokestatic 93, 3) := by decide +kernel
theorem dX4_writesOf_8 : decode cX4_writesOf 8 = .ok (.ireturn, 1) := by decide +kernel
theorem dX4_touchesOf_0 : decode cX4_touchesOf 0 = .ok (.aload_n 0, 1) := by decide +kernel
theorem dX4_touchesOf_1 : decode cX4_touchesOf 1 = .ok (.getfield 28, 3) := by decide +kernel
theorem dX4_touchesOf_4 : decode cX4_touchesOf 4 = .ok (.iload_n 1, 1) := by decide +kernel
theorem dX4_touchesOf_5 : decode cX4_touchesOf 5 = .ok (.invokestatic 93, 3) := by decide +kernel
theorem dX4_touchesOf_8 : decode cX4_touchesOf 8 = .ok (.aload_n 0, 1) := by decide +kernel
theorem dX4_touchesOf_9 : decode cX4_touchesOf 9 = .ok (.getfield 31, 3) := by decide +kernel
theorem dX4_touchesOf_12 : decode cX4_touchesOf 12 = .ok (.iload_n 1, 1) := by decide +kernel
theorem dX4_touchesOf_13 : decode cX4_touchesOf 13 = .ok (.invokestatic 93, 3) := by decide +kernel
theorem dX4_touchesOf_16 : decode cX4_touchesOf 16 = .ok (.iadd, 1) := by decide +kernel
theorem dX4_touchesOf_17 : decode cX4_touchesOf 17 = .ok (.ireturn, 1) := by decide +kernel
theorem dX4_pointOfCall_0 : decode cX4_pointOfCall 0 = .ok (.aload_n 0, 1) := by decide +kernel
theorem dX4_pointOfCall_1 : decode cX4_pointOfCall 1 = .ok (.getfield 37, 3) := by decide +kernel
theorem dX4_pointOfCall_4 : decode cX4_pointOfCall 4 = .ok (.iload_n 1, 1) := by decide +kernel
theorem dX4_pointOfCall_5 : decode cX4_pointOfCall 5 = .ok (.invokestatic 93, 3) := by decide +kernel
theorem dX4_pointOfCall_8 : decode cX4_pointOfCall 8 = .ok (.ireturn, 1) := by decide +kernel
theorem dX4_mostAtOnce_0 : decode cX4_mostAtOnce 0 = .ok (.iconst 0, 1) := by decide +kernel
theorem dX4_mostAtOnce_1 : decode cX4_mostAtOnce 1 = .ok (.istore_n 2, 1) := by decide +kernel
theorem dX4_mostAtOnce_2 : decode cX4_mostAtOnce 2 = .ok (.iconst 0, 1) := by decide +kernel
theorem dX4_mostAtOnce_3 : decode cX4_mostAtOnce 3 = .ok (.istore_n 3, 1) := by decide +kernel
theorem dX4_mostAtOnce_4 : decode cX4_mostAtOnce 4 = .ok (.iload_n 3, 1) := by decide +kernel
theorem dX4_mostAtOnce_5 : decode cX4_mostAtOnce 5 = .ok (.iload_n 1, 1) := by decide +kernel
theorem dX4_mostAtOnce_6 : decode cX4_mostAtOnce 6 = .ok (.if_icmp .gt 69, 3) := by decide +kernel
theorem dX4_mostAtOnce_9 : decode cX4_mostAtOnce 9 = .ok (.iconst 0, 1) := by decide +kernel
theorem dX4_mostAtOnce_10 : decode cX4_mostAtOnce 10 = .ok (.istore 4, 2) := by decide +kernel
theorem dX4_mostAtOnce_12 : decode cX4_mostAtOnce 12 = .ok (.iconst 0, 1) := by decide +kernel
theorem dX4_mostAtOnce_13 : decode cX4_mostAtOnce 13 = .ok (.istore 5, 2) := by decide +kernel
theorem dX4_mostAtOnce_15 : decode cX4_mostAtOnce 15 = .ok (.iload 5, 2) := by decide +kernel
theorem dX4_mostAtOnce_17 : decode cX4_mostAtOnce 17 = .ok (.aload_n 0, 1) := by decide +kernel
theorem dX4_mostAtOnce_18 : decode cX4_mostAtOnce 18 = .ok (.getfield 40, 3) := by decide +kernel
theorem dX4_mostAtOnce_21 : decode cX4_mostAtOnce 21 = .ok (.if_icmp .ge 41, 3) := by decide +kernel
theorem dX4_mostAtOnce_24 : decode cX4_mostAtOnce 24 = .ok (.aload_n 0, 1) := by decide +kernel
theorem dX4_mostAtOnce_25 : decode cX4_mostAtOnce 25 = .ok (.iload 5, 2) := by decide +kernel
theorem dX4_mostAtOnce_27 : decode cX4_mostAtOnce 27 = .ok (.invokevirtual 63, 3) := by decide +kernel
theorem dX4_mostAtOnce_30 : decode cX4_mostAtOnce 30 = .ok (.ifCond .eq 26, 3) := by decide +kernel
theorem dX4_mostAtOnce_33 : decode cX4_mostAtOnce 33 = .ok (.aload_n 0, 1) := by decide +kernel
theorem dX4_mostAtOnce_34 : decode cX4_mostAtOnce 34 = .ok (.iload 5, 2) := by decide +kernel
theorem dX4_mostAtOnce_36 : decode cX4_mostAtOnce 36 = .ok (.invokevirtual 123, 3) := by decide +kernel
theorem dX4_mostAtOnce_39 : decode cX4_mostAtOnce 39 = .ok (.iload_n 3, 1) := by decide +kernel
theorem dX4_mostAtOnce_40 : decode cX4_mostAtOnce 40 = .ok (.if_icmp .gt 16, 3) := by decide +kernel
theorem dX4_mostAtOnce_43 : decode cX4_mostAtOnce 43 = .ok (.iload_n 3, 1) := by decide +kernel
theorem dX4_mostAtOnce_44 : decode cX4_mostAtOnce 44 = .ok (.aload_n 0, 1) := by decide +kernel
theorem dX4_mostAtOnce_45 : decode cX4_mostAtOnce 45 = .ok (.iload 5, 2) := by decide +kernel
theorem dX4_mostAtOnce_47 : decode cX4_mostAtOnce 47 = .ok (.invokevirtual 120, 3) := by decide +kernel
theorem dX4_mostAtOnce_50 : decode cX4_mostAtOnce 50 = .ok (.if_icmp .gt 6, 3) := by decide +kernel
theorem dX4_mostAtOnce_53 : decode cX4_mostAtOnce 53 = .ok (.iinc 4 1, 3) := by decide +kernel
theorem dX4_mostAtOnce_56 : decode cX4_mostAtOnce 56 = .ok (.iinc 5 1, 3) := by decide +kernel
theorem dX4_mostAtOnce_59 : decode cX4_mostAtOnce 59 = .ok (.goto (-44), 3) := by decide +kernel
theorem dX4_mostAtOnce_62 : decode cX4_mostAtOnce 62 = .ok (.iload_n 2, 1) := by decide +kernel
theorem dX4_mostAtOnce_63 : decode cX4_mostAtOnce 63 = .ok (.iload 4, 2) := by decide +kernel
theorem dX4_mostAtOnce_65 : decode cX4_mostAtOnce 65 = .ok (.invokestatic 108, 3) := by decide +kernel
theorem dX4_mostAtOnce_68 : decode cX4_mostAtOnce 68 = .ok (.istore_n 2, 1) := by decide +kernel
theorem dX4_mostAtOnce_69 : decode cX4_mostAtOnce 69 = .ok (.iinc 3 1, 3) := by decide +kernel
theorem dX4_mostAtOnce_72 : decode cX4_mostAtOnce 72 = .ok (.goto (-68), 3) := by decide +kernel
theorem dX4_mostAtOnce_75 : decode cX4_mostAtOnce 75 = .ok (.iload_n 2, 1) := by decide +kernel
theorem dX4_mostAtOnce_76 : decode cX4_mostAtOnce 76 = .ok (.ireturn, 1) := by decide +kernel
theorem dX5_init_0 : decode cX5_init 0 = .ok (.aload_n 0, 1) := by decide +kernel
theorem dX5_init_1 : decode cX5_init 1 = .ok (.invokespecial 3, 3) := by decide +kernel
theorem dX5_init_4 : decode cX5_init 4 = .ok (.aload_n 0, 1) := by decide +kernel
theorem dX5_init_5 : decode cX5_init 5 = .ok (.bipush 8, 2) := by decide +kernel
theorem dX5_init_7 : decode cX5_init 7 = .ok (.putfield 9, 3) := by decide +kernel
theorem dX5_init_10 : decode cX5_init 10 = .ok (.aload_n 0, 1) := by decide +kernel
theorem dX5_init_11 : decode cX5_init 11 = .ok (.bipush 28, 2) := by decide +kernel
theorem dX5_init_13 : decode cX5_init 13 = .ok (.putfield 15, 3) := by decide +kernel
theorem dX5_init_16 : decode cX5_init 16 = .ok (.aload_n 0, 1) := by decide +kernel
theorem dX5_init_17 : decode cX5_init 17 = .ok (.bipush 15, 2) := by decide +kernel
theorem dX5_init_19 : decode cX5_init 19 = .ok (.putfield 18, 3) := by decide +kernel
theorem dX5_init_22 : decode cX5_init 22 = .ok (.aload_n 0, 1) := by decide +kernel
theorem dX5_init_23 : decode cX5_init 23 = .ok (.iconst 1, 1) := by decide +kernel
theorem dX5_init_24 : decode cX5_init 24 = .ok (.putfield 21, 3) := by decide +kernel
theorem dX5_init_27 : decode cX5_init 27 = .ok (.aload_n 0, 1) := by decide +kernel
theorem dX5_init_28 : decode cX5_init 28 = .ok (.iconst 0, 1) := by decide +kernel
theorem dX5_init_29 : decode cX5_init 29 = .ok (.putfield 25, 3) := by decide +kernel
theorem dX5_init_32 : decode cX5_init 32 = .ok (.aload_n 0, 1) := by decide +kernel
theorem dX5_init_33 : decode cX5_init 33 = .ok (.bipush 8, 2) := by decide +kernel
theorem dX5_init_35 : decode cX5_init 35 = .ok (.newarray .int, 2) := by decide +kernel
theorem dX5_init_37 : decode cX5_init 37 = .ok (.dup, 1) := by decide +kernel
theorem dX5_init_38 : decode cX5_init 38 = .ok (.iconst 0, 1) := by decide +kernel
theorem dX5_init_39 : decode cX5_init 39 = .ok (.iconst 1, 1) := by decide +kernel
theorem dX5_init_40 : decode cX5_init 40 = .ok (.iastore, 1) := by decide +kernel
theorem dX5_init_41 : decode cX5_init 41 = .ok (.dup, 1) := by decide +kernel
theorem dX5_init_42 : decode cX5_init 42 = .ok (.iconst 1, 1) := by decide +kernel
theorem dX5_init_43 : decode cX5_init 43 = .ok (.iconst 1, 1) := by decide +kernel
theorem dX5_init_44 : decode cX5_init 44 = .ok (.iastore, 1) := by decide +kernel
theorem dX5_init_45 : decode cX5_init 45 = .ok (.dup, 1) := by decide +kernel
theorem dX5_init_46 : decode cX5_init 46 = .ok (.iconst 2, 1) := by decide +kernel
theorem dX5_init_47 : decode cX5_init 47 = .ok (.iconst 1, 1) := by decide +kernel
theorem dX5_init_48 : decode cX5_init 48 = .ok (.iastore, 1) := by decide +kernel
theorem dX5_init_49 : decode cX5_init 49 = .ok (.dup, 1) := by decide +kernel
theorem dX5_init_50 : decode cX5_init 50 = .ok (.iconst 3, 1) := by decide +kernel
theorem dX5_init_51 : decode cX5_init 51 = .ok (.iconst 3, 1) := by decide +kernel
theorem dX5_init_52 : decode cX5_init 52 = .ok (.iastore, 1) := by decide +kernel
theorem dX5_init_53 : decode cX5_init 53 = .ok (.dup, 1) := by decide +kernel
theorem dX5_init_54 : decode cX5_init 54 = .ok (.iconst 4, 1) := by decide +kernel
theorem dX5_init_55 : decode cX5_init 55 = .ok (.iconst 3, 1) := by decide +kernel
theorem dX5_init_56 : decode cX5_init 56 = .ok (.iastore, 1) := by decide +kernel
theorem dX5_init_57 : decode cX5_init 57 = .ok (.dup, 1) := by decide +kernel
theorem dX5_init_58 : decode cX5_init 58 = .ok (.iconst 5, 1) := by decide +kernel
theorem dX5_init_59 : decode cX5_init 59 = .ok (.iconst 2, 1) := by decide +kernel
theorem dX5_init_60 : decode cX5_init 60 = .ok (.iastore, 1) := by decide +kernel
theorem dX5_init_61 : decode cX5_init 61 = .ok (.dup, 1) := by decide +kernel
theorem dX5_init_62 : decode cX5_init 62 = .ok (.bipush 6, 2) := by decide +kernel
theorem dX5_init_64 : decode cX5_init 64 = .ok (.iconst 1, 1) := by decide +kernel
theorem dX5_init_65 : decode cX5_init 65 = .ok (.iastore, 1) := by decide +kernel
theorem dX5_init_66 : decode cX5_init 66 = .ok (.dup, 1) := by decide +kernel
theorem dX5_init_67 : decode cX5_init 67 = .ok (.bipush 7, 2) := by decide +kernel
theorem dX5_init_69 : decode cX5_init 69 = .ok (.iconst 5, 1) := by decide +kernel
theorem dX5_init_70 : decode cX5_init 70 = .ok (.iastore, 1) := by decide +kernel
theorem dX5_init_71 : decode cX5_init 71 = .ok (.putfield 28, 3) := by decide +kernel
theorem dX5_init_74 : decode cX5_init 74 = .ok (.return_, 1) := by decide +kernel
theorem dX5_beLike_0 : decode cX5_beLike 0 = .ok (.aload_n 0, 1) := by decide +kernel
theorem dX5_beLike_1 : decode cX5_beLike 1 = .ok (.aload_n 1, 1) := by decide +kernel
theorem dX5_beLike_2 : decode cX5_beLike 2 = .ok (.getfield 9, 3) := by decide +kernel
theorem dX5_beLike_5 : decode cX5_beLike 5 = .ok (.putfield 9, 3) := by decide +kernel
theorem dX5_beLike_8 : decode cX5_beLike 8 = .ok (.aload_n 0, 1) := by decide +kernel
theorem dX5_beLike_9 : decode cX5_beLike 9 = .ok (.aload_n 1, 1) := by decide +kernel
theorem dX5_beLike_10 : decode cX5_beLike 10 = .ok (.getfield 15, 3) := by decide +kernel
theorem dX5_beLike_13 : decode cX5_beLike 13 = .ok (.putfield 15, 3) := by decide +kernel
theorem dX5_beLike_16 : decode cX5_beLike 16 = .ok (.aload_n 0, 1) := by decide +kernel
theorem dX5_beLike_17 : decode cX5_beLike 17 = .ok (.aload_n 1, 1) := by decide +kernel
theorem dX5_beLike_18 : decode cX5_beLike 18 = .ok (.getfield 18, 3) := by decide +kernel
theorem dX5_beLike_21 : decode cX5_beLike 21 = .ok (.putfield 18, 3) := by decide +kernel
theorem dX5_beLike_24 : decode cX5_beLike 24 = .ok (.aload_n 0, 1) := by decide +kernel
theorem dX5_beLike_25 : decode cX5_beLike 25 = .ok (.aload_n 1, 1) := by decide +kernel
theorem dX5_beLike_26 : decode cX5_beLike 26 = .ok (.getfield 21, 3) := by decide +kernel
theorem dX5_beLike_29 : decode cX5_beLike 29 = .ok (.putfield 21, 3) := by decide +kernel
theorem dX5_beLike_32 : decode cX5_beLike 32 = .ok (.aload_n 0, 1) := by decide +kernel
theorem dX5_beLike_33 : decode cX5_beLike 33 = .ok (.aload_n 1, 1) := by decide +kernel
theorem dX5_beLike_34 : decode cX5_beLike 34 = .ok (.getfield 25, 3) := by decide +kernel
theorem dX5_beLike_37 : decode cX5_beLike 37 = .ok (.putfield 25, 3) := by decide +kernel
theorem dX5_beLike_40 : decode cX5_beLike 40 = .ok (.iconst 0, 1) := by decide +kernel
theorem dX5_beLike_41 : decode cX5_beLike 41 = .ok (.istore_n 2, 1) := by decide +kernel
theorem dX5_beLike_42 : decode cX5_beLike 42 = .ok (.iload_n 2, 1) := by decide +kernel
theorem dX5_beLike_43 : decode cX5_beLike 43 = .ok (.bipush 8, 2) := by decide +kernel
theorem dX5_beLike_45 : decode cX5_beLike 45 = .ok (.if_icmp .ge 25, 3) := by decide +kernel
theorem dX5_beLike_48 : decode cX5_beLike 48 = .ok (.aload_n 0, 1) := by decide +kernel
theorem dX5_beLike_49 : decode cX5_beLike 49 = .ok (.getfield 28, 3) := by decide +kernel
theorem dX5_beLike_52 : decode cX5_beLike 52 = .ok (.iload_n 2, 1) := by decide +kernel
theorem dX5_beLike_53 : decode cX5_beLike 53 = .ok (.aload_n 1, 1) := by decide +kernel
theorem dX5_beLike_54 : decode cX5_beLike 54 = .ok (.getfield 28, 3) := by decide +kernel
theorem dX5_beLike_57 : decode cX5_beLike 57 = .ok (.iload_n 2, 1) := by decide +kernel
theorem dX5_beLike_58 : decode cX5_beLike 58 = .ok (.invokestatic 32, 3) := by decide +kernel
theorem dX5_beLike_61 : decode cX5_beLike 61 = .ok (.invokestatic 36, 3) := by decide +kernel
theorem dX5_beLike_64 : decode cX5_beLike 64 = .ok (.iinc 2 1, 3) := by decide +kernel
theorem dX5_beLike_67 : decode cX5_beLike 67 = .ok (.goto (-25), 3) := by decide +kernel
theorem dX5_beLike_70 : decode cX5_beLike 70 = .ok (.return_, 1) := by decide +kernel
theorem dX5_scratch_0 : decode cX5_scratch 0 = .ok (.aload_n 0, 1) := by decide +kernel
theorem dX5_scratch_1 : decode cX5_scratch 1 = .ok (.getfield 9, 3) := by decide +kernel
theorem dX5_scratch_4 : decode cX5_scratch 4 = .ok (.iconst 3, 1) := by decide +kernel
theorem dX5_scratch_5 : decode cX5_scratch 5 = .ok (.isub, 1) := by decide +kernel
theorem dX5_scratch_6 : decode cX5_scratch 6 = .ok (.ireturn, 1) := by decide +kernel
theorem dX5_cyclesOf_0 : decode cX5_cyclesOf 0 = .ok (.aload_n 0, 1) := by decide +kernel
theorem dX5_cyclesOf_1 : decode cX5_cyclesOf 1 = .ok (.getfield 28, 3) := by decide +kernel
theorem dX5_cyclesOf_4 : decode cX5_cyclesOf 4 = .ok (.getstatic 40, 3) := by decide +kernel
theorem dX5_cyclesOf_7 : decode cX5_cyclesOf 7 = .ok (.iload_n 1, 1) := by decide +kernel
theorem dX5_cyclesOf_8 : decode cX5_cyclesOf 8 = .ok (.invokestatic 32, 3) := by decide +kernel
theorem dX5_cyclesOf_11 : decode cX5_cyclesOf 11 = .ok (.invokestatic 32, 3) := by decide +kernel
theorem dX5_cyclesOf_14 : decode cX5_cyclesOf 14 = .ok (.ireturn, 1) := by decide +kernel
theorem dX6_init_0 : decode cX6_init 0 = .ok (.aload_n 0, 1) := by decide +kernel
theorem dX6_init_1 : decode cX6_init 1 = .ok (.invokespecial 3, 3) := by decide +kernel
theorem dX6_init_4 : decode cX6_init 4 = .ok (.aload_n 0, 1) := by decide +kernel
theorem dX6_init_5 : decode cX6_init 5 = .ok (.aload_n 1, 1) := by decide +kernel
theorem dX6_init_6 : decode cX6_init 6 = .ok (.putfield 9, 3) := by decide +kernel
theorem dX6_init_9 : decode cX6_init 9 = .ok (.aload_n 0, 1) := by decide +kernel
theorem dX6_init_10 : decode cX6_init 10 = .ok (.bipush 8, 2) := by decide +kernel
theorem dX6_init_12 : decode cX6_init 12 = .ok (.newarray .int, 2) := by decide +kernel
theorem dX6_init_14 : decode cX6_init 14 = .ok (.putfield 15, 3) := by decide +kernel
theorem dX6_init_17 : decode cX6_init 17 = .ok (.aload_n 0, 1) := by decide +kernel
theorem dX6_init_18 : decode cX6_init 18 = .ok (.bipush 80, 2) := by decide +kernel
theorem dX6_init_20 : decode cX6_init 20 = .ok (.newarray .int, 2) := by decide +kernel
theorem dX6_init_22 : decode cX6_init 22 = .ok (.putfield 19, 3) := by decide +kernel
theorem dX6_init_25 : decode cX6_init 25 = .ok (.return_, 1) := by decide +kernel
theorem dX6_work_0 : decode cX6_work 0 = .ok (.aload_n 0, 1) := by decide +kernel
theorem dX6_work_1 : decode cX6_work 1 = .ok (.getfield 15, 3) := by decide +kernel
theorem dX6_work_4 : decode cX6_work 4 = .ok (.iconst 0, 1) := by decide +kernel
theorem dX6_work_5 : decode cX6_work 5 = .ok (.invokestatic 22, 3) := by decide +kernel
theorem dX6_work_8 : decode cX6_work 8 = .ok (.iconst 0, 1) := by decide +kernel
theorem dX6_work_9 : decode cX6_work 9 = .ok (.istore_n 1, 1) := by decide +kernel
theorem dX6_work_10 : decode cX6_work 10 = .ok (.iload_n 1, 1) := by decide +kernel
theorem dX6_work_11 : decode cX6_work 11 = .ok (.iconst 4, 1) := by decide +kernel
theorem dX6_work_12 : decode cX6_work 12 = .ok (.if_icmp .ge 36, 3) := by decide +kernel
theorem dX6_work_15 : decode cX6_work 15 = .ok (.aload_n 0, 1) := by decide +kernel
theorem dX6_work_16 : decode cX6_work 16 = .ok (.getfield 9, 3) := by decide +kernel
theorem dX6_work_19 : decode cX6_work 19 = .ok (.iload_n 1, 1) := by decide +kernel
theorem dX6_work_20 : decode cX6_work 20 = .ok (.invokevirtual 26, 3) := by decide +kernel
theorem dX6_work_23 : decode cX6_work 23 = .ok (.istore_n 2, 1) := by decide +kernel
theorem dX6_work_24 : decode cX6_work 24 = .ok (.iconst 0, 1) := by decide +kernel
theorem dX6_work_25 : decode cX6_work 25 = .ok (.istore_n 3, 1) := by decide +kernel
theorem dX6_work_26 : decode cX6_work 26 = .ok (.iload_n 3, 1) := by decide +kernel
theorem dX6_work_27 : decode cX6_work 27 = .ok (.iload_n 2, 1) := by decide +kernel
theorem dX6_work_28 : decode cX6_work 28 = .ok (.if_icmp .ge 14, 3) := by decide +kernel
theorem dX6_work_31 : decode cX6_work 31 = .ok (.aload_n 0, 1) := by decide +kernel
theorem dX6_work_32 : decode cX6_work 32 = .ok (.iload_n 1, 1) := by decide +kernel
theorem dX6_work_33 : decode cX6_work 33 = .ok (.invokevirtual 32, 3) := by decide +kernel
theorem dX6_work_36 : decode cX6_work 36 = .ok (.iinc 3 1, 3) := by decide +kernel
theorem dX6_work_39 : decode cX6_work 39 = .ok (.goto (-13), 3) := by decide +kernel
theorem dX6_work_42 : decode cX6_work 42 = .ok (.iinc 1 1, 3) := by decide +kernel
theorem dX6_work_45 : decode cX6_work 45 = .ok (.goto (-35), 3) := by decide +kernel
theorem dX6_work_48 : decode cX6_work 48 = .ok (.return_, 1) := by decide +kernel
theorem dX6_workBlock_0 : decode cX6_workBlock 0 = .ok (.aload_n 0, 1) := by decide +kernel
theorem dX6_workBlock_1 : decode cX6_workBlock 1 = .ok (.getfield 9, 3) := by decide +kernel
theorem dX6_workBlock_4 : decode cX6_workBlock 4 = .ok (.iload_n 1, 1) := by decide +kernel
theorem dX6_workBlock_5 : decode cX6_workBlock 5 = .ok (.invokevirtual 36, 3) := by decide +kernel
theorem dX6_workBlock_8 : decode cX6_workBlock 8 = .ok (.istore_n 2, 1) := by decide +kernel
theorem dX6_workBlock_9 : decode cX6_workBlock 9 = .ok (.iconst 0, 1) := by decide +kernel
theorem dX6_workBlock_10 : decode cX6_workBlock 10 = .ok (.istore_n 3, 1) := by decide +kernel
theorem dX6_workBlock_11 : decode cX6_workBlock 11 = .ok (.iload_n 3, 1) := by decide +kernel
theorem dX6_workBlock_12 : decode cX6_workBlock 12 = .ok (.iload_n 2, 1) := by decide +kernel
theorem dX6_workBlock_13 : decode cX6_workBlock 13 = .ok (.if_icmp .ge 76, 3) := by decide +kernel
theorem dX6_workBlock_16 : decode cX6_workBlock 16 = .ok (.aload_n 0, 1) := by decide +kernel
theorem dX6_workBlock_17 : decode cX6_workBlock 17 = .ok (.getfield 9, 3) := by decide +kernel
theorem dX6_workBlock_20 : decode cX6_workBlock 20 = .ok (.iload_n 1, 1) := by decide +kernel
theorem dX6_workBlock_21 : decode cX6_workBlock 21 = .ok (.iload_n 3, 1) := by decide +kernel
theorem dX6_workBlock_22 : decode cX6_workBlock 22 = .ok (.invokevirtual 39, 3) := by decide +kernel
theorem dX6_workBlock_25 : decode cX6_workBlock 25 = .ok (.istore 4, 2) := by decide +kernel
theorem dX6_workBlock_27 : decode cX6_workBlock 27 = .ok (.iconst 0, 1) := by decide +kernel
theorem dX6_workBlock_28 : decode cX6_workBlock 28 = .ok (.istore 5, 2) := by decide +kernel
theorem dX6_workBlock_30 : decode cX6_workBlock 30 = .ok (.iload 5, 2) := by decide +kernel
theorem dX6_workBlock_32 : decode cX6_workBlock 32 = .ok (.iload 4, 2) := by decide +kernel
theorem dX6_workBlock_34 : decode cX6_workBlock 34 = .ok (.if_icmp .gt 24, 3) := by decide +kernel
theorem dX6_workBlock_37 : decode cX6_workBlock 37 = .ok (.aload_n 0, 1) := by decide +kernel
theorem dX6_workBlock_38 : decode cX6_workBlock 38 = .ok (.getfield 19, 3) := by decide +kernel
theorem dX6_workBlock_41 : decode cX6_workBlock 41 = .ok (.iload 5, 2) := by decide +kernel
theorem dX6_workBlock_43 : decode cX6_workBlock 43 = .ok (.aload_n 0, 1) := by decide +kernel
theorem dX6_workBlock_44 : decode cX6_workBlock 44 = .ok (.iload 5, 2) := by decide +kernel
theorem dX6_workBlock_46 : decode cX6_workBlock 46 = .ok (.invokevirtual 43, 3) := by decide +kernel
theorem dX6_workBlock_49 : decode cX6_workBlock 49 = .ok (.invokestatic 46, 3) := by decide +kernel
theorem dX6_workBlock_52 : decode cX6_workBlock 52 = .ok (.iinc 5 1, 3) := by decide +kernel
theorem dX6_workBlock_55 : decode cX6_workBlock 55 = .ok (.goto (-25), 3) := by decide +kernel
theorem dX6_workBlock_58 : decode cX6_workBlock 58 = .ok (.aload_n 0, 1) := by decide +kernel
theorem dX6_workBlock_59 : decode cX6_workBlock 59 = .ok (.getfield 15, 3) := by decide +kernel
theorem dX6_workBlock_62 : decode cX6_workBlock 62 = .ok (.aload_n 0, 1) := by decide +kernel
theorem dX6_workBlock_63 : decode cX6_workBlock 63 = .ok (.getfield 9, 3) := by decide +kernel
theorem dX6_workBlock_66 : decode cX6_workBlock 66 = .ok (.iload_n 1, 1) := by decide +kernel
theorem dX6_workBlock_67 : decode cX6_workBlock 67 = .ok (.iload_n 3, 1) := by decide +kernel
theorem dX6_workBlock_68 : decode cX6_workBlock 68 = .ok (.invokevirtual 50, 3) := by decide +kernel
theorem dX6_workBlock_71 : decode cX6_workBlock 71 = .ok (.aload_n 0, 1) := by decide +kernel
theorem dX6_workBlock_72 : decode cX6_workBlock 72 = .ok (.getfield 19, 3) := by decide +kernel
theorem dX6_workBlock_75 : decode cX6_workBlock 75 = .ok (.iload 4, 2) := by decide +kernel
theorem dX6_workBlock_77 : decode cX6_workBlock 77 = .ok (.invokestatic 53, 3) := by decide +kernel
theorem dX6_workBlock_80 : decode cX6_workBlock 80 = .ok (.invokestatic 46, 3) := by decide +kernel
theorem dX6_workBlock_83 : decode cX6_workBlock 83 = .ok (.iinc 3 1, 3) := by decide +kernel
theorem dX6_workBlock_86 : decode cX6_workBlock 86 = .ok (.goto (-75), 3) := by decide +kernel
theorem dX6_workBlock_89 : decode cX6_workBlock 89 = .ok (.return_, 1) := by decide +kernel
theorem dX6_valueOf_0 : decode cX6_valueOf 0 = .ok (.aload_n 0, 1) := by decide +kernel
theorem dX6_valueOf_1 : decode cX6_valueOf 1 = .ok (.getfield 9, 3) := by decide +kernel
theorem dX6_valueOf_4 : decode cX6_valueOf 4 = .ok (.getfield 57, 3) := by decide +kernel
theorem dX6_valueOf_7 : decode cX6_valueOf 7 = .ok (.iload_n 1, 1) := by decide +kernel
theorem dX6_valueOf_8 : decode cX6_valueOf 8 = .ok (.invokestatic 53, 3) := by decide +kernel
theorem dX6_valueOf_11 : decode cX6_valueOf 11 = .ok (.istore_n 2, 1) := by decide +kernel
theorem dX6_valueOf_12 : decode cX6_valueOf 12 = .ok (.aload_n 0, 1) := by decide +kernel
theorem dX6_valueOf_13 : decode cX6_valueOf 13 = .ok (.getfield 9, 3) := by decide +kernel
theorem dX6_valueOf_16 : decode cX6_valueOf 16 = .ok (.getfield 60, 3) := by decide +kernel
theorem dX6_valueOf_19 : decode cX6_valueOf 19 = .ok (.iload_n 1, 1) := by decide +kernel
theorem dX6_valueOf_20 : decode cX6_valueOf 20 = .ok (.invokestatic 53, 3) := by decide +kernel
theorem dX6_valueOf_23 : decode cX6_valueOf 23 = .ok (.istore_n 3, 1) := by decide +kernel
theorem dX6_valueOf_24 : decode cX6_valueOf 24 = .ok (.aload_n 0, 1) := by decide +kernel
theorem dX6_valueOf_25 : decode cX6_valueOf 25 = .ok (.getfield 9, 3) := by decide +kernel
theorem dX6_valueOf_28 : decode cX6_valueOf 28 = .ok (.getfield 63, 3) := by decide +kernel
theorem dX6_valueOf_31 : decode cX6_valueOf 31 = .ok (.iload_n 1, 1) := by decide +kernel
theorem dX6_valueOf_32 : decode cX6_valueOf 32 = .ok (.invokestatic 53, 3) := by decide +kernel
theorem dX6_valueOf_35 : decode cX6_valueOf 35 = .ok (.tableswitch 98 0 4 #[33, 35, 44, 62, 80], 33) := by decide +kernel
theorem dX6_valueOf_68 : decode cX6_valueOf 68 = .ok (.iload_n 2, 1) := by decide +kernel
theorem dX6_valueOf_69 : decode cX6_valueOf 69 = .ok (.ireturn, 1) := by decide +kernel
theorem dX6_valueOf_70 : decode cX6_valueOf 70 = .ok (.aload_n 0, 1) := by decide +kernel
theorem dX6_valueOf_71 : decode cX6_valueOf 71 = .ok (.getfield 15, 3) := by decide +kernel
theorem dX6_valueOf_74 : decode cX6_valueOf 74 = .ok (.iload_n 2, 1) := by decide +kernel
theorem dX6_valueOf_75 : decode cX6_valueOf 75 = .ok (.invokestatic 53, 3) := by decide +kernel
theorem dX6_valueOf_78 : decode cX6_valueOf 78 = .ok (.ireturn, 1) := by decide +kernel
theorem dX6_valueOf_79 : decode cX6_valueOf 79 = .ok (.aload_n 0, 1) := by decide +kernel
theorem dX6_valueOf_80 : decode cX6_valueOf 80 = .ok (.getfield 19, 3) := by decide +kernel
theorem dX6_valueOf_83 : decode cX6_valueOf 83 = .ok (.iload_n 2, 1) := by decide +kernel
theorem dX6_valueOf_84 : decode cX6_valueOf 84 = .ok (.invokestatic 53, 3) := by decide +kernel
theorem dX6_valueOf_87 : decode cX6_valueOf 87 = .ok (.aload_n 0, 1) := by decide +kernel
theorem dX6_valueOf_88 : decode cX6_valueOf 88 = .ok (.getfield 19, 3) := by decide +kernel
theorem dX6_valueOf_91 : decode cX6_valueOf 91 = .ok (.iload_n 3, 1) := by decide +kernel
theorem dX6_valueOf_92 : decode cX6_valueOf 92 = .ok (.invokestatic 53, 3) := by decide +kernel
theorem dX6_valueOf_95 : decode cX6_valueOf 95 = .ok (.iadd, 1) := by decide +kernel
theorem dX6_valueOf_96 : decode cX6_valueOf 96 = .ok (.ireturn, 1) := by decide +kernel
theorem dX6_valueOf_97 : decode cX6_valueOf 97 = .ok (.aload_n 0, 1) := by decide +kernel
theorem dX6_valueOf_98 : decode cX6_valueOf 98 = .ok (.getfield 19, 3) := by decide +kernel
theorem dX6_valueOf_101 : decode cX6_valueOf 101 = .ok (.iload_n 2, 1) := by decide +kernel
theorem dX6_valueOf_102 : decode cX6_valueOf 102 = .ok (.invokestatic 53, 3) := by decide +kernel
theorem dX6_valueOf_105 : decode cX6_valueOf 105 = .ok (.aload_n 0, 1) := by decide +kernel
theorem dX6_valueOf_106 : decode cX6_valueOf 106 = .ok (.getfield 19, 3) := by decide +kernel
theorem dX6_valueOf_109 : decode cX6_valueOf 109 = .ok (.iload_n 3, 1) := by decide +kernel
theorem dX6_valueOf_110 : decode cX6_valueOf 110 = .ok (.invokestatic 53, 3) := by decide +kernel
theorem dX6_valueOf_113 : decode cX6_valueOf 113 = .ok (.isub, 1) := by decide +kernel
theorem dX6_valueOf_114 : decode cX6_valueOf 114 = .ok (.ireturn, 1) := by decide +kernel
theorem dX6_valueOf_115 : decode cX6_valueOf 115 = .ok (.aload_n 0, 1) := by decide +kernel
theorem dX6_valueOf_116 : decode cX6_valueOf 116 = .ok (.getfield 19, 3) := by decide +kernel
theorem dX6_valueOf_119 : decode cX6_valueOf 119 = .ok (.iload_n 2, 1) := by decide +kernel
theorem dX6_valueOf_120 : decode cX6_valueOf 120 = .ok (.invokestatic 53, 3) := by decide +kernel
theorem dX6_valueOf_123 : decode cX6_valueOf 123 = .ok (.aload_n 0, 1) := by decide +kernel
theorem dX6_valueOf_124 : decode cX6_valueOf 124 = .ok (.getfield 19, 3) := by decide +kernel
theorem dX6_valueOf_127 : decode cX6_valueOf 127 = .ok (.iload_n 3, 1) := by decide +kernel
theorem dX6_valueOf_128 : decode cX6_valueOf 128 = .ok (.invokestatic 53, 3) := by decide +kernel
theorem dX6_valueOf_131 : decode cX6_valueOf 131 = .ok (.imul, 1) := by decide +kernel
theorem dX6_valueOf_132 : decode cX6_valueOf 132 = .ok (.ireturn, 1) := by decide +kernel
theorem dX6_valueOf_133 : decode cX6_valueOf 133 = .ok (.iconst 3, 1) := by decide +kernel
theorem dX6_valueOf_134 : decode cX6_valueOf 134 = .ok (.aload_n 0, 1) := by decide +kernel
theorem dX6_valueOf_135 : decode cX6_valueOf 135 = .ok (.getfield 19, 3) := by decide +kernel
theorem dX6_valueOf_138 : decode cX6_valueOf 138 = .ok (.iload_n 2, 1) := by decide +kernel
theorem dX6_valueOf_139 : decode cX6_valueOf 139 = .ok (.invokestatic 53, 3) := by decide +kernel
theorem dX6_valueOf_142 : decode cX6_valueOf 142 = .ok (.imul, 1) := by decide +kernel
theorem dX6_valueOf_143 : decode cX6_valueOf 143 = .ok (.iconst 2, 1) := by decide +kernel
theorem dX6_valueOf_144 : decode cX6_valueOf 144 = .ok (.aload_n 0, 1) := by decide +kernel
theorem dX6_valueOf_145 : decode cX6_valueOf 145 = .ok (.getfield 19, 3) := by decide +kernel
theorem dX6_valueOf_148 : decode cX6_valueOf 148 = .ok (.iload_n 3, 1) := by decide +kernel
theorem dX6_valueOf_149 : decode cX6_valueOf 149 = .ok (.invokestatic 53, 3) := by decide +kernel
theorem dX6_valueOf_152 : decode cX6_valueOf 152 = .ok (.imul, 1) := by decide +kernel
theorem dX6_valueOf_153 : decode cX6_valueOf 153 = .ok (.iadd, 1) := by decide +kernel
theorem dX6_valueOf_154 : decode cX6_valueOf 154 = .ok (.iconst 1, 1) := by decide +kernel
theorem dX6_valueOf_155 : decode cX6_valueOf 155 = .ok (.iadd, 1) := by decide +kernel
theorem dX6_valueOf_156 : decode cX6_valueOf 156 = .ok (.ireturn, 1) := by decide +kernel
theorem dX7_init_0 : decode cX7_init 0 = .ok (.aload_n 0, 1) := by decide +kernel
theorem dX7_init_1 : decode cX7_init 1 = .ok (.invokespecial 3, 3) := by decide +kernel
theorem dX7_init_4 : decode cX7_init 4 = .ok (.aload_n 0, 1) := by decide +kernel
theorem dX7_init_5 : decode cX7_init 5 = .ok (.aload_n 1, 1) := by decide +kernel
theorem dX7_init_6 : decode cX7_init 6 = .ok (.putfield 9, 3) := by decide +kernel
theorem dX7_init_9 : decode cX7_init 9 = .ok (.aload_n 0, 1) := by decide +kernel
theorem dX7_init_10 : decode cX7_init 10 = .ok (.aload_n 2, 1) := by decide +kernel
theorem dX7_init_11 : decode cX7_init 11 = .ok (.putfield 15, 3) := by decide +kernel
theorem dX7_init_14 : decode cX7_init 14 = .ok (.aload_n 0, 1) := by decide +kernel
theorem dX7_init_15 : decode cX7_init 15 = .ok (.new 19, 3) := by decide +kernel
theorem dX7_init_18 : decode cX7_init 18 = .ok (.dup, 1) := by decide +kernel
theorem dX7_init_19 : decode cX7_init 19 = .ok (.aload_n 1, 1) := by decide +kernel
theorem dX7_init_20 : decode cX7_init 20 = .ok (.aload_n 2, 1) := by decide +kernel
theorem dX7_init_21 : decode cX7_init 21 = .ok (.invokespecial 21, 3) := by decide +kernel
theorem dX7_init_24 : decode cX7_init 24 = .ok (.putfield 24, 3) := by decide +kernel
theorem dX7_init_27 : decode cX7_init 27 = .ok (.aload_n 0, 1) := by decide +kernel
theorem dX7_init_28 : decode cX7_init 28 = .ok (.new 28, 3) := by decide +kernel
theorem dX7_init_31 : decode cX7_init 31 = .ok (.dup, 1) := by decide +kernel
theorem dX7_init_32 : decode cX7_init 32 = .ok (.invokespecial 30, 3) := by decide +kernel
theorem dX7_init_35 : decode cX7_init 35 = .ok (.putfield 31, 3) := by decide +kernel
theorem dX7_init_38 : decode cX7_init 38 = .ok (.aload_n 0, 1) := by decide +kernel
theorem dX7_init_39 : decode cX7_init 39 = .ok (.new 35, 3) := by decide +kernel
theorem dX7_init_42 : decode cX7_init 42 = .ok (.dup, 1) := by decide +kernel
theorem dX7_init_43 : decode cX7_init 43 = .ok (.aload_n 1, 1) := by decide +kernel
theorem dX7_init_44 : decode cX7_init 44 = .ok (.invokespecial 37, 3) := by decide +kernel
theorem dX7_init_47 : decode cX7_init 47 = .ok (.putfield 40, 3) := by decide +kernel
theorem dX7_init_50 : decode cX7_init 50 = .ok (.aload_n 0, 1) := by decide +kernel
theorem dX7_init_51 : decode cX7_init 51 = .ok (.iconst 5, 1) := by decide +kernel
theorem dX7_init_52 : decode cX7_init 52 = .ok (.newarray .int, 2) := by decide +kernel
theorem dX7_init_54 : decode cX7_init 54 = .ok (.putfield 44, 3) := by decide +kernel
theorem dX7_init_57 : decode cX7_init 57 = .ok (.aload_n 0, 1) := by decide +kernel
theorem dX7_init_58 : decode cX7_init 58 = .ok (.new 28, 3) := by decide +kernel
theorem dX7_init_61 : decode cX7_init 61 = .ok (.dup, 1) := by decide +kernel
theorem dX7_init_62 : decode cX7_init 62 = .ok (.invokespecial 30, 3) := by decide +kernel
theorem dX7_init_65 : decode cX7_init 65 = .ok (.putfield 48, 3) := by decide +kernel
theorem dX7_init_68 : decode cX7_init 68 = .ok (.aload_n 0, 1) := by decide +kernel
theorem dX7_init_69 : decode cX7_init 69 = .ok (.iconst 5, 1) := by decide +kernel
theorem dX7_init_70 : decode cX7_init 70 = .ok (.newarray .int, 2) := by decide +kernel
theorem dX7_init_72 : decode cX7_init 72 = .ok (.putfield 51, 3) := by decide +kernel
theorem dX7_init_75 : decode cX7_init 75 = .ok (.aload_n 0, 1) := by decide +kernel
theorem dX7_init_76 : decode cX7_init 76 = .ok (.bipush 88, 2) := by decide +kernel
theorem dX7_init_78 : decode cX7_init 78 = .ok (.newarray .int, 2) := by decide +kernel
theorem dX7_init_80 : decode cX7_init 80 = .ok (.putfield 54, 3) := by decide +kernel
theorem dX7_init_83 : decode cX7_init 83 = .ok (.return_, 1) := by decide +kernel
theorem dX7_build_0 : decode cX7_build 0 = .ok (.aload_n 0, 1) := by decide +kernel
theorem dX7_build_1 : decode cX7_build 1 = .ok (.getfield 24, 3) := by decide +kernel
theorem dX7_build_4 : decode cX7_build 4 = .ok (.invokevirtual 57, 3) := by decide +kernel
theorem dX7_build_7 : decode cX7_build 7 = .ok (.aload_n 0, 1) := by decide +kernel
theorem dX7_build_8 : decode cX7_build 8 = .ok (.invokevirtual 60, 3) := by decide +kernel
theorem dX7_build_11 : decode cX7_build 11 = .ok (.aload_n 0, 1) := by decide +kernel
theorem dX7_build_12 : decode cX7_build 12 = .ok (.getfield 31, 3) := by decide +kernel
theorem dX7_build_15 : decode cX7_build 15 = .ok (.invokevirtual 63, 3) := by decide +kernel
theorem dX7_build_18 : decode cX7_build 18 = .ok (.aload_n 0, 1) := by decide +kernel
theorem dX7_build_19 : decode cX7_build 19 = .ok (.invokevirtual 66, 3) := by decide +kernel
theorem dX7_build_22 : decode cX7_build 22 = .ok (.iconst 0, 1) := by decide +kernel
theorem dX7_build_23 : decode cX7_build 23 = .ok (.istore_n 2, 1) := by decide +kernel
theorem dX7_build_24 : decode cX7_build 24 = .ok (.iload_n 2, 1) := by decide +kernel
theorem dX7_build_25 : decode cX7_build 25 = .ok (.iconst 4, 1) := by decide +kernel
theorem dX7_build_26 : decode cX7_build 26 = .ok (.if_icmp .ge 73, 3) := by decide +kernel
theorem dX7_build_29 : decode cX7_build 29 = .ok (.aload_n 0, 1) := by decide +kernel
theorem dX7_build_30 : decode cX7_build 30 = .ok (.getfield 51, 3) := by decide +kernel
theorem dX7_build_33 : decode cX7_build 33 = .ok (.iload_n 2, 1) := by decide +kernel
theorem dX7_build_34 : decode cX7_build 34 = .ok (.invokestatic 69, 3) := by decide +kernel
theorem dX7_build_37 : decode cX7_build 37 = .ok (.istore_n 3, 1) := by decide +kernel
theorem dX7_build_38 : decode cX7_build 38 = .ok (.aload_n 0, 1) := by decide +kernel
theorem dX7_build_39 : decode cX7_build 39 = .ok (.getfield 51, 3) := by decide +kernel
theorem dX7_build_42 : decode cX7_build 42 = .ok (.iload_n 2, 1) := by decide +kernel
theorem dX7_build_43 : decode cX7_build 43 = .ok (.iconst 1, 1) := by decide +kernel
theorem dX7_build_44 : decode cX7_build 44 = .ok (.iadd, 1) := by decide +kernel
theorem dX7_build_45 : decode cX7_build 45 = .ok (.invokestatic 69, 3) := by decide +kernel
theorem dX7_build_48 : decode cX7_build 48 = .ok (.istore 4, 2) := by decide +kernel
theorem dX7_build_50 : decode cX7_build 50 = .ok (.aload_n 0, 1) := by decide +kernel
theorem dX7_build_51 : decode cX7_build 51 = .ok (.getfield 44, 3) := by decide +kernel
theorem dX7_build_54 : decode cX7_build 54 = .ok (.iload_n 2, 1) := by decide +kernel
theorem dX7_build_55 : decode cX7_build 55 = .ok (.aload_n 0, 1) := by decide +kernel
theorem dX7_build_56 : decode cX7_build 56 = .ok (.getfield 31, 3) := by decide +kernel
theorem dX7_build_59 : decode cX7_build 59 = .ok (.getfield 73, 3) := by decide +kernel
theorem dX7_build_62 : decode cX7_build 62 = .ok (.invokestatic 77, 3) := by decide +kernel
theorem dX7_build_65 : decode cX7_build 65 = .ok (.aload_n 0, 1) := by decide +kernel
theorem dX7_build_66 : decode cX7_build 66 = .ok (.iload_n 3, 1) := by decide +kernel
theorem dX7_build_67 : decode cX7_build 67 = .ok (.iload 4, 2) := by decide +kernel
theorem dX7_build_69 : decode cX7_build 69 = .ok (.invokevirtual 81, 3) := by decide +kernel
theorem dX7_build_72 : decode cX7_build 72 = .ok (.iload_n 1, 1) := by decide +kernel
theorem dX7_build_73 : decode cX7_build 73 = .ok (.ifCond .eq 13, 3) := by decide +kernel
theorem dX7_build_76 : decode cX7_build 76 = .ok (.aload_n 0, 1) := by decide +kernel
theorem dX7_build_77 : decode cX7_build 77 = .ok (.iload_n 3, 1) := by decide +kernel
theorem dX7_build_78 : decode cX7_build 78 = .ok (.iload 4, 2) := by decide +kernel
theorem dX7_build_80 : decode cX7_build 80 = .ok (.invokevirtual 85, 3) := by decide +kernel
theorem dX7_build_83 : decode cX7_build 83 = .ok (.goto 10, 3) := by decide +kernel
theorem dX7_build_86 : decode cX7_build 86 = .ok (.aload_n 0, 1) := by decide +kernel
theorem dX7_build_87 : decode cX7_build 87 = .ok (.iload_n 3, 1) := by decide +kernel
theorem dX7_build_88 : decode cX7_build 88 = .ok (.iload 4, 2) := by decide +kernel
theorem dX7_build_90 : decode cX7_build 90 = .ok (.invokevirtual 88, 3) := by decide +kernel
theorem dX7_build_93 : decode cX7_build 93 = .ok (.iinc 2 1, 3) := by decide +kernel
theorem dX7_build_96 : decode cX7_build 96 = .ok (.goto (-72), 3) := by decide +kernel
theorem dX7_build_99 : decode cX7_build 99 = .ok (.aload_n 0, 1) := by decide +kernel
theorem dX7_build_100 : decode cX7_build 100 = .ok (.getfield 44, 3) := by decide +kernel
theorem dX7_build_103 : decode cX7_build 103 = .ok (.iconst 4, 1) := by decide +kernel
theorem dX7_build_104 : decode cX7_build 104 = .ok (.aload_n 0, 1) := by decide +kernel
theorem dX7_build_105 : decode cX7_build 105 = .ok (.getfield 31, 3) := by decide +kernel
theorem dX7_build_108 : decode cX7_build 108 = .ok (.getfield 73, 3) := by decide +kernel
theorem dX7_build_111 : decode cX7_build 111 = .ok (.invokestatic 77, 3) := by decide +kernel
theorem dX7_build_114 : decode cX7_build 114 = .ok (.aload_n 0, 1) := by decide +kernel
theorem dX7_build_115 : decode cX7_build 115 = .ok (.getfield 40, 3) := by decide +kernel
theorem dX7_build_118 : decode cX7_build 118 = .ok (.aload_n 0, 1) := by decide +kernel
theorem dX7_build_119 : decode cX7_build 119 = .ok (.getfield 31, 3) := by decide +kernel
theorem dX7_build_122 : decode cX7_build 122 = .ok (.aload_n 0, 1) := by decide +kernel
theorem dX7_build_123 : decode cX7_build 123 = .ok (.getfield 44, 3) := by decide +kernel
theorem dX7_build_126 : decode cX7_build 126 = .ok (.invokevirtual 91, 3) := by decide +kernel
theorem dX7_build_129 : decode cX7_build 129 = .ok (.return_, 1) := by decide +kernel
theorem dX7_chooseAll_0 : decode cX7_chooseAll 0 = .ok (.aload_n 0, 1) := by decide +kernel
theorem dX7_chooseAll_1 : decode cX7_chooseAll 1 = .ok (.getfield 48, 3) := by decide +kernel
theorem dX7_chooseAll_4 : decode cX7_chooseAll 4 = .ok (.invokevirtual 63, 3) := by decide +kernel
theorem dX7_chooseAll_7 : decode cX7_chooseAll 7 = .ok (.iconst 0, 1) := by decide +kernel
theorem dX7_chooseAll_8 : decode cX7_chooseAll 8 = .ok (.istore_n 1, 1) := by decide +kernel
theorem dX7_chooseAll_9 : decode cX7_chooseAll 9 = .ok (.iload_n 1, 1) := by decide +kernel
theorem dX7_chooseAll_10 : decode cX7_chooseAll 10 = .ok (.iconst 4, 1) := by decide +kernel
theorem dX7_chooseAll_11 : decode cX7_chooseAll 11 = .ok (.if_icmp .ge 59, 3) := by decide +kernel
theorem dX7_chooseAll_14 : decode cX7_chooseAll 14 = .ok (.aload_n 0, 1) := by decide +kernel
theorem dX7_chooseAll_15 : decode cX7_chooseAll 15 = .ok (.getfield 51, 3) := by decide +kernel
theorem dX7_chooseAll_18 : decode cX7_chooseAll 18 = .ok (.iload_n 1, 1) := by decide +kernel
theorem dX7_chooseAll_19 : decode cX7_chooseAll 19 = .ok (.aload_n 0, 1) := by decide +kernel
theorem dX7_chooseAll_20 : decode cX7_chooseAll 20 = .ok (.getfield 48, 3) := by decide +kernel
theorem dX7_chooseAll_23 : decode cX7_chooseAll 23 = .ok (.getfield 73, 3) := by decide +kernel
theorem dX7_chooseAll_26 : decode cX7_chooseAll 26 = .ok (.invokestatic 77, 3) := by decide +kernel
theorem dX7_chooseAll_29 : decode cX7_chooseAll 29 = .ok (.aload_n 0, 1) := by decide +kernel
theorem dX7_chooseAll_30 : decode cX7_chooseAll 30 = .ok (.getfield 9, 3) := by decide +kernel
theorem dX7_chooseAll_33 : decode cX7_chooseAll 33 = .ok (.iload_n 1, 1) := by decide +kernel
theorem dX7_chooseAll_34 : decode cX7_chooseAll 34 = .ok (.invokevirtual 95, 3) := by decide +kernel
theorem dX7_chooseAll_37 : decode cX7_chooseAll 37 = .ok (.istore_n 2, 1) := by decide +kernel
theorem dX7_chooseAll_38 : decode cX7_chooseAll 38 = .ok (.iconst 0, 1) := by decide +kernel
theorem dX7_chooseAll_39 : decode cX7_chooseAll 39 = .ok (.istore_n 3, 1) := by decide +kernel
theorem dX7_chooseAll_40 : decode cX7_chooseAll 40 = .ok (.iload_n 3, 1) := by decide +kernel
theorem dX7_chooseAll_41 : decode cX7_chooseAll 41 = .ok (.iload_n 2, 1) := by decide +kernel
theorem dX7_chooseAll_42 : decode cX7_chooseAll 42 = .ok (.if_icmp .ge 22, 3) := by decide +kernel
theorem dX7_chooseAll_45 : decode cX7_chooseAll 45 = .ok (.aload_n 0, 1) := by decide +kernel
theorem dX7_chooseAll_46 : decode cX7_chooseAll 46 = .ok (.getfield 24, 3) := by decide +kernel
theorem dX7_chooseAll_49 : decode cX7_chooseAll 49 = .ok (.aload_n 0, 1) := by decide +kernel
theorem dX7_chooseAll_50 : decode cX7_chooseAll 50 = .ok (.getfield 48, 3) := by decide +kernel
theorem dX7_chooseAll_53 : decode cX7_chooseAll 53 = .ok (.iload_n 1, 1) := by decide +kernel
theorem dX7_chooseAll_54 : decode cX7_chooseAll 54 = .ok (.iload_n 3, 1) := by decide +kernel
theorem dX7_chooseAll_55 : decode cX7_chooseAll 55 = .ok (.invokevirtual 101, 3) := by decide +kernel
theorem dX7_chooseAll_58 : decode cX7_chooseAll 58 = .ok (.iinc 3 1, 3) := by decide +kernel
theorem dX7_chooseAll_61 : decode cX7_chooseAll 61 = .ok (.goto (-21), 3) := by decide +kernel
theorem dX7_chooseAll_64 : decode cX7_chooseAll 64 = .ok (.iinc 1 1, 3) := by decide +kernel
theorem dX7_chooseAll_67 : decode cX7_chooseAll 67 = .ok (.goto (-58), 3) := by decide +kernel
theorem dX7_chooseAll_70 : decode cX7_chooseAll 70 = .ok (.aload_n 0, 1) := by decide +kernel
theorem dX7_chooseAll_71 : decode cX7_chooseAll 71 = .ok (.getfield 51, 3) := by decide +kernel
theorem dX7_chooseAll_74 : decode cX7_chooseAll 74 = .ok (.iconst 4, 1) := by decide +kernel
theorem dX7_chooseAll_75 : decode cX7_chooseAll 75 = .ok (.aload_n 0, 1) := by decide +kernel
theorem dX7_chooseAll_76 : decode cX7_chooseAll 76 = .ok (.getfield 48, 3) := by decide +kernel
theorem dX7_chooseAll_79 : decode cX7_chooseAll 79 = .ok (.getfield 73, 3) := by decide +kernel
theorem dX7_chooseAll_82 : decode cX7_chooseAll 82 = .ok (.invokestatic 77, 3) := by decide +kernel
theorem dX7_chooseAll_85 : decode cX7_chooseAll 85 = .ok (.return_, 1) := by decide +kernel
theorem dX7_addEntry_0 : decode cX7_addEntry 0 = .ok (.aload_n 0, 1) := by decide +kernel
theorem dX7_addEntry_1 : decode cX7_addEntry 1 = .ok (.invokevirtual 105, 3) := by decide +kernel
theorem dX7_addEntry_4 : decode cX7_addEntry 4 = .ok (.istore_n 1, 1) := by decide +kernel
theorem dX7_addEntry_5 : decode cX7_addEntry 5 = .ok (.iconst 0, 1) := by decide +kernel
theorem dX7_addEntry_6 : decode cX7_addEntry 6 = .ok (.istore_n 2, 1) := by decide +kernel
theorem dX7_addEntry_7 : decode cX7_addEntry 7 = .ok (.iload_n 2, 1) := by decide +kernel
theorem dX7_addEntry_8 : decode cX7_addEntry 8 = .ok (.bipush 8, 2) := by decide +kernel
theorem dX7_addEntry_10 : decode cX7_addEntry 10 = .ok (.if_icmp .ge 37, 3) := by decide +kernel
theorem dX7_addEntry_13 : decode cX7_addEntry 13 = .ok (.iload_n 1, 1) := by decide +kernel
theorem dX7_addEntry_14 : decode cX7_addEntry 14 = .ok (.iload_n 2, 1) := by decide +kernel
theorem dX7_addEntry_15 : decode cX7_addEntry 15 = .ok (.invokestatic 109, 3) := by decide +kernel
theorem dX7_addEntry_18 : decode cX7_addEntry 18 = .ok (.ifCond .eq 23, 3) := by decide +kernel
theorem dX7_addEntry_21 : decode cX7_addEntry 21 = .ok (.aload_n 0, 1) := by decide +kernel
theorem dX7_addEntry_22 : decode cX7_addEntry 22 = .ok (.getfield 31, 3) := by decide +kernel
theorem dX7_addEntry_25 : decode cX7_addEntry 25 = .ok (.iconst 0, 1) := by decide +kernel
theorem dX7_addEntry_26 : decode cX7_addEntry 26 = .ok (.iload_n 2, 1) := by decide +kernel
theorem dX7_addEntry_27 : decode cX7_addEntry 27 = .ok (.iconst (-1), 1) := by decide +kernel
theorem dX7_addEntry_28 : decode cX7_addEntry 28 = .ok (.invokevirtual 113, 3) := by decide +kernel
theorem dX7_addEntry_31 : decode cX7_addEntry 31 = .ok (.aload_n 0, 1) := by decide +kernel
theorem dX7_addEntry_32 : decode cX7_addEntry 32 = .ok (.getfield 31, 3) := by decide +kernel
theorem dX7_addEntry_35 : decode cX7_addEntry 35 = .ok (.iconst (-1), 1) := by decide +kernel
theorem dX7_addEntry_36 : decode cX7_addEntry 36 = .ok (.iconst (-1), 1) := by decide +kernel
theorem dX7_addEntry_37 : decode cX7_addEntry 37 = .ok (.iconst (-1), 1) := by decide +kernel
theorem dX7_addEntry_38 : decode cX7_addEntry 38 = .ok (.invokevirtual 117, 3) := by decide +kernel
theorem dX7_addEntry_41 : decode cX7_addEntry 41 = .ok (.iinc 2 1, 3) := by decide +kernel
theorem dX7_addEntry_44 : decode cX7_addEntry 44 = .ok (.goto (-37), 3) := by decide +kernel
theorem dX7_addEntry_47 : decode cX7_addEntry 47 = .ok (.return_, 1) := by decide +kernel
theorem dX7_earlyVariables_0 : decode cX7_earlyVariables 0 = .ok (.iconst 0, 1) := by decide +kernel
theorem dX7_earlyVariables_1 : decode cX7_earlyVariables 1 = .ok (.istore_n 1, 1) := by decide +kernel
theorem dX7_earlyVariables_2 : decode cX7_earlyVariables 2 = .ok (.iconst 0, 1) := by decide +kernel
theorem dX7_earlyVariables_3 : decode cX7_earlyVariables 3 = .ok (.istore_n 2, 1) := by decide +kernel
theorem dX7_earlyVariables_4 : decode cX7_earlyVariables 4 = .ok (.iconst 0, 1) := by decide +kernel
theorem dX7_earlyVariables_5 : decode cX7_earlyVariables 5 = .ok (.istore_n 3, 1) := by decide +kernel
theorem dX7_earlyVariables_6 : decode cX7_earlyVariables 6 = .ok (.iload_n 3, 1) := by decide +kernel
theorem dX7_earlyVariables_7 : decode cX7_earlyVariables 7 = .ok (.aload_n 0, 1) := by decide +kernel
theorem dX7_earlyVariables_8 : decode cX7_earlyVariables 8 = .ok (.getfield 48, 3) := by decide +kernel
theorem dX7_earlyVariables_11 : decode cX7_earlyVariables 11 = .ok (.getfield 73, 3) := by decide +kernel
theorem dX7_earlyVariables_14 : decode cX7_earlyVariables 14 = .ok (.if_icmp .ge 58, 3) := by decide +kernel
theorem dX7_earlyVariables_17 : decode cX7_earlyVariables 17 = .ok (.iconst 0, 1) := by decide +kernel
theorem dX7_earlyVariables_18 : decode cX7_earlyVariables 18 = .ok (.istore 4, 2) := by decide +kernel
theorem dX7_earlyVariables_20 : decode cX7_earlyVariables 20 = .ok (.iload 4, 2) := by decide +kernel
theorem dX7_earlyVariables_22 : decode cX7_earlyVariables 22 = .ok (.iconst 3, 1) := by decide +kernel
theorem dX7_earlyVariables_23 : decode cX7_earlyVariables 23 = .ok (.if_icmp .ge 29, 3) := by decide +kernel
theorem dX7_earlyVariables_26 : decode cX7_earlyVariables 26 = .ok (.iload_n 1, 1) := by decide +kernel
theorem dX7_earlyVariables_27 : decode cX7_earlyVariables 27 = .ok (.aload_n 0, 1) := by decide +kernel
theorem dX7_earlyVariables_28 : decode cX7_earlyVariables 28 = .ok (.getfield 48, 3) := by decide +kernel
theorem dX7_earlyVariables_31 : decode cX7_earlyVariables 31 = .ok (.iload_n 3, 1) := by decide +kernel
theorem dX7_earlyVariables_32 : decode cX7_earlyVariables 32 = .ok (.iload 4, 2) := by decide +kernel
theorem dX7_earlyVariables_34 : decode cX7_earlyVariables 34 = .ok (.invokevirtual 120, 3) := by decide +kernel
theorem dX7_earlyVariables_37 : decode cX7_earlyVariables 37 = .ok (.invokestatic 124, 3) := by decide +kernel
theorem dX7_earlyVariables_40 : decode cX7_earlyVariables 40 = .ok (.iload_n 2, 1) := by decide +kernel
theorem dX7_earlyVariables_41 : decode cX7_earlyVariables 41 = .ok (.iconst (-1), 1) := by decide +kernel
theorem dX7_earlyVariables_42 : decode cX7_earlyVariables 42 = .ok (.ixor, 1) := by decide +kernel
theorem dX7_earlyVariables_43 : decode cX7_earlyVariables 43 = .ok (.iand, 1) := by decide +kernel
theorem dX7_earlyVariables_44 : decode cX7_earlyVariables 44 = .ok (.ior, 1) := by decide +kernel
theorem dX7_earlyVariables_45 : decode cX7_earlyVariables 45 = .ok (.istore_n 1, 1) := by decide +kernel
theorem dX7_earlyVariables_46 : decode cX7_earlyVariables 46 = .ok (.iinc 4 1, 3) := by decide +kernel
theorem dX7_earlyVariables_49 : decode cX7_earlyVariables 49 = .ok (.goto (-29), 3) := by decide +kernel
theorem dX7_earlyVariables_52 : decode cX7_earlyVariables 52 = .ok (.iload_n 2, 1) := by decide +kernel
theorem dX7_earlyVariables_53 : decode cX7_earlyVariables 53 = .ok (.aload_n 0, 1) := by decide +kernel
theorem dX7_earlyVariables_54 : decode cX7_earlyVariables 54 = .ok (.getfield 48, 3) := by decide +kernel
theorem dX7_earlyVariables_57 : decode cX7_earlyVariables 57 = .ok (.iload_n 3, 1) := by decide +kernel
theorem dX7_earlyVariables_58 : decode cX7_earlyVariables 58 = .ok (.invokevirtual 127, 3) := by decide +kernel
theorem dX7_earlyVariables_61 : decode cX7_earlyVariables 61 = .ok (.invokestatic 124, 3) := by decide +kernel
theorem dX7_earlyVariables_64 : decode cX7_earlyVariables 64 = .ok (.ior, 1) := by decide +kernel
theorem dX7_earlyVariables_65 : decode cX7_earlyVariables 65 = .ok (.istore_n 2, 1) := by decide +kernel
theorem dX7_earlyVariables_66 : decode cX7_earlyVariables 66 = .ok (.iinc 3 1, 3) := by decide +kernel
theorem dX7_earlyVariables_69 : decode cX7_earlyVariables 69 = .ok (.goto (-63), 3) := by decide +kernel
theorem dX7_earlyVariables_72 : decode cX7_earlyVariables 72 = .ok (.iload_n 1, 1) := by decide +kernel
theorem dX7_earlyVariables_73 : decode cX7_earlyVariables 73 = .ok (.aload_n 0, 1) := by decide +kernel
theorem dX7_earlyVariables_74 : decode cX7_earlyVariables 74 = .ok (.getfield 9, 3) := by decide +kernel
theorem dX7_earlyVariables_77 : decode cX7_earlyVariables 77 = .ok (.getfield 130, 3) := by decide +kernel
theorem dX7_earlyVariables_80 : decode cX7_earlyVariables 80 = .ok (.iload_n 2, 1) := by decide +kernel
theorem dX7_earlyVariables_81 : decode cX7_earlyVariables 81 = .ok (.iconst (-1), 1) := by decide +kernel
theorem dX7_earlyVariables_82 : decode cX7_earlyVariables 82 = .ok (.ixor, 1) := by decide +kernel
theorem dX7_earlyVariables_83 : decode cX7_earlyVariables 83 = .ok (.iand, 1) := by decide +kernel
theorem dX7_earlyVariables_84 : decode cX7_earlyVariables 84 = .ok (.ior, 1) := by decide +kernel
theorem dX7_earlyVariables_85 : decode cX7_earlyVariables 85 = .ok (.ireturn, 1) := by decide +kernel
theorem dX7_variableBit_0 : decode cX7_variableBit 0 = .ok (.iload_n 0, 1) := by decide +kernel
theorem dX7_variableBit_1 : decode cX7_variableBit 1 = .ok (.bipush 8, 2) := by decide +kernel
theorem dX7_variableBit_3 : decode cX7_variableBit 3 = .ok (.invokestatic 133, 3) := by decide +kernel
theorem dX7_variableBit_6 : decode cX7_variableBit 6 = .ok (.ifCond .eq 10, 3) := by decide +kernel
theorem dX7_variableBit_9 : decode cX7_variableBit 9 = .ok (.iload_n 0, 1) := by decide +kernel
theorem dX7_variableBit_10 : decode cX7_variableBit 10 = .ok (.invokestatic 136, 3) := by decide +kernel
theorem dX7_variableBit_13 : decode cX7_variableBit 13 = .ok (.goto 4, 3) := by decide +kernel
theorem dX7_variableBit_16 : decode cX7_variableBit 16 = .ok (.iconst 0, 1) := by decide +kernel
theorem dX7_variableBit_17 : decode cX7_variableBit 17 = .ok (.ireturn, 1) := by decide +kernel
theorem dX7_isNeeding_0 : decode cX7_isNeeding 0 = .ok (.aload_n 0, 1) := by decide +kernel
theorem dX7_isNeeding_1 : decode cX7_isNeeding 1 = .ok (.getfield 48, 3) := by decide +kernel
theorem dX7_isNeeding_4 : decode cX7_isNeeding 4 = .ok (.iload_n 1, 1) := by decide +kernel
theorem dX7_isNeeding_5 : decode cX7_isNeeding 5 = .ok (.aload_n 0, 1) := by decide +kernel
theorem dX7_isNeeding_6 : decode cX7_isNeeding 6 = .ok (.getfield 48, 3) := by decide +kernel
theorem dX7_isNeeding_9 : decode cX7_isNeeding 9 = .ok (.iload_n 2, 1) := by decide +kernel
theorem dX7_isNeeding_10 : decode cX7_isNeeding 10 = .ok (.invokevirtual 127, 3) := by decide +kernel
theorem dX7_isNeeding_13 : decode cX7_isNeeding 13 = .ok (.invokevirtual 139, 3) := by decide +kernel
theorem dX7_isNeeding_16 : decode cX7_isNeeding 16 = .ok (.ifCond .ne 67, 3) := by decide +kernel
theorem dX7_isNeeding_19 : decode cX7_isNeeding 19 = .ok (.aload_n 0, 1) := by decide +kernel
theorem dX7_isNeeding_20 : decode cX7_isNeeding 20 = .ok (.getfield 48, 3) := by decide +kernel
theorem dX7_isNeeding_23 : decode cX7_isNeeding 23 = .ok (.iload_n 2, 1) := by decide +kernel
theorem dX7_isNeeding_24 : decode cX7_isNeeding 24 = .ok (.aload_n 0, 1) := by decide +kernel
theorem dX7_isNeeding_25 : decode cX7_isNeeding 25 = .ok (.getfield 48, 3) := by decide +kernel
theorem dX7_isNeeding_28 : decode cX7_isNeeding 28 = .ok (.iload_n 1, 1) := by decide +kernel
theorem dX7_isNeeding_29 : decode cX7_isNeeding 29 = .ok (.invokevirtual 127, 3) := by decide +kernel
theorem dX7_isNeeding_32 : decode cX7_isNeeding 32 = .ok (.invokevirtual 139, 3) := by decide +kernel
theorem dX7_isNeeding_35 : decode cX7_isNeeding 35 = .ok (.ifCond .ne 48, 3) := by decide +kernel
theorem dX7_isNeeding_38 : decode cX7_isNeeding 38 = .ok (.aload_n 0, 1) := by decide +kernel
theorem dX7_isNeeding_39 : decode cX7_isNeeding 39 = .ok (.getfield 48, 3) := by decide +kernel
theorem dX7_isNeeding_42 : decode cX7_isNeeding 42 = .ok (.iload_n 1, 1) := by decide +kernel
theorem dX7_isNeeding_43 : decode cX7_isNeeding 43 = .ok (.invokevirtual 127, 3) := by decide +kernel
theorem dX7_isNeeding_46 : decode cX7_isNeeding 46 = .ok (.aload_n 0, 1) := by decide +kernel
theorem dX7_isNeeding_47 : decode cX7_isNeeding 47 = .ok (.getfield 48, 3) := by decide +kernel
theorem dX7_isNeeding_50 : decode cX7_isNeeding 50 = .ok (.iload_n 2, 1) := by decide +kernel
theorem dX7_isNeeding_51 : decode cX7_isNeeding 51 = .ok (.invokevirtual 127, 3) := by decide +kernel
theorem dX7_isNeeding_54 : decode cX7_isNeeding 54 = .ok (.if_icmp .eq 29, 3) := by decide +kernel
theorem dX7_isNeeding_57 : decode cX7_isNeeding 57 = .ok (.aload_n 0, 1) := by decide +kernel
theorem dX7_isNeeding_58 : decode cX7_isNeeding 58 = .ok (.getfield 48, 3) := by decide +kernel
theorem dX7_isNeeding_61 : decode cX7_isNeeding 61 = .ok (.iload_n 1, 1) := by decide +kernel
theorem dX7_isNeeding_62 : decode cX7_isNeeding 62 = .ok (.invokevirtual 142, 3) := by decide +kernel
theorem dX7_isNeeding_65 : decode cX7_isNeeding 65 = .ok (.bipush 9, 2) := by decide +kernel
theorem dX7_isNeeding_67 : decode cX7_isNeeding 67 = .ok (.if_icmp .ne 20, 3) := by decide +kernel
theorem dX7_isNeeding_70 : decode cX7_isNeeding 70 = .ok (.aload_n 0, 1) := by decide +kernel
theorem dX7_isNeeding_71 : decode cX7_isNeeding 71 = .ok (.getfield 48, 3) := by decide +kernel
theorem dX7_isNeeding_74 : decode cX7_isNeeding 74 = .ok (.iload_n 2, 1) := by decide +kernel
theorem dX7_isNeeding_75 : decode cX7_isNeeding 75 = .ok (.invokevirtual 142, 3) := by decide +kernel
theorem dX7_isNeeding_78 : decode cX7_isNeeding 78 = .ok (.bipush 9, 2) := by decide +kernel
theorem dX7_isNeeding_80 : decode cX7_isNeeding 80 = .ok (.if_icmp .ne 7, 3) := by decide +kernel
theorem dX7_isNeeding_83 : decode cX7_isNeeding 83 = .ok (.iconst 1, 1) := by decide +kernel
theorem dX7_isNeeding_84 : decode cX7_isNeeding 84 = .ok (.goto 4, 3) := by decide +kernel
theorem dX7_isNeeding_87 : decode cX7_isNeeding 87 = .ok (.iconst 0, 1) := by decide +kernel
theorem dX7_isNeeding_88 : decode cX7_isNeeding 88 = .ok (.ireturn, 1) := by decide +kernel
theorem dX7_measureHeights_0 : decode cX7_measureHeights 0 = .ok (.iload_n 2, 1) := by decide +kernel
theorem dX7_measureHeights_1 : decode cX7_measureHeights 1 = .ok (.iconst 1, 1) := by decide +kernel
theorem dX7_measureHeights_2 : decode cX7_measureHeights 2 = .ok (.isub, 1) := by decide +kernel
theorem dX7_measureHeights_3 : decode cX7_measureHeights 3 = .ok (.istore_n 3, 1) := by decide +kernel
theorem dX7_measureHeights_4 : decode cX7_measureHeights 4 = .ok (.iload_n 3, 1) := by decide +kernel
theorem dX7_measureHeights_5 : decode cX7_measureHeights 5 = .ok (.iload_n 1, 1) := by decide +kernel
theorem dX7_measureHeights_6 : decode cX7_measureHeights 6 = .ok (.if_icmp .lt 90, 3) := by decide +kernel
theorem dX7_measureHeights_9 : decode cX7_measureHeights 9 = .ok (.iconst 0, 1) := by decide +kernel
theorem dX7_measureHeights_10 : decode cX7_measureHeights 10 = .ok (.istore 4, 2) := by decide +kernel
theorem dX7_measureHeights_12 : decode cX7_measureHeights 12 = .ok (.iload_n 3, 1) := by decide +kernel
theorem dX7_measureHeights_13 : decode cX7_measureHeights 13 = .ok (.iconst 1, 1) := by decide +kernel
theorem dX7_measureHeights_14 : decode cX7_measureHeights 14 = .ok (.iadd, 1) := by decide +kernel
theorem dX7_measureHeights_15 : decode cX7_measureHeights 15 = .ok (.istore 5, 2) := by decide +kernel
theorem dX7_measureHeights_17 : decode cX7_measureHeights 17 = .ok (.iload 5, 2) := by decide +kernel
theorem dX7_measureHeights_19 : decode cX7_measureHeights 19 = .ok (.iload_n 2, 1) := by decide +kernel
theorem dX7_measureHeights_20 : decode cX7_measureHeights 20 = .ok (.if_icmp .ge 44, 3) := by decide +kernel
theorem dX7_measureHeights_23 : decode cX7_measureHeights 23 = .ok (.aload_n 0, 1) := by decide +kernel
theorem dX7_measureHeights_24 : decode cX7_measureHeights 24 = .ok (.getfield 48, 3) := by decide +kernel
theorem dX7_measureHeights_27 : decode cX7_measureHeights 27 = .ok (.iload 5, 2) := by decide +kernel
theorem dX7_measureHeights_29 : decode cX7_measureHeights 29 = .ok (.invokevirtual 145, 3) := by decide +kernel
theorem dX7_measureHeights_32 : decode cX7_measureHeights 32 = .ok (.iload 4, 2) := by decide +kernel
theorem dX7_measureHeights_34 : decode cX7_measureHeights 34 = .ok (.if_icmp .le 24, 3) := by decide +kernel
theorem dX7_measureHeights_37 : decode cX7_measureHeights 37 = .ok (.aload_n 0, 1) := by decide +kernel
theorem dX7_measureHeights_38 : decode cX7_measureHeights 38 = .ok (.iload 5, 2) := by decide +kernel
theorem dX7_measureHeights_40 : decode cX7_measureHeights 40 = .ok (.iload_n 3, 1) := by decide +kernel
theorem dX7_measureHeights_41 : decode cX7_measureHeights 41 = .ok (.invokevirtual 148, 3) := by decide +kernel
theorem dX7_measureHeights_44 : decode cX7_measureHeights 44 = .ok (.ifCond .eq 14, 3) := by decide +kernel
theorem dX7_measureHeights_47 : decode cX7_measureHeights 47 = .ok (.aload_n 0, 1) := by decide +kernel
theorem dX7_measureHeights_48 : decode cX7_measureHeights 48 = .ok (.getfield 48, 3) := by decide +kernel
theorem dX7_measureHeights_51 : decode cX7_measureHeights 51 = .ok (.iload 5, 2) := by decide +kernel
theorem dX7_measureHeights_53 : decode cX7_measureHeights 53 = .ok (.invokevirtual 145, 3) := by decide +kernel
theorem dX7_measureHeights_56 : decode cX7_measureHeights 56 = .ok (.istore 4, 2) := by decide +kernel
theorem dX7_measureHeights_58 : decode cX7_measureHeights 58 = .ok (.iinc 5 1, 3) := by decide +kernel
theorem dX7_measureHeights_61 : decode cX7_measureHeights 61 = .ok (.goto (-44), 3) := by decide +kernel
theorem dX7_measureHeights_64 : decode cX7_measureHeights 64 = .ok (.aload_n 0, 1) := by decide +kernel
theorem dX7_measureHeights_65 : decode cX7_measureHeights 65 = .ok (.getfield 48, 3) := by decide +kernel
theorem dX7_measureHeights_68 : decode cX7_measureHeights 68 = .ok (.iload_n 3, 1) := by decide +kernel
theorem dX7_measureHeights_69 : decode cX7_measureHeights 69 = .ok (.aload_n 0, 1) := by decide +kernel
theorem dX7_measureHeights_70 : decode cX7_measureHeights 70 = .ok (.getfield 15, 3) := by decide +kernel
theorem dX7_measureHeights_73 : decode cX7_measureHeights 73 = .ok (.aload_n 0, 1) := by decide +kernel
theorem dX7_measureHeights_74 : decode cX7_measureHeights 74 = .ok (.getfield 48, 3) := by decide +kernel
theorem dX7_measureHeights_77 : decode cX7_measureHeights 77 = .ok (.iload_n 3, 1) := by decide +kernel
theorem dX7_measureHeights_78 : decode cX7_measureHeights 78 = .ok (.invokevirtual 142, 3) := by decide +kernel
theorem dX7_measureHeights_81 : decode cX7_measureHeights 81 = .ok (.invokevirtual 151, 3) := by decide +kernel
theorem dX7_measureHeights_84 : decode cX7_measureHeights 84 = .ok (.iload 4, 2) := by decide +kernel
theorem dX7_measureHeights_86 : decode cX7_measureHeights 86 = .ok (.iadd, 1) := by decide +kernel
theorem dX7_measureHeights_87 : decode cX7_measureHeights 87 = .ok (.invokevirtual 156, 3) := by decide +kernel
theorem dX7_measureHeights_90 : decode cX7_measureHeights 90 = .ok (.iinc 3 (-1), 3) := by decide +kernel
theorem dX7_measureHeights_93 : decode cX7_measureHeights 93 = .ok (.goto (-89), 3) := by decide +kernel
theorem dX7_measureHeights_96 : decode cX7_measureHeights 96 = .ok (.return_, 1) := by decide +kernel
theorem dX7_placeAsChosen_0 : decode cX7_placeAsChosen 0 = .ok (.iload_n 1, 1) := by decide +kernel
theorem dX7_placeAsChosen_1 : decode cX7_placeAsChosen 1 = .ok (.istore_n 3, 1) := by decide +kernel
theorem dX7_placeAsChosen_2 : decode cX7_placeAsChosen 2 = .ok (.iload_n 3, 1) := by decide +kernel
theorem dX7_placeAsChosen_3 : decode cX7_placeAsChosen 3 = .ok (.iload_n 2, 1) := by decide +kernel
theorem dX7_placeAsChosen_4 : decode cX7_placeAsChosen 4 = .ok (.if_icmp .ge 21, 3) := by decide +kernel
theorem dX7_placeAsChosen_7 : decode cX7_placeAsChosen 7 = .ok (.aload_n 0, 1) := by decide +kernel
theorem dX7_placeAsChosen_8 : decode cX7_placeAsChosen 8 = .ok (.getfield 31, 3) := by decide +kernel
theorem dX7_placeAsChosen_11 : decode cX7_placeAsChosen 11 = .ok (.aload_n 0, 1) := by decide +kernel
theorem dX7_placeAsChosen_12 : decode cX7_placeAsChosen 12 = .ok (.getfield 48, 3) := by decide +kernel
theorem dX7_placeAsChosen_15 : decode cX7_placeAsChosen 15 = .ok (.iload_n 3, 1) := by decide +kernel
theorem dX7_placeAsChosen_16 : decode cX7_placeAsChosen 16 = .ok (.invokevirtual 159, 3) := by decide +kernel
theorem dX7_placeAsChosen_19 : decode cX7_placeAsChosen 19 = .ok (.iinc 3 1, 3) := by decide +kernel
theorem dX7_placeAsChosen_22 : decode cX7_placeAsChosen 22 = .ok (.goto (-20), 3) := by decide +kernel
theorem dX7_placeAsChosen_25 : decode cX7_placeAsChosen 25 = .ok (.return_, 1) := by decide +kernel
theorem dX7_placeByHeight_0 : decode cX7_placeByHeight 0 = .ok (.aload_n 0, 1) := by decide +kernel
theorem dX7_placeByHeight_1 : decode cX7_placeByHeight 1 = .ok (.iload_n 1, 1) := by decide +kernel
theorem dX7_placeByHeight_2 : decode cX7_placeByHeight 2 = .ok (.iload_n 2, 1) := by decide +kernel
theorem dX7_placeByHeight_3 : decode cX7_placeByHeight 3 = .ok (.invokevirtual 163, 3) := by decide +kernel
theorem dX7_placeByHeight_6 : decode cX7_placeByHeight 6 = .ok (.iload_n 1, 1) := by decide +kernel
theorem dX7_placeByHeight_7 : decode cX7_placeByHeight 7 = .ok (.istore_n 3, 1) := by decide +kernel
theorem dX7_placeByHeight_8 : decode cX7_placeByHeight 8 = .ok (.iload_n 3, 1) := by decide +kernel
theorem dX7_placeByHeight_9 : decode cX7_placeByHeight 9 = .ok (.iload_n 2, 1) := by decide +kernel
theorem dX7_placeByHeight_10 : decode cX7_placeByHeight 10 = .ok (.if_icmp .ge 96, 3) := by decide +kernel
theorem dX7_placeByHeight_13 : decode cX7_placeByHeight 13 = .ok (.aload_n 0, 1) := by decide +kernel
theorem dX7_placeByHeight_14 : decode cX7_placeByHeight 14 = .ok (.iload_n 1, 1) := by decide +kernel
theorem dX7_placeByHeight_15 : decode cX7_placeByHeight 15 = .ok (.iload_n 2, 1) := by decide +kernel
theorem dX7_placeByHeight_16 : decode cX7_placeByHeight 16 = .ok (.invokevirtual 166, 3) := by decide +kernel
theorem dX7_placeByHeight_19 : decode cX7_placeByHeight 19 = .ok (.istore 4, 2) := by decide +kernel
theorem dX7_placeByHeight_21 : decode cX7_placeByHeight 21 = .ok (.iload 4, 2) := by decide +kernel
theorem dX7_placeByHeight_23 : decode cX7_placeByHeight 23 = .ok (.iconst (-1), 1) := by decide +kernel
theorem dX7_placeByHeight_24 : decode cX7_placeByHeight 24 = .ok (.if_icmp .ne 4, 3) := by decide +kernel
theorem dX7_placeByHeight_27 : decode cX7_placeByHeight 27 = .ok (.return_, 1) := by decide +kernel
theorem dX7_placeByHeight_28 : decode cX7_placeByHeight 28 = .ok (.aload_n 0, 1) := by decide +kernel
theorem dX7_placeByHeight_29 : decode cX7_placeByHeight 29 = .ok (.getfield 31, 3) := by decide +kernel
theorem dX7_placeByHeight_32 : decode cX7_placeByHeight 32 = .ok (.aload_n 0, 1) := by decide +kernel
theorem dX7_placeByHeight_33 : decode cX7_placeByHeight 33 = .ok (.getfield 48, 3) := by decide +kernel
theorem dX7_placeByHeight_36 : decode cX7_placeByHeight 36 = .ok (.iload 4, 2) := by decide +kernel
theorem dX7_placeByHeight_38 : decode cX7_placeByHeight 38 = .ok (.invokevirtual 159, 3) := by decide +kernel
theorem dX7_placeByHeight_41 : decode cX7_placeByHeight 41 = .ok (.aload_n 0, 1) := by decide +kernel
theorem dX7_placeByHeight_42 : decode cX7_placeByHeight 42 = .ok (.getfield 54, 3) := by decide +kernel
theorem dX7_placeByHeight_45 : decode cX7_placeByHeight 45 = .ok (.iload 4, 2) := by decide +kernel
theorem dX7_placeByHeight_47 : decode cX7_placeByHeight 47 = .ok (.iconst (-1), 1) := by decide +kernel
theorem dX7_placeByHeight_48 : decode cX7_placeByHeight 48 = .ok (.invokestatic 77, 3) := by decide +kernel
theorem dX7_placeByHeight_51 : decode cX7_placeByHeight 51 = .ok (.iload 4, 2) := by decide +kernel
theorem dX7_placeByHeight_53 : decode cX7_placeByHeight 53 = .ok (.iconst 1, 1) := by decide +kernel
theorem dX7_placeByHeight_54 : decode cX7_placeByHeight 54 = .ok (.iadd, 1) := by decide +kernel
theorem dX7_placeByHeight_55 : decode cX7_placeByHeight 55 = .ok (.istore 5, 2) := by decide +kernel
theorem dX7_placeByHeight_57 : decode cX7_placeByHeight 57 = .ok (.iload 5, 2) := by decide +kernel
theorem dX7_placeByHeight_59 : decode cX7_placeByHeight 59 = .ok (.iload_n 2, 1) := by decide +kernel
theorem dX7_placeByHeight_60 : decode cX7_placeByHeight 60 = .ok (.if_icmp .ge 40, 3) := by decide +kernel
theorem dX7_placeByHeight_63 : decode cX7_placeByHeight 63 = .ok (.aload_n 0, 1) := by decide +kernel
theorem dX7_placeByHeight_64 : decode cX7_placeByHeight 64 = .ok (.iload 5, 2) := by decide +kernel
theorem dX7_placeByHeight_66 : decode cX7_placeByHeight 66 = .ok (.iload 4, 2) := by decide +kernel
theorem dX7_placeByHeight_68 : decode cX7_placeByHeight 68 = .ok (.invokevirtual 148, 3) := by decide +kernel
theorem dX7_placeByHeight_71 : decode cX7_placeByHeight 71 = .ok (.ifCond .eq 23, 3) := by decide +kernel
theorem dX7_placeByHeight_74 : decode cX7_placeByHeight 74 = .ok (.aload_n 0, 1) := by decide +kernel
theorem dX7_placeByHeight_75 : decode cX7_placeByHeight 75 = .ok (.getfield 54, 3) := by decide +kernel
theorem dX7_placeByHeight_78 : decode cX7_placeByHeight 78 = .ok (.iload 5, 2) := by decide +kernel
theorem dX7_placeByHeight_80 : decode cX7_placeByHeight 80 = .ok (.aload_n 0, 1) := by decide +kernel
theorem dX7_placeByHeight_81 : decode cX7_placeByHeight 81 = .ok (.getfield 54, 3) := by decide +kernel
theorem dX7_placeByHeight_84 : decode cX7_placeByHeight 84 = .ok (.iload 5, 2) := by decide +kernel
theorem dX7_placeByHeight_86 : decode cX7_placeByHeight 86 = .ok (.invokestatic 69, 3) := by decide +kernel
theorem dX7_placeByHeight_89 : decode cX7_placeByHeight 89 = .ok (.iconst 1, 1) := by decide +kernel
theorem dX7_placeByHeight_90 : decode cX7_placeByHeight 90 = .ok (.isub, 1) := by decide +kernel
theorem dX7_placeByHeight_91 : decode cX7_placeByHeight 91 = .ok (.invokestatic 77, 3) := by decide +kernel
theorem dX7_placeByHeight_94 : decode cX7_placeByHeight 94 = .ok (.iinc 5 1, 3) := by decide +kernel
theorem dX7_placeByHeight_97 : decode cX7_placeByHeight 97 = .ok (.goto (-40), 3) := by decide +kernel
theorem dX7_placeByHeight_100 : decode cX7_placeByHeight 100 = .ok (.iinc 3 1, 3) := by decide +kernel
theorem dX7_placeByHeight_103 : decode cX7_placeByHeight 103 = .ok (.goto (-95), 3) := by decide +kernel
theorem dX7_placeByHeight_106 : decode cX7_placeByHeight 106 = .ok (.return_, 1) := by decide +kernel
theorem dX7_countMissing_0 : decode cX7_countMissing 0 = .ok (.iload_n 1, 1) := by decide +kernel
theorem dX7_countMissing_1 : decode cX7_countMissing 1 = .ok (.istore_n 3, 1) := by decide +kernel
theorem dX7_countMissing_2 : decode cX7_countMissing 2 = .ok (.iload_n 3, 1) := by decide +kernel
theorem dX7_countMissing_3 : decode cX7_countMissing 3 = .ok (.iload_n 2, 1) := by decide +kernel
theorem dX7_countMissing_4 : decode cX7_countMissing 4 = .ok (.if_icmp .ge 50, 3) := by decide +kernel
theorem dX7_countMissing_7 : decode cX7_countMissing 7 = .ok (.iconst 0, 1) := by decide +kernel
theorem dX7_countMissing_8 : decode cX7_countMissing 8 = .ok (.istore 4, 2) := by decide +kernel
theorem dX7_countMissing_10 : decode cX7_countMissing 10 = .ok (.iload_n 1, 1) := by decide +kernel
theorem dX7_countMissing_11 : decode cX7_countMissing 11 = .ok (.istore 5, 2) := by decide +kernel
theorem dX7_countMissing_13 : decode cX7_countMissing 13 = .ok (.iload 5, 2) := by decide +kernel
theorem dX7_countMissing_15 : decode cX7_countMissing 15 = .ok (.iload_n 3, 1) := by decide +kernel
theorem dX7_countMissing_16 : decode cX7_countMissing 16 = .ok (.if_icmp .ge 22, 3) := by decide +kernel
theorem dX7_countMissing_19 : decode cX7_countMissing 19 = .ok (.aload_n 0, 1) := by decide +kernel
theorem dX7_countMissing_20 : decode cX7_countMissing 20 = .ok (.iload_n 3, 1) := by decide +kernel
theorem dX7_countMissing_21 : decode cX7_countMissing 21 = .ok (.iload 5, 2) := by decide +kernel
theorem dX7_countMissing_23 : decode cX7_countMissing 23 = .ok (.invokevirtual 148, 3) := by decide +kernel
theorem dX7_countMissing_26 : decode cX7_countMissing 26 = .ok (.ifCond .eq 6, 3) := by decide +kernel
theorem dX7_countMissing_29 : decode cX7_countMissing 29 = .ok (.iinc 4 1, 3) := by decide +kernel
theorem dX7_countMissing_32 : decode cX7_countMissing 32 = .ok (.iinc 5 1, 3) := by decide +kernel
theorem dX7_countMissing_35 : decode cX7_countMissing 35 = .ok (.goto (-22), 3) := by decide +kernel
theorem dX7_countMissing_38 : decode cX7_countMissing 38 = .ok (.aload_n 0, 1) := by decide +kernel
theorem dX7_countMissing_39 : decode cX7_countMissing 39 = .ok (.getfield 54, 3) := by decide +kernel
theorem dX7_countMissing_42 : decode cX7_countMissing 42 = .ok (.iload_n 3, 1) := by decide +kernel
theorem dX7_countMissing_43 : decode cX7_countMissing 43 = .ok (.iload 4, 2) := by decide +kernel
theorem dX7_countMissing_45 : decode cX7_countMissing 45 = .ok (.invokestatic 77, 3) := by decide +kernel
theorem dX7_countMissing_48 : decode cX7_countMissing 48 = .ok (.iinc 3 1, 3) := by decide +kernel
theorem dX7_countMissing_51 : decode cX7_countMissing 51 = .ok (.goto (-49), 3) := by decide +kernel
theorem dX7_countMissing_54 : decode cX7_countMissing 54 = .ok (.return_, 1) := by decide +kernel
theorem dX7_highestReady_0 : decode cX7_highestReady 0 = .ok (.iconst (-1), 1) := by decide +kernel
theorem dX7_highestReady_1 : decode cX7_highestReady 1 = .ok (.istore_n 3, 1) := by decide +kernel
theorem dX7_highestReady_2 : decode cX7_highestReady 2 = .ok (.iload_n 1, 1) := by decide +kernel
theorem dX7_highestReady_3 : decode cX7_highestReady 3 = .ok (.istore 4, 2) := by decide +kernel
theorem dX7_highestReady_5 : decode cX7_highestReady 5 = .ok (.iload 4, 2) := by decide +kernel
theorem dX7_highestReady_7 : decode cX7_highestReady 7 = .ok (.iload_n 2, 1) := by decide +kernel
theorem dX7_highestReady_8 : decode cX7_highestReady 8 = .ok (.if_icmp .ge 49, 3) := by decide +kernel
theorem dX7_highestReady_11 : decode cX7_highestReady 11 = .ok (.aload_n 0, 1) := by decide +kernel
theorem dX7_highestReady_12 : decode cX7_highestReady 12 = .ok (.getfield 54, 3) := by decide +kernel
theorem dX7_highestReady_15 : decode cX7_highestReady 15 = .ok (.iload 4, 2) := by decide +kernel
theorem dX7_highestReady_17 : decode cX7_highestReady 17 = .ok (.invokestatic 69, 3) := by decide +kernel
theorem dX7_highestReady_20 : decode cX7_highestReady 20 = .ok (.ifCond .ne 31, 3) := by decide +kernel
theorem dX7_highestReady_23 : decode cX7_highestReady 23 = .ok (.iload_n 3, 1) := by decide +kernel
theorem dX7_highestReady_24 : decode cX7_highestReady 24 = .ok (.iconst (-1), 1) := by decide +kernel
theorem dX7_highestReady_25 : decode cX7_highestReady 25 = .ok (.if_icmp .eq 23, 3) := by decide +kernel
theorem dX7_highestReady_28 : decode cX7_highestReady 28 = .ok (.aload_n 0, 1) := by decide +kernel
theorem dX7_highestReady_29 : decode cX7_highestReady 29 = .ok (.getfield 48, 3) := by decide +kernel
theorem dX7_highestReady_32 : decode cX7_highestReady 32 = .ok (.iload 4, 2) := by decide +kernel
theorem dX7_highestReady_34 : decode cX7_highestReady 34 = .ok (.invokevirtual 145, 3) := by decide +kernel
theorem dX7_highestReady_37 : decode cX7_highestReady 37 = .ok (.aload_n 0, 1) := by decide +kernel
theorem dX7_highestReady_38 : decode cX7_highestReady 38 = .ok (.getfield 48, 3) := by decide +kernel
theorem dX7_highestReady_41 : decode cX7_highestReady 41 = .ok (.iload_n 3, 1) := by decide +kernel
theorem dX7_highestReady_42 : decode cX7_highestReady 42 = .ok (.invokevirtual 145, 3) := by decide +kernel
theorem dX7_highestReady_45 : decode cX7_highestReady 45 = .ok (.if_icmp .le 6, 3) := by decide +kernel
theorem dX7_highestReady_48 : decode cX7_highestReady 48 = .ok (.iload 4, 2) := by decide +kernel
theorem dX7_highestReady_50 : decode cX7_highestReady 50 = .ok (.istore_n 3, 1) := by decide +kernel
theorem dX7_highestReady_51 : decode cX7_highestReady 51 = .ok (.iinc 4 1, 3) := by decide +kernel
theorem dX7_highestReady_54 : decode cX7_highestReady 54 = .ok (.goto (-49), 3) := by decide +kernel
theorem dX7_highestReady_57 : decode cX7_highestReady 57 = .ok (.iload_n 3, 1) := by decide +kernel
theorem dX7_highestReady_58 : decode cX7_highestReady 58 = .ok (.ireturn, 1) := by decide +kernel
theorem dX8_init_0 : decode cX8_init 0 = .ok (.aload_n 0, 1) := by decide +kernel
theorem dX8_init_1 : decode cX8_init 1 = .ok (.invokespecial 3, 3) := by decide +kernel
theorem dX8_init_4 : decode cX8_init 4 = .ok (.aload_n 0, 1) := by decide +kernel
theorem dX8_init_5 : decode cX8_init 5 = .ok (.iconst 1, 1) := by decide +kernel
theorem dX8_init_6 : decode cX8_init 6 = .ok (.putfield 9, 3) := by decide +kernel
theorem dX8_init_9 : decode cX8_init 9 = .ok (.aload_n 0, 1) := by decide +kernel
theorem dX8_init_10 : decode cX8_init 10 = .ok (.iconst 4, 1) := by decide +kernel
theorem dX8_init_11 : decode cX8_init 11 = .ok (.newarray .int, 2) := by decide +kernel
theorem dX8_init_13 : decode cX8_init 13 = .ok (.dup, 1) := by decide +kernel
theorem dX8_init_14 : decode cX8_init 14 = .ok (.iconst 0, 1) := by decide +kernel
theorem dX8_init_15 : decode cX8_init 15 = .ok (.iconst 1, 1) := by decide +kernel
theorem dX8_init_16 : decode cX8_init 16 = .ok (.iastore, 1) := by decide +kernel
theorem dX8_init_17 : decode cX8_init 17 = .ok (.dup, 1) := by decide +kernel
theorem dX8_init_18 : decode cX8_init 18 = .ok (.iconst 1, 1) := by decide +kernel
theorem dX8_init_19 : decode cX8_init 19 = .ok (.iconst 1, 1) := by decide +kernel
theorem dX8_init_20 : decode cX8_init 20 = .ok (.iastore, 1) := by decide +kernel
theorem dX8_init_21 : decode cX8_init 21 = .ok (.dup, 1) := by decide +kernel
theorem dX8_init_22 : decode cX8_init 22 = .ok (.iconst 2, 1) := by decide +kernel
theorem dX8_init_23 : decode cX8_init 23 = .ok (.iconst 1, 1) := by decide +kernel
theorem dX8_init_24 : decode cX8_init 24 = .ok (.iastore, 1) := by decide +kernel
theorem dX8_init_25 : decode cX8_init 25 = .ok (.dup, 1) := by decide +kernel
theorem dX8_init_26 : decode cX8_init 26 = .ok (.iconst 3, 1) := by decide +kernel
theorem dX8_init_27 : decode cX8_init 27 = .ok (.iconst 1, 1) := by decide +kernel
theorem dX8_init_28 : decode cX8_init 28 = .ok (.iastore, 1) := by decide +kernel
theorem dX8_init_29 : decode cX8_init 29 = .ok (.putfield 15, 3) := by decide +kernel
theorem dX8_init_32 : decode cX8_init 32 = .ok (.aload_n 0, 1) := by decide +kernel
theorem dX8_init_33 : decode cX8_init 33 = .ok (.bipush 80, 2) := by decide +kernel
theorem dX8_init_35 : decode cX8_init 35 = .ok (.newarray .int, 2) := by decide +kernel
theorem dX8_init_37 : decode cX8_init 37 = .ok (.putfield 19, 3) := by decide +kernel
theorem dX8_init_40 : decode cX8_init 40 = .ok (.aload_n 0, 1) := by decide +kernel
theorem dX8_init_41 : decode cX8_init 41 = .ok (.bipush 80, 2) := by decide +kernel
theorem dX8_init_43 : decode cX8_init 43 = .ok (.newarray .int, 2) := by decide +kernel
theorem dX8_init_45 : decode cX8_init 45 = .ok (.putfield 22, 3) := by decide +kernel
theorem dX8_init_48 : decode cX8_init 48 = .ok (.aload_n 0, 1) := by decide +kernel
theorem dX8_init_49 : decode cX8_init 49 = .ok (.bipush 80, 2) := by decide +kernel
theorem dX8_init_51 : decode cX8_init 51 = .ok (.newarray .int, 2) := by decide +kernel
theorem dX8_init_53 : decode cX8_init 53 = .ok (.putfield 25, 3) := by decide +kernel
theorem dX8_init_56 : decode cX8_init 56 = .ok (.aload_n 0, 1) := by decide +kernel
theorem dX8_init_57 : decode cX8_init 57 = .ok (.bipush 80, 2) := by decide +kernel
theorem dX8_init_59 : decode cX8_init 59 = .ok (.newarray .int, 2) := by decide +kernel
theorem dX8_init_61 : decode cX8_init 61 = .ok (.putfield 28, 3) := by decide +kernel
theorem dX8_init_64 : decode cX8_init 64 = .ok (.aload_n 0, 1) := by decide +kernel
theorem dX8_init_65 : decode cX8_init 65 = .ok (.iconst 4, 1) := by decide +kernel
theorem dX8_init_66 : decode cX8_init 66 = .ok (.newarray .int, 2) := by decide +kernel
theorem dX8_init_68 : decode cX8_init 68 = .ok (.putfield 31, 3) := by decide +kernel
theorem dX8_init_71 : decode cX8_init 71 = .ok (.aload_n 0, 1) := by decide +kernel
theorem dX8_init_72 : decode cX8_init 72 = .ok (.bipush 96, 2) := by decide +kernel
theorem dX8_init_74 : decode cX8_init 74 = .ok (.newarray .int, 2) := by decide +kernel
theorem dX8_init_76 : decode cX8_init 76 = .ok (.putfield 34, 3) := by decide +kernel
theorem dX8_init_79 : decode cX8_init 79 = .ok (.aload_n 0, 1) := by decide +kernel
theorem dX8_init_80 : decode cX8_init 80 = .ok (.bipush 96, 2) := by decide +kernel
theorem dX8_init_82 : decode cX8_init 82 = .ok (.newarray .int, 2) := by decide +kernel
theorem dX8_init_84 : decode cX8_init 84 = .ok (.putfield 37, 3) := by decide +kernel
theorem dX8_init_87 : decode cX8_init 87 = .ok (.return_, 1) := by decide +kernel
theorem dX8_canBeNode_0 : decode cX8_canBeNode 0 = .ok (.iload_n 1, 1) := by decide +kernel
theorem dX8_canBeNode_1 : decode cX8_canBeNode 1 = .ok (.ifCond .ne 27, 3) := by decide +kernel
theorem dX8_canBeNode_4 : decode cX8_canBeNode 4 = .ok (.iload_n 2, 1) := by decide +kernel
theorem dX8_canBeNode_5 : decode cX8_canBeNode 5 = .ok (.sipush (-999), 3) := by decide +kernel
theorem dX8_canBeNode_8 : decode cX8_canBeNode 8 = .ok (.if_icmp .lt 18, 3) := by decide +kernel
theorem dX8_canBeNode_11 : decode cX8_canBeNode 11 = .ok (.iload_n 2, 1) := by decide +kernel
theorem dX8_canBeNode_12 : decode cX8_canBeNode 12 = .ok (.sipush 999, 3) := by decide +kernel
theorem dX8_canBeNode_15 : decode cX8_canBeNode 15 = .ok (.if_icmp .gt 11, 3) := by decide +kernel
theorem dX8_canBeNode_18 : decode cX8_canBeNode 18 = .ok (.iload_n 3, 1) := by decide +kernel
theorem dX8_canBeNode_19 : decode cX8_canBeNode 19 = .ok (.ifCond .ne 7, 3) := by decide +kernel
theorem dX8_canBeNode_22 : decode cX8_canBeNode 22 = .ok (.iconst 1, 1) := by decide +kernel
theorem dX8_canBeNode_23 : decode cX8_canBeNode 23 = .ok (.goto 4, 3) := by decide +kernel
theorem dX8_canBeNode_26 : decode cX8_canBeNode 26 = .ok (.iconst 0, 1) := by decide +kernel
theorem dX8_canBeNode_27 : decode cX8_canBeNode 27 = .ok (.ireturn, 1) := by decide +kernel
theorem dX8_canBeNode_28 : decode cX8_canBeNode 28 = .ok (.iload_n 1, 1) := by decide +kernel
theorem dX8_canBeNode_29 : decode cX8_canBeNode 29 = .ok (.iconst 1, 1) := by decide +kernel
theorem dX8_canBeNode_30 : decode cX8_canBeNode 30 = .ok (.if_icmp .ne 22, 3) := by decide +kernel
theorem dX8_canBeNode_33 : decode cX8_canBeNode 33 = .ok (.iload_n 2, 1) := by decide +kernel
theorem dX8_canBeNode_34 : decode cX8_canBeNode 34 = .ok (.bipush 8, 2) := by decide +kernel
theorem dX8_canBeNode_36 : decode cX8_canBeNode 36 = .ok (.invokestatic 40, 3) := by decide +kernel
theorem dX8_canBeNode_39 : decode cX8_canBeNode 39 = .ok (.ifCond .eq 11, 3) := by decide +kernel
theorem dX8_canBeNode_42 : decode cX8_canBeNode 42 = .ok (.iload_n 3, 1) := by decide +kernel
theorem dX8_canBeNode_43 : decode cX8_canBeNode 43 = .ok (.ifCond .ne 7, 3) := by decide +kernel
theorem dX8_canBeNode_46 : decode cX8_canBeNode 46 = .ok (.iconst 1, 1) := by decide +kernel
theorem dX8_canBeNode_47 : decode cX8_canBeNode 47 = .ok (.goto 4, 3) := by decide +kernel
theorem dX8_canBeNode_50 : decode cX8_canBeNode 50 = .ok (.iconst 0, 1) := by decide +kernel
theorem dX8_canBeNode_51 : decode cX8_canBeNode 51 = .ok (.ireturn, 1) := by decide +kernel
theorem dX8_canBeNode_52 : decode cX8_canBeNode 52 = .ok (.iload_n 1, 1) := by decide +kernel
theorem dX8_canBeNode_53 : decode cX8_canBeNode 53 = .ok (.iconst 2, 1) := by decide +kernel
theorem dX8_canBeNode_54 : decode cX8_canBeNode 54 = .ok (.if_icmp .lt 33, 3) := by decide +kernel
theorem dX8_canBeNode_57 : decode cX8_canBeNode 57 = .ok (.iload_n 1, 1) := by decide +kernel
theorem dX8_canBeNode_58 : decode cX8_canBeNode 58 = .ok (.iconst 5, 1) := by decide +kernel
theorem dX8_canBeNode_59 : decode cX8_canBeNode 59 = .ok (.if_icmp .gt 28, 3) := by decide +kernel
theorem dX8_canBeNode_62 : decode cX8_canBeNode 62 = .ok (.aload_n 0, 1) := by decide +kernel
theorem dX8_canBeNode_63 : decode cX8_canBeNode 63 = .ok (.iload_n 2, 1) := by decide +kernel
theorem dX8_canBeNode_64 : decode cX8_canBeNode 64 = .ok (.invokevirtual 44, 3) := by decide +kernel
theorem dX8_canBeNode_67 : decode cX8_canBeNode 67 = .ok (.ifCond .eq 20, 3) := by decide +kernel
theorem dX8_canBeNode_70 : decode cX8_canBeNode 70 = .ok (.aload_n 0, 1) := by decide +kernel
theorem dX8_canBeNode_71 : decode cX8_canBeNode 71 = .ok (.iload_n 3, 1) := by decide +kernel
theorem dX8_canBeNode_72 : decode cX8_canBeNode 72 = .ok (.invokevirtual 44, 3) := by decide +kernel
theorem dX8_canBeNode_75 : decode cX8_canBeNode 75 = .ok (.ifCond .eq 12, 3) := by decide +kernel
theorem dX8_canBeNode_78 : decode cX8_canBeNode 78 = .ok (.iload_n 2, 1) := by decide +kernel
theorem dX8_canBeNode_79 : decode cX8_canBeNode 79 = .ok (.iload_n 3, 1) := by decide +kernel
theorem dX8_canBeNode_80 : decode cX8_canBeNode 80 = .ok (.if_icmp .eq 7, 3) := by decide +kernel
theorem dX8_canBeNode_83 : decode cX8_canBeNode 83 = .ok (.iconst 1, 1) := by decide +kernel
theorem dX8_canBeNode_84 : decode cX8_canBeNode 84 = .ok (.goto 4, 3) := by decide +kernel
theorem dX8_canBeNode_87 : decode cX8_canBeNode 87 = .ok (.iconst 0, 1) := by decide +kernel
theorem dX8_canBeNode_88 : decode cX8_canBeNode 88 = .ok (.ireturn, 1) := by decide +kernel
theorem dX8_isLoose_0 : decode cX8_isLoose 0 = .ok (.iload_n 1, 1) := by decide +kernel
theorem dX8_isLoose_1 : decode cX8_isLoose 1 = .ok (.aload_n 0, 1) := by decide +kernel
theorem dX8_isLoose_2 : decode cX8_isLoose 2 = .ok (.getfield 48, 3) := by decide +kernel
theorem dX8_isLoose_5 : decode cX8_isLoose 5 = .ok (.invokestatic 40, 3) := by decide +kernel
theorem dX8_isLoose_8 : decode cX8_isLoose 8 = .ok (.ifCond .eq 18, 3) := by decide +kernel
