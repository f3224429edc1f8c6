theorem dX11_mixLines_63 : decode cX11_mixLines 63 = .ok (.lload 4, 2) := by decide +kernel
theorem dX11_mixLines_65 : decode cX11_mixLines 65 = .ok (.lreturn, 1) := by decide +kernel
theorem dX11_mixValues_0 : decode cX11_mixValues 0 = .ok (.lload_n 1, 1) := by decide +kernel
theorem dX11_mixValues_1 : decode cX11_mixValues 1 = .ok (.lstore 4, 2) := by decide +kernel
theorem dX11_mixValues_3 : decode cX11_mixValues 3 = .ok (.iconst 0, 1) := by decide +kernel
theorem dX11_mixValues_4 : decode cX11_mixValues 4 = .ok (.istore 6, 2) := by decide +kernel
theorem dX11_mixValues_6 : decode cX11_mixValues 6 = .ok (.iload 6, 2) := by decide +kernel
theorem dX11_mixValues_8 : decode cX11_mixValues 8 = .ok (.aload_n 0, 1) := by decide +kernel
theorem dX11_mixValues_9 : decode cX11_mixValues 9 = .ok (.getfield 40, 3) := by decide +kernel
theorem dX11_mixValues_12 : decode cX11_mixValues 12 = .ok (.getfield 198, 3) := by decide +kernel
theorem dX11_mixValues_15 : decode cX11_mixValues 15 = .ok (.getfield 348, 3) := by decide +kernel
theorem dX11_mixValues_18 : decode cX11_mixValues 18 = .ok (.if_icmp .ge 70, 3) := by decide +kernel
theorem dX11_mixValues_21 : decode cX11_mixValues 21 = .ok (.aload_n 0, 1) := by decide +kernel
theorem dX11_mixValues_22 : decode cX11_mixValues 22 = .ok (.getfield 40, 3) := by decide +kernel
theorem dX11_mixValues_25 : decode cX11_mixValues 25 = .ok (.getfield 198, 3) := by decide +kernel
theorem dX11_mixValues_28 : decode cX11_mixValues 28 = .ok (.iload 6, 2) := by decide +kernel
theorem dX11_mixValues_30 : decode cX11_mixValues 30 = .ok (.invokevirtual 202, 3) := by decide +kernel
theorem dX11_mixValues_33 : decode cX11_mixValues 33 = .ok (.ifCond .eq 49, 3) := by decide +kernel
theorem dX11_mixValues_36 : decode cX11_mixValues 36 = .ok (.lload 4, 2) := by decide +kernel
theorem dX11_mixValues_38 : decode cX11_mixValues 38 = .ok (.iload 6, 2) := by decide +kernel
theorem dX11_mixValues_40 : decode cX11_mixValues 40 = .ok (.i2l, 1) := by decide +kernel
theorem dX11_mixValues_41 : decode cX11_mixValues 41 = .ok (.invokestatic 300, 3) := by decide +kernel
theorem dX11_mixValues_44 : decode cX11_mixValues 44 = .ok (.lstore 4, 2) := by decide +kernel
theorem dX11_mixValues_46 : decode cX11_mixValues 46 = .ok (.iconst 0, 1) := by decide +kernel
theorem dX11_mixValues_47 : decode cX11_mixValues 47 = .ok (.istore 7, 2) := by decide +kernel
theorem dX11_mixValues_49 : decode cX11_mixValues 49 = .ok (.iload 7, 2) := by decide +kernel
theorem dX11_mixValues_51 : decode cX11_mixValues 51 = .ok (.bipush 8, 2) := by decide +kernel
theorem dX11_mixValues_53 : decode cX11_mixValues 53 = .ok (.if_icmp .ge 29, 3) := by decide +kernel
theorem dX11_mixValues_56 : decode cX11_mixValues 56 = .ok (.lload 4, 2) := by decide +kernel
theorem dX11_mixValues_58 : decode cX11_mixValues 58 = .ok (.aload_n 3, 1) := by decide +kernel
theorem dX11_mixValues_59 : decode cX11_mixValues 59 = .ok (.aload_n 0, 1) := by decide +kernel
theorem dX11_mixValues_60 : decode cX11_mixValues 60 = .ok (.getfield 40, 3) := by decide +kernel
theorem dX11_mixValues_63 : decode cX11_mixValues 63 = .ok (.iload 6, 2) := by decide +kernel
theorem dX11_mixValues_65 : decode cX11_mixValues 65 = .ok (.iload 7, 2) := by decide +kernel
theorem dX11_mixValues_67 : decode cX11_mixValues 67 = .ok (.invokevirtual 209, 3) := by decide +kernel
theorem dX11_mixValues_70 : decode cX11_mixValues 70 = .ok (.i2l, 1) := by decide +kernel
theorem dX11_mixValues_71 : decode cX11_mixValues 71 = .ok (.invokestatic 300, 3) := by decide +kernel
theorem dX11_mixValues_74 : decode cX11_mixValues 74 = .ok (.lstore 4, 2) := by decide +kernel
theorem dX11_mixValues_76 : decode cX11_mixValues 76 = .ok (.iinc 7 1, 3) := by decide +kernel
theorem dX11_mixValues_79 : decode cX11_mixValues 79 = .ok (.goto (-30), 3) := by decide +kernel
theorem dX11_mixValues_82 : decode cX11_mixValues 82 = .ok (.iinc 6 1, 3) := by decide +kernel
theorem dX11_mixValues_85 : decode cX11_mixValues 85 = .ok (.goto (-79), 3) := by decide +kernel
theorem dX11_mixValues_88 : decode cX11_mixValues 88 = .ok (.lload 4, 2) := by decide +kernel
theorem dX11_mixValues_90 : decode cX11_mixValues 90 = .ok (.lreturn, 1) := by decide +kernel
theorem dX11_mixCalls_0 : decode cX11_mixCalls 0 = .ok (.lload_n 1, 1) := by decide +kernel
theorem dX11_mixCalls_1 : decode cX11_mixCalls 1 = .ok (.lstore 4, 2) := by decide +kernel
theorem dX11_mixCalls_3 : decode cX11_mixCalls 3 = .ok (.iconst 0, 1) := by decide +kernel
theorem dX11_mixCalls_4 : decode cX11_mixCalls 4 = .ok (.istore 6, 2) := by decide +kernel
theorem dX11_mixCalls_6 : decode cX11_mixCalls 6 = .ok (.iload 6, 2) := by decide +kernel
theorem dX11_mixCalls_8 : decode cX11_mixCalls 8 = .ok (.aload_n 0, 1) := by decide +kernel
theorem dX11_mixCalls_9 : decode cX11_mixCalls 9 = .ok (.getfield 40, 3) := by decide +kernel
theorem dX11_mixCalls_12 : decode cX11_mixCalls 12 = .ok (.getfield 198, 3) := by decide +kernel
theorem dX11_mixCalls_15 : decode cX11_mixCalls 15 = .ok (.getfield 212, 3) := by decide +kernel
theorem dX11_mixCalls_18 : decode cX11_mixCalls 18 = .ok (.if_icmp .ge 44, 3) := by decide +kernel
theorem dX11_mixCalls_21 : decode cX11_mixCalls 21 = .ok (.iconst 0, 1) := by decide +kernel
theorem dX11_mixCalls_22 : decode cX11_mixCalls 22 = .ok (.istore 7, 2) := by decide +kernel
theorem dX11_mixCalls_24 : decode cX11_mixCalls 24 = .ok (.iload 7, 2) := by decide +kernel
theorem dX11_mixCalls_26 : decode cX11_mixCalls 26 = .ok (.iconst 4, 1) := by decide +kernel
theorem dX11_mixCalls_27 : decode cX11_mixCalls 27 = .ok (.if_icmp .ge 29, 3) := by decide +kernel
theorem dX11_mixCalls_30 : decode cX11_mixCalls 30 = .ok (.lload 4, 2) := by decide +kernel
theorem dX11_mixCalls_32 : decode cX11_mixCalls 32 = .ok (.aload_n 3, 1) := by decide +kernel
theorem dX11_mixCalls_33 : decode cX11_mixCalls 33 = .ok (.aload_n 0, 1) := by decide +kernel
theorem dX11_mixCalls_34 : decode cX11_mixCalls 34 = .ok (.getfield 40, 3) := by decide +kernel
theorem dX11_mixCalls_37 : decode cX11_mixCalls 37 = .ok (.iload 6, 2) := by decide +kernel
theorem dX11_mixCalls_39 : decode cX11_mixCalls 39 = .ok (.iload 7, 2) := by decide +kernel
theorem dX11_mixCalls_41 : decode cX11_mixCalls 41 = .ok (.invokevirtual 217, 3) := by decide +kernel
theorem dX11_mixCalls_44 : decode cX11_mixCalls 44 = .ok (.i2l, 1) := by decide +kernel
theorem dX11_mixCalls_45 : decode cX11_mixCalls 45 = .ok (.invokestatic 300, 3) := by decide +kernel
theorem dX11_mixCalls_48 : decode cX11_mixCalls 48 = .ok (.lstore 4, 2) := by decide +kernel
theorem dX11_mixCalls_50 : decode cX11_mixCalls 50 = .ok (.iinc 7 1, 3) := by decide +kernel
theorem dX11_mixCalls_53 : decode cX11_mixCalls 53 = .ok (.goto (-29), 3) := by decide +kernel
theorem dX11_mixCalls_56 : decode cX11_mixCalls 56 = .ok (.iinc 6 1, 3) := by decide +kernel
theorem dX11_mixCalls_59 : decode cX11_mixCalls 59 = .ok (.goto (-53), 3) := by decide +kernel
theorem dX11_mixCalls_62 : decode cX11_mixCalls 62 = .ok (.lload 4, 2) := by decide +kernel
theorem dX11_mixCalls_64 : decode cX11_mixCalls 64 = .ok (.lreturn, 1) := by decide +kernel
theorem dX11_mixCode_0 : decode cX11_mixCode 0 = .ok (.lload_n 0, 1) := by decide +kernel
theorem dX11_mixCode_1 : decode cX11_mixCode 1 = .ok (.lstore_n 3, 1) := by decide +kernel
theorem dX11_mixCode_2 : decode cX11_mixCode 2 = .ok (.iconst 0, 1) := by decide +kernel
theorem dX11_mixCode_3 : decode cX11_mixCode 3 = .ok (.istore 5, 2) := by decide +kernel
theorem dX11_mixCode_5 : decode cX11_mixCode 5 = .ok (.iload 5, 2) := by decide +kernel
theorem dX11_mixCode_7 : decode cX11_mixCode 7 = .ok (.aload_n 2, 1) := by decide +kernel
theorem dX11_mixCode_8 : decode cX11_mixCode 8 = .ok (.getfield 229, 3) := by decide +kernel
theorem dX11_mixCode_11 : decode cX11_mixCode 11 = .ok (.getfield 233, 3) := by decide +kernel
theorem dX11_mixCode_14 : decode cX11_mixCode 14 = .ok (.if_icmp .ge 60, 3) := by decide +kernel
theorem dX11_mixCode_17 : decode cX11_mixCode 17 = .ok (.iconst 0, 1) := by decide +kernel
theorem dX11_mixCode_18 : decode cX11_mixCode 18 = .ok (.istore 6, 2) := by decide +kernel
theorem dX11_mixCode_20 : decode cX11_mixCode 20 = .ok (.iload 6, 2) := by decide +kernel
theorem dX11_mixCode_22 : decode cX11_mixCode 22 = .ok (.bipush 6, 2) := by decide +kernel
theorem dX11_mixCode_24 : decode cX11_mixCode 24 = .ok (.if_icmp .ge 26, 3) := by decide +kernel
theorem dX11_mixCode_27 : decode cX11_mixCode 27 = .ok (.lload_n 3, 1) := by decide +kernel
theorem dX11_mixCode_28 : decode cX11_mixCode 28 = .ok (.aload_n 2, 1) := by decide +kernel
theorem dX11_mixCode_29 : decode cX11_mixCode 29 = .ok (.getfield 229, 3) := by decide +kernel
theorem dX11_mixCode_32 : decode cX11_mixCode 32 = .ok (.iload 5, 2) := by decide +kernel
theorem dX11_mixCode_34 : decode cX11_mixCode 34 = .ok (.iload 6, 2) := by decide +kernel
theorem dX11_mixCode_36 : decode cX11_mixCode 36 = .ok (.invokevirtual 240, 3) := by decide +kernel
theorem dX11_mixCode_39 : decode cX11_mixCode 39 = .ok (.i2l, 1) := by decide +kernel
theorem dX11_mixCode_40 : decode cX11_mixCode 40 = .ok (.invokestatic 300, 3) := by decide +kernel
theorem dX11_mixCode_43 : decode cX11_mixCode 43 = .ok (.lstore_n 3, 1) := by decide +kernel
theorem dX11_mixCode_44 : decode cX11_mixCode 44 = .ok (.iinc 6 1, 3) := by decide +kernel
theorem dX11_mixCode_47 : decode cX11_mixCode 47 = .ok (.goto (-27), 3) := by decide +kernel
theorem dX11_mixCode_50 : decode cX11_mixCode 50 = .ok (.lload_n 3, 1) := by decide +kernel
theorem dX11_mixCode_51 : decode cX11_mixCode 51 = .ok (.aload_n 2, 1) := by decide +kernel
theorem dX11_mixCode_52 : decode cX11_mixCode 52 = .ok (.getfield 244, 3) := by decide +kernel
theorem dX11_mixCode_55 : decode cX11_mixCode 55 = .ok (.getfield 248, 3) := by decide +kernel
theorem dX11_mixCode_58 : decode cX11_mixCode 58 = .ok (.iload 5, 2) := by decide +kernel
theorem dX11_mixCode_60 : decode cX11_mixCode 60 = .ok (.invokestatic 102, 3) := by decide +kernel
theorem dX11_mixCode_63 : decode cX11_mixCode 63 = .ok (.i2l, 1) := by decide +kernel
theorem dX11_mixCode_64 : decode cX11_mixCode 64 = .ok (.invokestatic 300, 3) := by decide +kernel
theorem dX11_mixCode_67 : decode cX11_mixCode 67 = .ok (.lstore_n 3, 1) := by decide +kernel
theorem dX11_mixCode_68 : decode cX11_mixCode 68 = .ok (.iinc 5 1, 3) := by decide +kernel
theorem dX11_mixCode_71 : decode cX11_mixCode 71 = .ok (.goto (-66), 3) := by decide +kernel
theorem dX11_mixCode_74 : decode cX11_mixCode 74 = .ok (.lload_n 3, 1) := by decide +kernel
theorem dX11_mixCode_75 : decode cX11_mixCode 75 = .ok (.lreturn, 1) := by decide +kernel
theorem dX11_mix_0 : decode cX11_mix 0 = .ok (.lload_n 0, 1) := by decide +kernel
theorem dX11_mix_1 : decode cX11_mix 1 = .ok (.ldc2_w 351, 3) := by decide +kernel
theorem dX11_mix_4 : decode cX11_mix 4 = .ok (.lmul, 1) := by decide +kernel
theorem dX11_mix_5 : decode cX11_mix 5 = .ok (.lload_n 2, 1) := by decide +kernel
theorem dX11_mix_6 : decode cX11_mix 6 = .ok (.ladd, 1) := by decide +kernel
theorem dX11_mix_7 : decode cX11_mix 7 = .ok (.lreturn, 1) := by decide +kernel
theorem dX11_isMachine_0 : decode cX11_isMachine 0 = .ok (.iload_n 0, 1) := by decide +kernel
theorem dX11_isMachine_1 : decode cX11_isMachine 1 = .ok (.iconst 5, 1) := by decide +kernel
theorem dX11_isMachine_2 : decode cX11_isMachine 2 = .ok (.if_icmp .lt 13, 3) := by decide +kernel
theorem dX11_isMachine_5 : decode cX11_isMachine 5 = .ok (.iload_n 0, 1) := by decide +kernel
theorem dX11_isMachine_6 : decode cX11_isMachine 6 = .ok (.bipush 11, 2) := by decide +kernel
theorem dX11_isMachine_8 : decode cX11_isMachine 8 = .ok (.if_icmp .gt 7, 3) := by decide +kernel
theorem dX11_isMachine_11 : decode cX11_isMachine 11 = .ok (.iload_n 1, 1) := by decide +kernel
theorem dX11_isMachine_12 : decode cX11_isMachine 12 = .ok (.ifCond .ge 5, 3) := by decide +kernel
theorem dX11_isMachine_15 : decode cX11_isMachine 15 = .ok (.iconst 0, 1) := by decide +kernel
theorem dX11_isMachine_16 : decode cX11_isMachine 16 = .ok (.ireturn, 1) := by decide +kernel
theorem dX11_isMachine_17 : decode cX11_isMachine 17 = .ok (.iload_n 0, 1) := by decide +kernel
theorem dX11_isMachine_18 : decode cX11_isMachine 18 = .ok (.iconst 3, 1) := by decide +kernel
theorem dX11_isMachine_19 : decode cX11_isMachine 19 = .ok (.isub, 1) := by decide +kernel
theorem dX11_isMachine_20 : decode cX11_isMachine 20 = .ok (.invokestatic 332, 3) := by decide +kernel
theorem dX11_isMachine_23 : decode cX11_isMachine 23 = .ok (.iconst 2, 1) := by decide +kernel
theorem dX11_isMachine_24 : decode cX11_isMachine 24 = .ok (.invokestatic 332, 3) := by decide +kernel
theorem dX11_isMachine_27 : decode cX11_isMachine 27 = .ok (.isub, 1) := by decide +kernel
theorem dX11_isMachine_28 : decode cX11_isMachine 28 = .ok (.istore_n 2, 1) := by decide +kernel
theorem dX11_isMachine_29 : decode cX11_isMachine 29 = .ok (.iload_n 1, 1) := by decide +kernel
theorem dX11_isMachine_30 : decode cX11_isMachine 30 = .ok (.iload_n 2, 1) := by decide +kernel
theorem dX11_isMachine_31 : decode cX11_isMachine 31 = .ok (.iconst (-1), 1) := by decide +kernel
theorem dX11_isMachine_32 : decode cX11_isMachine 32 = .ok (.ixor, 1) := by decide +kernel
theorem dX11_isMachine_33 : decode cX11_isMachine 33 = .ok (.iand, 1) := by decide +kernel
theorem dX11_isMachine_34 : decode cX11_isMachine 34 = .ok (.ifCond .ne 7, 3) := by decide +kernel
theorem dX11_isMachine_37 : decode cX11_isMachine 37 = .ok (.iconst 1, 1) := by decide +kernel
theorem dX11_isMachine_38 : decode cX11_isMachine 38 = .ok (.goto 4, 3) := by decide +kernel
theorem dX11_isMachine_41 : decode cX11_isMachine 41 = .ok (.iconst 0, 1) := by decide +kernel
theorem dX11_isMachine_42 : decode cX11_isMachine 42 = .ok (.ireturn, 1) := by decide +kernel
theorem dX11_isBelow_0 : decode cX11_isBelow 0 = .ok (.iload_n 0, 1) := by decide +kernel
theorem dX11_isBelow_1 : decode cX11_isBelow 1 = .ok (.ifCond .lt 12, 3) := by decide +kernel
theorem dX11_isBelow_4 : decode cX11_isBelow 4 = .ok (.iload_n 0, 1) := by decide +kernel
theorem dX11_isBelow_5 : decode cX11_isBelow 5 = .ok (.iload_n 1, 1) := by decide +kernel
theorem dX11_isBelow_6 : decode cX11_isBelow 6 = .ok (.if_icmp .ge 7, 3) := by decide +kernel
theorem dX11_isBelow_9 : decode cX11_isBelow 9 = .ok (.iconst 1, 1) := by decide +kernel
theorem dX11_isBelow_10 : decode cX11_isBelow 10 = .ok (.goto 4, 3) := by decide +kernel
theorem dX11_isBelow_13 : decode cX11_isBelow 13 = .ok (.iconst 0, 1) := by decide +kernel
theorem dX11_isBelow_14 : decode cX11_isBelow 14 = .ok (.ireturn, 1) := by decide +kernel
theorem dX11_bit_0 : decode cX11_bit 0 = .ok (.iload_n 0, 1) := by decide +kernel
theorem dX11_bit_1 : decode cX11_bit 1 = .ok (.ifCond .lt 15, 3) := by decide +kernel
theorem dX11_bit_4 : decode cX11_bit 4 = .ok (.iload_n 0, 1) := by decide +kernel
theorem dX11_bit_5 : decode cX11_bit 5 = .ok (.bipush 32, 2) := by decide +kernel
theorem dX11_bit_7 : decode cX11_bit 7 = .ok (.if_icmp .ge 9, 3) := by decide +kernel
theorem dX11_bit_10 : decode cX11_bit 10 = .ok (.iconst 1, 1) := by decide +kernel
theorem dX11_bit_11 : decode cX11_bit 11 = .ok (.iload_n 0, 1) := by decide +kernel
theorem dX11_bit_12 : decode cX11_bit 12 = .ok (.ishl, 1) := by decide +kernel
theorem dX11_bit_13 : decode cX11_bit 13 = .ok (.goto 4, 3) := by decide +kernel
theorem dX11_bit_16 : decode cX11_bit 16 = .ok (.iconst 0, 1) := by decide +kernel
theorem dX11_bit_17 : decode cX11_bit 17 = .ok (.ireturn, 1) := by decide +kernel
theorem dX11_hasBit_0 : decode cX11_hasBit 0 = .ok (.iload_n 1, 1) := by decide +kernel
theorem dX11_hasBit_1 : decode cX11_hasBit 1 = .ok (.ifCond .lt 22, 3) := by decide +kernel
theorem dX11_hasBit_4 : decode cX11_hasBit 4 = .ok (.iload_n 1, 1) := by decide +kernel
theorem dX11_hasBit_5 : decode cX11_hasBit 5 = .ok (.bipush 32, 2) := by decide +kernel
theorem dX11_hasBit_7 : decode cX11_hasBit 7 = .ok (.if_icmp .ge 16, 3) := by decide +kernel
theorem dX11_hasBit_10 : decode cX11_hasBit 10 = .ok (.iload_n 0, 1) := by decide +kernel
theorem dX11_hasBit_11 : decode cX11_hasBit 11 = .ok (.iload_n 1, 1) := by decide +kernel
theorem dX11_hasBit_12 : decode cX11_hasBit 12 = .ok (.ishr, 1) := by decide +kernel
theorem dX11_hasBit_13 : decode cX11_hasBit 13 = .ok (.iconst 1, 1) := by decide +kernel
theorem dX11_hasBit_14 : decode cX11_hasBit 14 = .ok (.iand, 1) := by decide +kernel
theorem dX11_hasBit_15 : decode cX11_hasBit 15 = .ok (.iconst 1, 1) := by decide +kernel
theorem dX11_hasBit_16 : decode cX11_hasBit 16 = .ok (.if_icmp .ne 7, 3) := by decide +kernel
theorem dX11_hasBit_19 : decode cX11_hasBit 19 = .ok (.iconst 1, 1) := by decide +kernel
theorem dX11_hasBit_20 : decode cX11_hasBit 20 = .ok (.goto 4, 3) := by decide +kernel
theorem dX11_hasBit_23 : decode cX11_hasBit 23 = .ok (.iconst 0, 1) := by decide +kernel
theorem dX11_hasBit_24 : decode cX11_hasBit 24 = .ok (.ireturn, 1) := by decide +kernel
theorem dX11_at_0 : decode cX11_at 0 = .ok (.iload_n 1, 1) := by decide +kernel
theorem dX11_at_1 : decode cX11_at 1 = .ok (.ifCond .lt 15, 3) := by decide +kernel
theorem dX11_at_4 : decode cX11_at 4 = .ok (.iload_n 1, 1) := by decide +kernel
theorem dX11_at_5 : decode cX11_at 5 = .ok (.aload_n 0, 1) := by decide +kernel
theorem dX11_at_6 : decode cX11_at 6 = .ok (.arraylength, 1) := by decide +kernel
theorem dX11_at_7 : decode cX11_at 7 = .ok (.if_icmp .ge 9, 3) := by decide +kernel
theorem dX11_at_10 : decode cX11_at 10 = .ok (.aload_n 0, 1) := by decide +kernel
theorem dX11_at_11 : decode cX11_at 11 = .ok (.iload_n 1, 1) := by decide +kernel
theorem dX11_at_12 : decode cX11_at 12 = .ok (.iaload, 1) := by decide +kernel
theorem dX11_at_13 : decode cX11_at 13 = .ok (.goto 4, 3) := by decide +kernel
theorem dX11_at_16 : decode cX11_at 16 = .ok (.iconst (-1), 1) := by decide +kernel
theorem dX11_at_17 : decode cX11_at 17 = .ok (.ireturn, 1) := by decide +kernel
theorem dX11_put_0 : decode cX11_put 0 = .ok (.iload_n 1, 1) := by decide +kernel
theorem dX11_put_1 : decode cX11_put 1 = .ok (.ifCond .lt 13, 3) := by decide +kernel
theorem dX11_put_4 : decode cX11_put 4 = .ok (.iload_n 1, 1) := by decide +kernel
theorem dX11_put_5 : decode cX11_put 5 = .ok (.aload_n 0, 1) := by decide +kernel
theorem dX11_put_6 : decode cX11_put 6 = .ok (.arraylength, 1) := by decide +kernel
theorem dX11_put_7 : decode cX11_put 7 = .ok (.if_icmp .ge 7, 3) := by decide +kernel
theorem dX11_put_10 : decode cX11_put 10 = .ok (.aload_n 0, 1) := by decide +kernel
theorem dX11_put_11 : decode cX11_put 11 = .ok (.iload_n 1, 1) := by decide +kernel
theorem dX11_put_12 : decode cX11_put 12 = .ok (.iload_n 2, 1) := by decide +kernel
theorem dX11_put_13 : decode cX11_put 13 = .ok (.iastore, 1) := by decide +kernel
theorem dX11_put_14 : decode cX11_put 14 = .ok (.return_, 1) := by decide +kernel
theorem dX11_fill_0 : decode cX11_fill 0 = .ok (.iconst 0, 1) := by decide +kernel
theorem dX11_fill_1 : decode cX11_fill 1 = .ok (.istore_n 2, 1) := by decide +kernel
theorem dX11_fill_2 : decode cX11_fill 2 = .ok (.iload_n 2, 1) := by decide +kernel
theorem dX11_fill_3 : decode cX11_fill 3 = .ok (.aload_n 0, 1) := by decide +kernel
theorem dX11_fill_4 : decode cX11_fill 4 = .ok (.arraylength, 1) := by decide +kernel
theorem dX11_fill_5 : decode cX11_fill 5 = .ok (.if_icmp .ge 13, 3) := by decide +kernel
theorem dX11_fill_8 : decode cX11_fill 8 = .ok (.aload_n 0, 1) := by decide +kernel
theorem dX11_fill_9 : decode cX11_fill 9 = .ok (.iload_n 2, 1) := by decide +kernel
theorem dX11_fill_10 : decode cX11_fill 10 = .ok (.iload_n 1, 1) := by decide +kernel
theorem dX11_fill_11 : decode cX11_fill 11 = .ok (.iastore, 1) := by decide +kernel
theorem dX11_fill_12 : decode cX11_fill 12 = .ok (.iinc 2 1, 3) := by decide +kernel
theorem dX11_fill_15 : decode cX11_fill 15 = .ok (.goto (-13), 3) := by decide +kernel
theorem dX11_fill_18 : decode cX11_fill 18 = .ok (.return_, 1) := by decide +kernel
theorem dX12_init_0 : decode cX12_init 0 = .ok (.aload_n 0, 1) := by decide +kernel
theorem dX12_init_1 : decode cX12_init 1 = .ok (.invokespecial 1, 3) := by decide +kernel
theorem dX12_init_4 : decode cX12_init 4 = .ok (.aload_n 0, 1) := by decide +kernel
theorem dX12_init_5 : decode cX12_init 5 = .ok (.iconst 0, 1) := by decide +kernel
theorem dX12_init_6 : decode cX12_init 6 = .ok (.anewarray 7, 3) := by decide +kernel
theorem dX12_init_9 : decode cX12_init 9 = .ok (.putfield 9, 3) := by decide +kernel
theorem dX12_init_12 : decode cX12_init 12 = .ok (.aload_n 0, 1) := by decide +kernel
theorem dX12_init_13 : decode cX12_init 13 = .ok (.iconst 0, 1) := by decide +kernel
theorem dX12_init_14 : decode cX12_init 14 = .ok (.anewarray 7, 3) := by decide +kernel
theorem dX12_init_17 : decode cX12_init 17 = .ok (.putfield 15, 3) := by decide +kernel
theorem dX12_init_20 : decode cX12_init 20 = .ok (.aload_n 0, 1) := by decide +kernel
theorem dX12_init_21 : decode cX12_init 21 = .ok (.iconst 4, 1) := by decide +kernel
theorem dX12_init_22 : decode cX12_init 22 = .ok (.newarray .int, 2) := by decide +kernel
theorem dX12_init_24 : decode cX12_init 24 = .ok (.dup, 1) := by decide +kernel
theorem dX12_init_25 : decode cX12_init 25 = .ok (.iconst 0, 1) := by decide +kernel
theorem dX12_init_26 : decode cX12_init 26 = .ok (.iconst 1, 1) := by decide +kernel
theorem dX12_init_27 : decode cX12_init 27 = .ok (.iastore, 1) := by decide +kernel
theorem dX12_init_28 : decode cX12_init 28 = .ok (.dup, 1) := by decide +kernel
theorem dX12_init_29 : decode cX12_init 29 = .ok (.iconst 1, 1) := by decide +kernel
theorem dX12_init_30 : decode cX12_init 30 = .ok (.iconst 1, 1) := by decide +kernel
theorem dX12_init_31 : decode cX12_init 31 = .ok (.iastore, 1) := by decide +kernel
theorem dX12_init_32 : decode cX12_init 32 = .ok (.dup, 1) := by decide +kernel
theorem dX12_init_33 : decode cX12_init 33 = .ok (.iconst 2, 1) := by decide +kernel
theorem dX12_init_34 : decode cX12_init 34 = .ok (.iconst 1, 1) := by decide +kernel
theorem dX12_init_35 : decode cX12_init 35 = .ok (.iastore, 1) := by decide +kernel
theorem dX12_init_36 : decode cX12_init 36 = .ok (.dup, 1) := by decide +kernel
theorem dX12_init_37 : decode cX12_init 37 = .ok (.iconst 3, 1) := by decide +kernel
theorem dX12_init_38 : decode cX12_init 38 = .ok (.iconst 1, 1) := by decide +kernel
theorem dX12_init_39 : decode cX12_init 39 = .ok (.iastore, 1) := by decide +kernel
theorem dX12_init_40 : decode cX12_init 40 = .ok (.putfield 18, 3) := by decide +kernel
theorem dX12_init_43 : decode cX12_init 43 = .ok (.aload_n 0, 1) := by decide +kernel
theorem dX12_init_44 : decode cX12_init 44 = .ok (.bipush 8, 2) := by decide +kernel
theorem dX12_init_46 : decode cX12_init 46 = .ok (.newarray .int, 2) := by decide +kernel
theorem dX12_init_48 : decode cX12_init 48 = .ok (.dup, 1) := by decide +kernel
theorem dX12_init_49 : decode cX12_init 49 = .ok (.iconst 0, 1) := by decide +kernel
theorem dX12_init_50 : decode cX12_init 50 = .ok (.iconst 1, 1) := by decide +kernel
theorem dX12_init_51 : decode cX12_init 51 = .ok (.iastore, 1) := by decide +kernel
theorem dX12_init_52 : decode cX12_init 52 = .ok (.dup, 1) := by decide +kernel
theorem dX12_init_53 : decode cX12_init 53 = .ok (.iconst 1, 1) := by decide +kernel
theorem dX12_init_54 : decode cX12_init 54 = .ok (.iconst 1, 1) := by decide +kernel
theorem dX12_init_55 : decode cX12_init 55 = .ok (.iastore, 1) := by decide +kernel
theorem dX12_init_56 : decode cX12_init 56 = .ok (.dup, 1) := by decide +kernel
theorem dX12_init_57 : decode cX12_init 57 = .ok (.iconst 2, 1) := by decide +kernel
theorem dX12_init_58 : decode cX12_init 58 = .ok (.iconst 1, 1) := by decide +kernel
theorem dX12_init_59 : decode cX12_init 59 = .ok (.iastore, 1) := by decide +kernel
theorem dX12_init_60 : decode cX12_init 60 = .ok (.dup, 1) := by decide +kernel
theorem dX12_init_61 : decode cX12_init 61 = .ok (.iconst 3, 1) := by decide +kernel
theorem dX12_init_62 : decode cX12_init 62 = .ok (.iconst 3, 1) := by decide +kernel
theorem dX12_init_63 : decode cX12_init 63 = .ok (.iastore, 1) := by decide +kernel
theorem dX12_init_64 : decode cX12_init 64 = .ok (.dup, 1) := by decide +kernel
theorem dX12_init_65 : decode cX12_init 65 = .ok (.iconst 4, 1) := by decide +kernel
theorem dX12_init_66 : decode cX12_init 66 = .ok (.iconst 3, 1) := by decide +kernel
theorem dX12_init_67 : decode cX12_init 67 = .ok (.iastore, 1) := by decide +kernel
theorem dX12_init_68 : decode cX12_init 68 = .ok (.dup, 1) := by decide +kernel
theorem dX12_init_69 : decode cX12_init 69 = .ok (.iconst 5, 1) := by decide +kernel
theorem dX12_init_70 : decode cX12_init 70 = .ok (.iconst 2, 1) := by decide +kernel
theorem dX12_init_71 : decode cX12_init 71 = .ok (.iastore, 1) := by decide +kernel
theorem dX12_init_72 : decode cX12_init 72 = .ok (.dup, 1) := by decide +kernel
theorem dX12_init_73 : decode cX12_init 73 = .ok (.bipush 6, 2) := by decide +kernel
theorem dX12_init_75 : decode cX12_init 75 = .ok (.iconst 1, 1) := by decide +kernel
theorem dX12_init_76 : decode cX12_init 76 = .ok (.iastore, 1) := by decide +kernel
theorem dX12_init_77 : decode cX12_init 77 = .ok (.dup, 1) := by decide +kernel
theorem dX12_init_78 : decode cX12_init 78 = .ok (.bipush 7, 2) := by decide +kernel
theorem dX12_init_80 : decode cX12_init 80 = .ok (.iconst 5, 1) := by decide +kernel
theorem dX12_init_81 : decode cX12_init 81 = .ok (.iastore, 1) := by decide +kernel
theorem dX12_init_82 : decode cX12_init 82 = .ok (.putfield 21, 3) := by decide +kernel
theorem dX12_init_85 : decode cX12_init 85 = .ok (.aload_n 0, 1) := by decide +kernel
theorem dX12_init_86 : decode cX12_init 86 = .ok (.bipush 8, 2) := by decide +kernel
theorem dX12_init_88 : decode cX12_init 88 = .ok (.putfield 24, 3) := by decide +kernel
theorem dX12_init_91 : decode cX12_init 91 = .ok (.aload_n 0, 1) := by decide +kernel
theorem dX12_init_92 : decode cX12_init 92 = .ok (.bipush 28, 2) := by decide +kernel
theorem dX12_init_94 : decode cX12_init 94 = .ok (.putfield 28, 3) := by decide +kernel
theorem dX12_init_97 : decode cX12_init 97 = .ok (.aload_n 0, 1) := by decide +kernel
theorem dX12_init_98 : decode cX12_init 98 = .ok (.bipush 15, 2) := by decide +kernel
theorem dX12_init_100 : decode cX12_init 100 = .ok (.putfield 31, 3) := by decide +kernel
theorem dX12_init_103 : decode cX12_init 103 = .ok (.aload_n 0, 1) := by decide +kernel
theorem dX12_init_104 : decode cX12_init 104 = .ok (.iconst 1, 1) := by decide +kernel
theorem dX12_init_105 : decode cX12_init 105 = .ok (.putfield 34, 3) := by decide +kernel
theorem dX12_init_108 : decode cX12_init 108 = .ok (.aload_n 0, 1) := by decide +kernel
theorem dX12_init_109 : decode cX12_init 109 = .ok (.iconst 1, 1) := by decide +kernel
theorem dX12_init_110 : decode cX12_init 110 = .ok (.putfield 38, 3) := by decide +kernel
theorem dX12_init_113 : decode cX12_init 113 = .ok (.return_, 1) := by decide +kernel
theorem dX12_with_0 : decode cX12_with 0 = .ok (.aload_n 0, 1) := by decide +kernel
theorem dX12_with_1 : decode cX12_with 1 = .ok (.arraylength, 1) := by decide +kernel
theorem dX12_with_2 : decode cX12_with 2 = .ok (.iconst 1, 1) := by decide +kernel
theorem dX12_with_3 : decode cX12_with 3 = .ok (.iadd, 1) := by decide +kernel
theorem dX12_with_4 : decode cX12_with 4 = .ok (.anewarray 7, 3) := by decide +kernel
theorem dX12_with_7 : decode cX12_with 7 = .ok (.astore_n 2, 1) := by decide +kernel
theorem dX12_with_8 : decode cX12_with 8 = .ok (.aload_n 0, 1) := by decide +kernel
theorem dX12_with_9 : decode cX12_with 9 = .ok (.iconst 0, 1) := by decide +kernel
theorem dX12_with_10 : decode cX12_with 10 = .ok (.aload_n 2, 1) := by decide +kernel
theorem dX12_with_11 : decode cX12_with 11 = .ok (.iconst 0, 1) := by decide +kernel
theorem dX12_with_12 : decode cX12_with 12 = .ok (.aload_n 0, 1) := by decide +kernel
theorem dX12_with_13 : decode cX12_with 13 = .ok (.arraylength, 1) := by decide +kernel
theorem dX12_with_14 : decode cX12_with 14 = .ok (.invokestatic 41, 3) := by decide +kernel
theorem dX12_with_17 : decode cX12_with 17 = .ok (.aload_n 2, 1) := by decide +kernel
theorem dX12_with_18 : decode cX12_with 18 = .ok (.aload_n 0, 1) := by decide +kernel
theorem dX12_with_19 : decode cX12_with 19 = .ok (.arraylength, 1) := by decide +kernel
theorem dX12_with_20 : decode cX12_with 20 = .ok (.aload_n 1, 1) := by decide +kernel
theorem dX12_with_21 : decode cX12_with 21 = .ok (.aastore, 1) := by decide +kernel
theorem dX12_with_22 : decode cX12_with 22 = .ok (.aload_n 2, 1) := by decide +kernel
theorem dX12_with_23 : decode cX12_with 23 = .ok (.areturn, 1) := by decide +kernel
theorem dX12_value_0 : decode cX12_value 0 = .ok (.aload_n 0, 1) := by decide +kernel
theorem dX12_value_1 : decode cX12_value 1 = .ok (.getfield 9, 3) := by decide +kernel
theorem dX12_value_4 : decode cX12_value 4 = .ok (.iload_n 1, 1) := by decide +kernel
theorem dX12_value_5 : decode cX12_value 5 = .ok (.aaload, 1) := by decide +kernel
theorem dX12_value_6 : decode cX12_value 6 = .ok (.astore_n 3, 1) := by decide +kernel
theorem dX12_value_7 : decode cX12_value 7 = .ok (.aload_n 3, 1) := by decide +kernel
theorem dX12_value_8 : decode cX12_value 8 = .ok (.iconst 0, 1) := by decide +kernel
theorem dX12_value_9 : decode cX12_value 9 = .ok (.iaload, 1) := by decide +kernel
theorem dX12_value_10 : decode cX12_value 10 = .ok (.iconst 2, 1) := by decide +kernel
theorem dX12_value_11 : decode cX12_value 11 = .ok (.if_icmp .ge 21, 3) := by decide +kernel
theorem dX12_value_14 : decode cX12_value 14 = .ok (.aload_n 3, 1) := by decide +kernel
theorem dX12_value_15 : decode cX12_value 15 = .ok (.iconst 0, 1) := by decide +kernel
theorem dX12_value_16 : decode cX12_value 16 = .ok (.iaload, 1) := by decide +kernel
theorem dX12_value_17 : decode cX12_value 17 = .ok (.ifCond .ne 9, 3) := by decide +kernel
theorem dX12_value_20 : decode cX12_value 20 = .ok (.aload_n 3, 1) := by decide +kernel
theorem dX12_value_21 : decode cX12_value 21 = .ok (.iconst 1, 1) := by decide +kernel
theorem dX12_value_22 : decode cX12_value 22 = .ok (.iaload, 1) := by decide +kernel
theorem dX12_value_23 : decode cX12_value 23 = .ok (.goto 8, 3) := by decide +kernel
theorem dX12_value_26 : decode cX12_value 26 = .ok (.aload_n 2, 1) := by decide +kernel
theorem dX12_value_27 : decode cX12_value 27 = .ok (.aload_n 3, 1) := by decide +kernel
theorem dX12_value_28 : decode cX12_value 28 = .ok (.iconst 1, 1) := by decide +kernel
theorem dX12_value_29 : decode cX12_value 29 = .ok (.iaload, 1) := by decide +kernel
theorem dX12_value_30 : decode cX12_value 30 = .ok (.iaload, 1) := by decide +kernel
theorem dX12_value_31 : decode cX12_value 31 = .ok (.ireturn, 1) := by decide +kernel
theorem dX12_value_32 : decode cX12_value 32 = .ok (.aload_n 0, 1) := by decide +kernel
theorem dX12_value_33 : decode cX12_value 33 = .ok (.aload_n 3, 1) := by decide +kernel
theorem dX12_value_34 : decode cX12_value 34 = .ok (.iconst 1, 1) := by decide +kernel
theorem dX12_value_35 : decode cX12_value 35 = .ok (.iaload, 1) := by decide +kernel
theorem dX12_value_36 : decode cX12_value 36 = .ok (.aload_n 2, 1) := by decide +kernel
theorem dX12_value_37 : decode cX12_value 37 = .ok (.invokevirtual 47, 3) := by decide +kernel
theorem dX12_value_40 : decode cX12_value 40 = .ok (.istore 4, 2) := by decide +kernel
theorem dX12_value_42 : decode cX12_value 42 = .ok (.aload_n 0, 1) := by decide +kernel
theorem dX12_value_43 : decode cX12_value 43 = .ok (.aload_n 3, 1) := by decide +kernel
theorem dX12_value_44 : decode cX12_value 44 = .ok (.iconst 2, 1) := by decide +kernel
theorem dX12_value_45 : decode cX12_value 45 = .ok (.iaload, 1) := by decide +kernel
theorem dX12_value_46 : decode cX12_value 46 = .ok (.aload_n 2, 1) := by decide +kernel
theorem dX12_value_47 : decode cX12_value 47 = .ok (.invokevirtual 47, 3) := by decide +kernel
theorem dX12_value_50 : decode cX12_value 50 = .ok (.istore 5, 2) := by decide +kernel
theorem dX12_value_52 : decode cX12_value 52 = .ok (.aload_n 3, 1) := by decide +kernel
theorem dX12_value_53 : decode cX12_value 53 = .ok (.iconst 0, 1) := by decide +kernel
theorem dX12_value_54 : decode cX12_value 54 = .ok (.iaload, 1) := by decide +kernel
theorem dX12_value_55 : decode cX12_value 55 = .ok (.iconst 2, 1) := by decide +kernel
theorem dX12_value_56 : decode cX12_value 56 = .ok (.if_icmp .ne 11, 3) := by decide +kernel
theorem dX12_value_59 : decode cX12_value 59 = .ok (.iload 4, 2) := by decide +kernel
theorem dX12_value_61 : decode cX12_value 61 = .ok (.iload 5, 2) := by decide +kernel
theorem dX12_value_63 : decode cX12_value 63 = .ok (.iadd, 1) := by decide +kernel
theorem dX12_value_64 : decode cX12_value 64 = .ok (.goto 44, 3) := by decide +kernel
theorem dX12_value_67 : decode cX12_value 67 = .ok (.aload_n 3, 1) := by decide +kernel
theorem dX12_value_68 : decode cX12_value 68 = .ok (.iconst 0, 1) := by decide +kernel
theorem dX12_value_69 : decode cX12_value 69 = .ok (.iaload, 1) := by decide +kernel
theorem dX12_value_70 : decode cX12_value 70 = .ok (.iconst 3, 1) := by decide +kernel
theorem dX12_value_71 : decode cX12_value 71 = .ok (.if_icmp .ne 11, 3) := by decide +kernel
theorem dX12_value_74 : decode cX12_value 74 = .ok (.iload 4, 2) := by decide +kernel
theorem dX12_value_76 : decode cX12_value 76 = .ok (.iload 5, 2) := by decide +kernel
theorem dX12_value_78 : decode cX12_value 78 = .ok (.isub, 1) := by decide +kernel
theorem dX12_value_79 : decode cX12_value 79 = .ok (.goto 29, 3) := by decide +kernel
theorem dX12_value_82 : decode cX12_value 82 = .ok (.aload_n 3, 1) := by decide +kernel
theorem dX12_value_83 : decode cX12_value 83 = .ok (.iconst 0, 1) := by decide +kernel
theorem dX12_value_84 : decode cX12_value 84 = .ok (.iaload, 1) := by decide +kernel
theorem dX12_value_85 : decode cX12_value 85 = .ok (.iconst 4, 1) := by decide +kernel
theorem dX12_value_86 : decode cX12_value 86 = .ok (.if_icmp .ne 11, 3) := by decide +kernel
theorem dX12_value_89 : decode cX12_value 89 = .ok (.iload 4, 2) := by decide +kernel
theorem dX12_value_91 : decode cX12_value 91 = .ok (.iload 5, 2) := by decide +kernel
theorem dX12_value_93 : decode cX12_value 93 = .ok (.imul, 1) := by decide +kernel
theorem dX12_value_94 : decode cX12_value 94 = .ok (.goto 14, 3) := by decide +kernel
theorem dX12_value_97 : decode cX12_value 97 = .ok (.iconst 1, 1) := by decide +kernel
theorem dX12_value_98 : decode cX12_value 98 = .ok (.iconst 2, 1) := by decide +kernel
theorem dX12_value_99 : decode cX12_value 99 = .ok (.iload 5, 2) := by decide +kernel
theorem dX12_value_101 : decode cX12_value 101 = .ok (.imul, 1) := by decide +kernel
theorem dX12_value_102 : decode cX12_value 102 = .ok (.iadd, 1) := by decide +kernel
theorem dX12_value_103 : decode cX12_value 103 = .ok (.iconst 3, 1) := by decide +kernel
theorem dX12_value_104 : decode cX12_value 104 = .ok (.iload 4, 2) := by decide +kernel
theorem dX12_value_106 : decode cX12_value 106 = .ok (.imul, 1) := by decide +kernel
theorem dX12_value_107 : decode cX12_value 107 = .ok (.iadd, 1) := by decide +kernel
theorem dX12_value_108 : decode cX12_value 108 = .ok (.ireturn, 1) := by decide +kernel
theorem dX12_meant_0 : decode cX12_meant 0 = .ok (.bipush 8, 2) := by decide +kernel
theorem dX12_meant_2 : decode cX12_meant 2 = .ok (.newarray .int, 2) := by decide +kernel
theorem dX12_meant_4 : decode cX12_meant 4 = .ok (.astore_n 1, 1) := by decide +kernel
theorem dX12_meant_5 : decode cX12_meant 5 = .ok (.iconst 0, 1) := by decide +kernel
theorem dX12_meant_6 : decode cX12_meant 6 = .ok (.istore_n 2, 1) := by decide +kernel
theorem dX12_meant_7 : decode cX12_meant 7 = .ok (.iload_n 2, 1) := by decide +kernel
theorem dX12_meant_8 : decode cX12_meant 8 = .ok (.iconst 4, 1) := by decide +kernel
theorem dX12_meant_9 : decode cX12_meant 9 = .ok (.if_icmp .ge 84, 3) := by decide +kernel
theorem dX12_meant_12 : decode cX12_meant 12 = .ok (.iconst 0, 1) := by decide +kernel
theorem dX12_meant_13 : decode cX12_meant 13 = .ok (.istore_n 3, 1) := by decide +kernel
theorem dX12_meant_14 : decode cX12_meant 14 = .ok (.iload_n 3, 1) := by decide +kernel
theorem dX12_meant_15 : decode cX12_meant 15 = .ok (.aload_n 0, 1) := by decide +kernel
theorem dX12_meant_16 : decode cX12_meant 16 = .ok (.getfield 18, 3) := by decide +kernel
theorem dX12_meant_19 : decode cX12_meant 19 = .ok (.iload_n 2, 1) := by decide +kernel
theorem dX12_meant_20 : decode cX12_meant 20 = .ok (.iaload, 1) := by decide +kernel
theorem dX12_meant_21 : decode cX12_meant 21 = .ok (.if_icmp .ge 66, 3) := by decide +kernel
theorem dX12_meant_24 : decode cX12_meant 24 = .ok (.aload_n 0, 1) := by decide +kernel
theorem dX12_meant_25 : decode cX12_meant 25 = .ok (.getfield 15, 3) := by decide +kernel
theorem dX12_meant_28 : decode cX12_meant 28 = .ok (.astore 4, 2) := by decide +kernel
theorem dX12_meant_30 : decode cX12_meant 30 = .ok (.aload 4, 2) := by decide +kernel
theorem dX12_meant_32 : decode cX12_meant 32 = .ok (.arraylength, 1) := by decide +kernel
theorem dX12_meant_33 : decode cX12_meant 33 = .ok (.istore 5, 2) := by decide +kernel
theorem dX12_meant_35 : decode cX12_meant 35 = .ok (.iconst 0, 1) := by decide +kernel
theorem dX12_meant_36 : decode cX12_meant 36 = .ok (.istore 6, 2) := by decide +kernel
theorem dX12_meant_38 : decode cX12_meant 38 = .ok (.iload 6, 2) := by decide +kernel
theorem dX12_meant_40 : decode cX12_meant 40 = .ok (.iload 5, 2) := by decide +kernel
theorem dX12_meant_42 : decode cX12_meant 42 = .ok (.if_icmp .ge 39, 3) := by decide +kernel
theorem dX12_meant_45 : decode cX12_meant 45 = .ok (.aload 4, 2) := by decide +kernel
theorem dX12_meant_47 : decode cX12_meant 47 = .ok (.iload 6, 2) := by decide +kernel
theorem dX12_meant_49 : decode cX12_meant 49 = .ok (.aaload, 1) := by decide +kernel
theorem dX12_meant_50 : decode cX12_meant 50 = .ok (.astore 7, 2) := by decide +kernel
theorem dX12_meant_52 : decode cX12_meant 52 = .ok (.aload 7, 2) := by decide +kernel
theorem dX12_meant_54 : decode cX12_meant 54 = .ok (.iconst 0, 1) := by decide +kernel
theorem dX12_meant_55 : decode cX12_meant 55 = .ok (.iaload, 1) := by decide +kernel
theorem dX12_meant_56 : decode cX12_meant 56 = .ok (.iload_n 2, 1) := by decide +kernel
theorem dX12_meant_57 : decode cX12_meant 57 = .ok (.if_icmp .ne 18, 3) := by decide +kernel
theorem dX12_meant_60 : decode cX12_meant 60 = .ok (.aload_n 1, 1) := by decide +kernel
theorem dX12_meant_61 : decode cX12_meant 61 = .ok (.aload 7, 2) := by decide +kernel
theorem dX12_meant_63 : decode cX12_meant 63 = .ok (.iconst 1, 1) := by decide +kernel
theorem dX12_meant_64 : decode cX12_meant 64 = .ok (.iaload, 1) := by decide +kernel
theorem dX12_meant_65 : decode cX12_meant 65 = .ok (.aload_n 0, 1) := by decide +kernel
theorem dX12_meant_66 : decode cX12_meant 66 = .ok (.aload 7, 2) := by decide +kernel
theorem dX12_meant_68 : decode cX12_meant 68 = .ok (.iconst 2, 1) := by decide +kernel
theorem dX12_meant_69 : decode cX12_meant 69 = .ok (.iaload, 1) := by decide +kernel
theorem dX12_meant_70 : decode cX12_meant 70 = .ok (.aload_n 1, 1) := by decide +kernel
theorem dX12_meant_71 : decode cX12_meant 71 = .ok (.invokevirtual 47, 3) := by decide +kernel
theorem dX12_meant_74 : decode cX12_meant 74 = .ok (.iastore, 1) := by decide +kernel
theorem dX12_meant_75 : decode cX12_meant 75 = .ok (.iinc 6 1, 3) := by decide +kernel
theorem dX12_meant_78 : decode cX12_meant 78 = .ok (.goto (-40), 3) := by decide +kernel
theorem dX12_meant_81 : decode cX12_meant 81 = .ok (.iinc 3 1, 3) := by decide +kernel
theorem dX12_meant_84 : decode cX12_meant 84 = .ok (.goto (-70), 3) := by decide +kernel
theorem dX12_meant_87 : decode cX12_meant 87 = .ok (.iinc 2 1, 3) := by decide +kernel
theorem dX12_meant_90 : decode cX12_meant 90 = .ok (.goto (-83), 3) := by decide +kernel
theorem dX12_meant_93 : decode cX12_meant 93 = .ok (.aload_n 1, 1) := by decide +kernel
theorem dX12_meant_94 : decode cX12_meant 94 = .ok (.areturn, 1) := by decide +kernel
theorem dJ6_bitCount_0f7a4_0 : decode cJ6_bitCount_0f7a4 0 = .ok (.iload_n 0, 1) := by decide +kernel
theorem dJ6_bitCount_0f7a4_1 : decode cJ6_bitCount_0f7a4 1 = .ok (.iload_n 0, 1) := by decide +kernel
theorem dJ6_bitCount_0f7a4_2 : decode cJ6_bitCount_0f7a4 2 = .ok (.iconst 1, 1) := by decide +kernel
theorem dJ6_bitCount_0f7a4_3 : decode cJ6_bitCount_0f7a4 3 = .ok (.iushr, 1) := by decide +kernel
theorem dJ6_bitCount_0f7a4_4 : decode cJ6_bitCount_0f7a4 4 = .ok (.ldc_w 265, 3) := by decide +kernel
theorem dJ6_bitCount_0f7a4_7 : decode cJ6_bitCount_0f7a4 7 = .ok (.iand, 1) := by decide +kernel
theorem dJ6_bitCount_0f7a4_8 : decode cJ6_bitCount_0f7a4 8 = .ok (.isub, 1) := by decide +kernel
theorem dJ6_bitCount_0f7a4_9 : decode cJ6_bitCount_0f7a4 9 = .ok (.istore_n 0, 1) := by decide +kernel
theorem dJ6_bitCount_0f7a4_10 : decode cJ6_bitCount_0f7a4 10 = .ok (.iload_n 0, 1) := by decide +kernel
theorem dJ6_bitCount_0f7a4_11 : decode cJ6_bitCount_0f7a4 11 = .ok (.ldc_w 266, 3) := by decide +kernel
theorem dJ6_bitCount_0f7a4_14 : decode cJ6_bitCount_0f7a4 14 = .ok (.iand, 1) := by decide +kernel
theorem dJ6_bitCount_0f7a4_15 : decode cJ6_bitCount_0f7a4 15 = .ok (.iload_n 0, 1) := by decide +kernel
theorem dJ6_bitCount_0f7a4_16 : decode cJ6_bitCount_0f7a4 16 = .ok (.iconst 2, 1) := by decide +kernel
theorem dJ6_bitCount_0f7a4_17 : decode cJ6_bitCount_0f7a4 17 = .ok (.iushr, 1) := by decide +kernel
theorem dJ6_bitCount_0f7a4_18 : decode cJ6_bitCount_0f7a4 18 = .ok (.ldc_w 266, 3) := by decide +kernel
theorem dJ6_bitCount_0f7a4_21 : decode cJ6_bitCount_0f7a4 21 = .ok (.iand, 1) := by decide +kernel
theorem dJ6_bitCount_0f7a4_22 : decode cJ6_bitCount_0f7a4 22 = .ok (.iadd, 1) := by decide +kernel
theorem dJ6_bitCount_0f7a4_23 : decode cJ6_bitCount_0f7a4 23 = .ok (.istore_n 0, 1) := by decide +kernel
theorem dJ6_bitCount_0f7a4_24 : decode cJ6_bitCount_0f7a4 24 = .ok (.iload_n 0, 1) := by decide +kernel
theorem dJ6_bitCount_0f7a4_25 : decode cJ6_bitCount_0f7a4 25 = .ok (.iload_n 0, 1) := by decide +kernel
theorem dJ6_bitCount_0f7a4_26 : decode cJ6_bitCount_0f7a4 26 = .ok (.iconst 4, 1) := by decide +kernel
theorem dJ6_bitCount_0f7a4_27 : decode cJ6_bitCount_0f7a4 27 = .ok (.iushr, 1) := by decide +kernel
theorem dJ6_bitCount_0f7a4_28 : decode cJ6_bitCount_0f7a4 28 = .ok (.iadd, 1) := by decide +kernel
theorem dJ6_bitCount_0f7a4_29 : decode cJ6_bitCount_0f7a4 29 = .ok (.ldc_w 267, 3) := by decide +kernel
theorem dJ6_bitCount_0f7a4_32 : decode cJ6_bitCount_0f7a4 32 = .ok (.iand, 1) := by decide +kernel
theorem dJ6_bitCount_0f7a4_33 : decode cJ6_bitCount_0f7a4 33 = .ok (.istore_n 0, 1) := by decide +kernel
theorem dJ6_bitCount_0f7a4_34 : decode cJ6_bitCount_0f7a4 34 = .ok (.iload_n 0, 1) := by decide +kernel
theorem dJ6_bitCount_0f7a4_35 : decode cJ6_bitCount_0f7a4 35 = .ok (.iload_n 0, 1) := by decide +kernel
theorem dJ6_bitCount_0f7a4_36 : decode cJ6_bitCount_0f7a4 36 = .ok (.bipush 8, 2) := by decide +kernel
theorem dJ6_bitCount_0f7a4_38 : decode cJ6_bitCount_0f7a4 38 = .ok (.iushr, 1) := by decide +kernel
theorem dJ6_bitCount_0f7a4_39 : decode cJ6_bitCount_0f7a4 39 = .ok (.iadd, 1) := by decide +kernel
theorem dJ6_bitCount_0f7a4_40 : decode cJ6_bitCount_0f7a4 40 = .ok (.istore_n 0, 1) := by decide +kernel
theorem dJ6_bitCount_0f7a4_41 : decode cJ6_bitCount_0f7a4 41 = .ok (.iload_n 0, 1) := by decide +kernel
theorem dJ6_bitCount_0f7a4_42 : decode cJ6_bitCount_0f7a4 42 = .ok (.iload_n 0, 1) := by decide +kernel
theorem dJ6_bitCount_0f7a4_43 : decode cJ6_bitCount_0f7a4 43 = .ok (.bipush 16, 2) := by decide +kernel
theorem dJ6_bitCount_0f7a4_45 : decode cJ6_bitCount_0f7a4 45 = .ok (.iushr, 1) := by decide +kernel
theorem dJ6_bitCount_0f7a4_46 : decode cJ6_bitCount_0f7a4 46 = .ok (.iadd, 1) := by decide +kernel
theorem dJ6_bitCount_0f7a4_47 : decode cJ6_bitCount_0f7a4 47 = .ok (.istore_n 0, 1) := by decide +kernel
theorem dJ6_bitCount_0f7a4_48 : decode cJ6_bitCount_0f7a4 48 = .ok (.iload_n 0, 1) := by decide +kernel
theorem dJ6_bitCount_0f7a4_49 : decode cJ6_bitCount_0f7a4 49 = .ok (.bipush 63, 2) := by decide +kernel
theorem dJ6_bitCount_0f7a4_51 : decode cJ6_bitCount_0f7a4 51 = .ok (.iand, 1) := by decide +kernel
theorem dJ6_bitCount_0f7a4_52 : decode cJ6_bitCount_0f7a4 52 = .ok (.ireturn, 1) := by decide +kernel
theorem dJ9_max_7cf53_0 : decode cJ9_max_7cf53 0 = .ok (.iload_n 0, 1) := by decide +kernel
theorem dJ9_max_7cf53_1 : decode cJ9_max_7cf53 1 = .ok (.iload_n 1, 1) := by decide +kernel
theorem dJ9_max_7cf53_2 : decode cJ9_max_7cf53 2 = .ok (.if_icmp .lt 7, 3) := by decide +kernel
theorem dJ9_max_7cf53_5 : decode cJ9_max_7cf53 5 = .ok (.iload_n 0, 1) := by decide +kernel
theorem dJ9_max_7cf53_6 : decode cJ9_max_7cf53 6 = .ok (.goto 4, 3) := by decide +kernel
theorem dJ9_max_7cf53_9 : decode cJ9_max_7cf53 9 = .ok (.iload_n 1, 1) := by decide +kernel
theorem dJ9_max_7cf53_10 : decode cJ9_max_7cf53 10 = .ok (.ireturn, 1) := by decide +kernel
theorem dJ9_min_7cf53_0 : decode cJ9_min_7cf53 0 = .ok (.iload_n 0, 1) := by decide +kernel
theorem dJ9_min_7cf53_1 : decode cJ9_min_7cf53 1 = .ok (.iload_n 1, 1) := by decide +kernel
theorem dJ9_min_7cf53_2 : decode cJ9_min_7cf53 2 = .ok (.if_icmp .gt 7, 3) := by decide +kernel
theorem dJ9_min_7cf53_5 : decode cJ9_min_7cf53 5 = .ok (.iload_n 0, 1) := by decide +kernel
theorem dJ9_min_7cf53_6 : decode cJ9_min_7cf53 6 = .ok (.goto 4, 3) := by decide +kernel
theorem dJ9_min_7cf53_9 : decode cJ9_min_7cf53 9 = .ok (.iload_n 1, 1) := by decide +kernel
theorem dJ9_min_7cf53_10 : decode cJ9_min_7cf53 10 = .ok (.ireturn, 1) := by decide +kernel
theorem dL_below_0 : decode cL_below 0 = .ok (.iload_n 0, 1) := by decide +kernel
theorem dL_below_1 : decode cL_below 1 = .ok (.ldc 7, 2) := by decide +kernel
theorem dL_below_3 : decode cL_below 3 = .ok (.iand, 1) := by decide +kernel
theorem dL_below_4 : decode cL_below 4 = .ok (.iload_n 1, 1) := by decide +kernel
theorem dL_below_5 : decode cL_below 5 = .ok (.irem, 1) := by decide +kernel
theorem dL_below_6 : decode cL_below 6 = .ok (.ireturn, 1) := by decide +kernel
theorem dL_cell_0 : decode cL_cell 0 = .ok (.iload_n 1, 1) := by decide +kernel
theorem dL_cell_1 : decode cL_cell 1 = .ok (.aload_n 0, 1) := by decide +kernel
theorem dL_cell_2 : decode cL_cell 2 = .ok (.arraylength, 1) := by decide +kernel
theorem dL_cell_3 : decode cL_cell 3 = .ok (.if_icmp .ge 9, 3) := by decide +kernel
theorem dL_cell_6 : decode cL_cell 6 = .ok (.aload_n 0, 1) := by decide +kernel
theorem dL_cell_7 : decode cL_cell 7 = .ok (.iload_n 1, 1) := by decide +kernel
theorem dL_cell_8 : decode cL_cell 8 = .ok (.iaload, 1) := by decide +kernel
theorem dL_cell_9 : decode cL_cell 9 = .ok (.goto 9, 3) := by decide +kernel
theorem dL_cell_12 : decode cL_cell 12 = .ok (.ldc 8, 2) := by decide +kernel
theorem dL_cell_14 : decode cL_cell 14 = .ok (.iload_n 1, 1) := by decide +kernel
theorem dL_cell_15 : decode cL_cell 15 = .ok (.iconst 3, 1) := by decide +kernel
theorem dL_cell_16 : decode cL_cell 16 = .ok (.iadd, 1) := by decide +kernel
theorem dL_cell_17 : decode cL_cell 17 = .ok (.imul, 1) := by decide +kernel
theorem dL_cell_18 : decode cL_cell 18 = .ok (.ireturn, 1) := by decide +kernel
theorem dL_node_0 : decode cL_node 0 = .ok (.aload_n 1, 1) := by decide +kernel
theorem dL_node_1 : decode cL_node 1 = .ok (.getfield 9, 3) := by decide +kernel
theorem dL_node_4 : decode cL_node 4 = .ok (.arraylength, 1) := by decide +kernel
theorem dL_node_5 : decode cL_node 5 = .ok (.istore 5, 2) := by decide +kernel
theorem dL_node_7 : decode cL_node 7 = .ok (.iload 5, 2) := by decide +kernel
theorem dL_node_9 : decode cL_node 9 = .ok (.bipush 80, 2) := by decide +kernel
theorem dL_node_11 : decode cL_node 11 = .ok (.if_icmp .eq 16, 3) := by decide +kernel
theorem dL_node_14 : decode cL_node 14 = .ok (.aload_n 0, 1) := by decide +kernel
theorem dL_node_15 : decode cL_node 15 = .ok (.iload_n 2, 1) := by decide +kernel
theorem dL_node_16 : decode cL_node 16 = .ok (.iload_n 3, 1) := by decide +kernel
theorem dL_node_17 : decode cL_node 17 = .ok (.iload 4, 2) := by decide +kernel
theorem dL_node_19 : decode cL_node 19 = .ok (.invokevirtual 15, 3) := by decide +kernel
theorem dL_node_22 : decode cL_node 22 = .ok (.iload 5, 2) := by decide +kernel
theorem dL_node_24 : decode cL_node 24 = .ok (.if_icmp .eq 5, 3) := by decide +kernel
theorem dL_node_27 : decode cL_node 27 = .ok (.iconst (-1), 1) := by decide +kernel
theorem dL_node_28 : decode cL_node 28 = .ok (.ireturn, 1) := by decide +kernel
theorem dL_node_29 : decode cL_node 29 = .ok (.aload_n 1, 1) := by decide +kernel
theorem dL_node_30 : decode cL_node 30 = .ok (.aload_n 1, 1) := by decide +kernel
theorem dL_node_31 : decode cL_node 31 = .ok (.getfield 9, 3) := by decide +kernel
theorem dL_node_34 : decode cL_node 34 = .ok (.iconst 3, 1) := by decide +kernel
theorem dL_node_35 : decode cL_node 35 = .ok (.newarray .int, 2) := by decide +kernel
theorem dL_node_37 : decode cL_node 37 = .ok (.dup, 1) := by decide +kernel
theorem dL_node_38 : decode cL_node 38 = .ok (.iconst 0, 1) := by decide +kernel
theorem dL_node_39 : decode cL_node 39 = .ok (.iload_n 2, 1) := by decide +kernel
theorem dL_node_40 : decode cL_node 40 = .ok (.iastore, 1) := by decide +kernel
theorem dL_node_41 : decode cL_node 41 = .ok (.dup, 1) := by decide +kernel
theorem dL_node_42 : decode cL_node 42 = .ok (.iconst 1, 1) := by decide +kernel
theorem dL_node_43 : decode cL_node 43 = .ok (.iload_n 3, 1) := by decide +kernel
theorem dL_node_44 : decode cL_node 44 = .ok (.iastore, 1) := by decide +kernel
theorem dL_node_45 : decode cL_node 45 = .ok (.dup, 1) := by decide +kernel
theorem dL_node_46 : decode cL_node 46 = .ok (.iconst 2, 1) := by decide +kernel
theorem dL_node_47 : decode cL_node 47 = .ok (.iload 4, 2) := by decide +kernel
theorem dL_node_49 : decode cL_node 49 = .ok (.iastore, 1) := by decide +kernel
theorem dL_node_50 : decode cL_node 50 = .ok (.invokestatic 21, 3) := by decide +kernel
theorem dL_node_53 : decode cL_node 53 = .ok (.putfield 9, 3) := by decide +kernel
theorem dL_node_56 : decode cL_node 56 = .ok (.iload 5, 2) := by decide +kernel
theorem dL_node_58 : decode cL_node 58 = .ok (.ireturn, 1) := by decide +kernel
theorem dL_tree_0 : decode cL_tree 0 = .ok (.aload_n 2, 1) := by decide +kernel
theorem dL_tree_1 : decode cL_tree 1 = .ok (.iload_n 3, 1) := by decide +kernel
theorem dL_tree_2 : decode cL_tree 2 = .ok (.bipush 16, 2) := by decide +kernel
theorem dL_tree_4 : decode cL_tree 4 = .ok (.irem, 1) := by decide +kernel
theorem dL_tree_5 : decode cL_tree 5 = .ok (.invokestatic 25, 3) := by decide +kernel
theorem dL_tree_8 : decode cL_tree 8 = .ok (.bipush 7, 2) := by decide +kernel
theorem dL_tree_10 : decode cL_tree 10 = .ok (.iload_n 3, 1) := by decide +kernel
theorem dL_tree_11 : decode cL_tree 11 = .ok (.imul, 1) := by decide +kernel
theorem dL_tree_12 : decode cL_tree 12 = .ok (.iadd, 1) := by decide +kernel
theorem dL_tree_13 : decode cL_tree 13 = .ok (.istore 5, 2) := by decide +kernel
theorem dL_tree_15 : decode cL_tree 15 = .ok (.iload 4, 2) := by decide +kernel
theorem dL_tree_17 : decode cL_tree 17 = .ok (.ifCond .eq 22, 3) := by decide +kernel
theorem dL_tree_20 : decode cL_tree 20 = .ok (.iload 5, 2) := by decide +kernel
theorem dL_tree_22 : decode cL_tree 22 = .ok (.iconst 4, 1) := by decide +kernel
theorem dL_tree_23 : decode cL_tree 23 = .ok (.invokestatic 31, 3) := by decide +kernel
theorem dL_tree_26 : decode cL_tree 26 = .ok (.ifCond .eq 13, 3) := by decide +kernel
theorem dL_tree_29 : decode cL_tree 29 = .ok (.aload_n 1, 1) := by decide +kernel
theorem dL_tree_30 : decode cL_tree 30 = .ok (.getfield 9, 3) := by decide +kernel
theorem dL_tree_33 : decode cL_tree 33 = .ok (.arraylength, 1) := by decide +kernel
theorem dL_tree_34 : decode cL_tree 34 = .ok (.bipush 72, 2) := by decide +kernel
theorem dL_tree_36 : decode cL_tree 36 = .ok (.if_icmp .le 53, 3) := by decide +kernel
theorem dL_tree_39 : decode cL_tree 39 = .ok (.iload 5, 2) := by decide +kernel
theorem dL_tree_41 : decode cL_tree 41 = .ok (.iconst 2, 1) := by decide +kernel
theorem dL_tree_42 : decode cL_tree 42 = .ok (.ishr, 1) := by decide +kernel
theorem dL_tree_43 : decode cL_tree 43 = .ok (.iconst 3, 1) := by decide +kernel
theorem dL_tree_44 : decode cL_tree 44 = .ok (.invokestatic 31, 3) := by decide +kernel
theorem dL_tree_47 : decode cL_tree 47 = .ok (.ifCond .ne 25, 3) := by decide +kernel
theorem dL_tree_50 : decode cL_tree 50 = .ok (.aload_n 0, 1) := by decide +kernel
theorem dL_tree_51 : decode cL_tree 51 = .ok (.aload_n 1, 1) := by decide +kernel
theorem dL_tree_52 : decode cL_tree 52 = .ok (.iconst 0, 1) := by decide +kernel
theorem dL_tree_53 : decode cL_tree 53 = .ok (.iload 5, 2) := by decide +kernel
theorem dL_tree_55 : decode cL_tree 55 = .ok (.iconst 4, 1) := by decide +kernel
theorem dL_tree_56 : decode cL_tree 56 = .ok (.ishr, 1) := by decide +kernel
theorem dL_tree_57 : decode cL_tree 57 = .ok (.bipush 41, 2) := by decide +kernel
theorem dL_tree_59 : decode cL_tree 59 = .ok (.invokestatic 31, 3) := by decide +kernel
theorem dL_tree_62 : decode cL_tree 62 = .ok (.bipush 20, 2) := by decide +kernel
theorem dL_tree_64 : decode cL_tree 64 = .ok (.isub, 1) := by decide +kernel
theorem dL_tree_65 : decode cL_tree 65 = .ok (.iconst 0, 1) := by decide +kernel
theorem dL_tree_66 : decode cL_tree 66 = .ok (.invokestatic 35, 3) := by decide +kernel
theorem dL_tree_69 : decode cL_tree 69 = .ok (.goto 19, 3) := by decide +kernel
theorem dL_tree_72 : decode cL_tree 72 = .ok (.aload_n 0, 1) := by decide +kernel
theorem dL_tree_73 : decode cL_tree 73 = .ok (.aload_n 1, 1) := by decide +kernel
theorem dL_tree_74 : decode cL_tree 74 = .ok (.iconst 1, 1) := by decide +kernel
theorem dL_tree_75 : decode cL_tree 75 = .ok (.iload 5, 2) := by decide +kernel
theorem dL_tree_77 : decode cL_tree 77 = .ok (.iconst 4, 1) := by decide +kernel
theorem dL_tree_78 : decode cL_tree 78 = .ok (.ishr, 1) := by decide +kernel
theorem dL_tree_79 : decode cL_tree 79 = .ok (.bipush 6, 2) := by decide +kernel
theorem dL_tree_81 : decode cL_tree 81 = .ok (.invokestatic 31, 3) := by decide +kernel
theorem dL_tree_84 : decode cL_tree 84 = .ok (.iconst 0, 1) := by decide +kernel
theorem dL_tree_85 : decode cL_tree 85 = .ok (.invokestatic 35, 3) := by decide +kernel
theorem dL_tree_88 : decode cL_tree 88 = .ok (.ireturn, 1) := by decide +kernel
theorem dL_tree_89 : decode cL_tree 89 = .ok (.aload_n 0, 1) := by decide +kernel
theorem dL_tree_90 : decode cL_tree 90 = .ok (.aload_n 1, 1) := by decide +kernel
theorem dL_tree_91 : decode cL_tree 91 = .ok (.aload_n 2, 1) := by decide +kernel
theorem dL_tree_92 : decode cL_tree 92 = .ok (.iload_n 3, 1) := by decide +kernel
theorem dL_tree_93 : decode cL_tree 93 = .ok (.iconst 3, 1) := by decide +kernel
theorem dL_tree_94 : decode cL_tree 94 = .ok (.iadd, 1) := by decide +kernel
theorem dL_tree_95 : decode cL_tree 95 = .ok (.iload 4, 2) := by decide +kernel
theorem dL_tree_97 : decode cL_tree 97 = .ok (.iconst 1, 1) := by decide +kernel
theorem dL_tree_98 : decode cL_tree 98 = .ok (.isub, 1) := by decide +kernel
theorem dL_tree_99 : decode cL_tree 99 = .ok (.invokestatic 38, 3) := by decide +kernel
theorem dL_tree_102 : decode cL_tree 102 = .ok (.istore 6, 2) := by decide +kernel
theorem dL_tree_104 : decode cL_tree 104 = .ok (.iload 6, 2) := by decide +kernel
theorem dL_tree_106 : decode cL_tree 106 = .ok (.ifCond .ge 7, 3) := by decide +kernel
theorem dL_tree_109 : decode cL_tree 109 = .ok (.iconst (-1), 1) := by decide +kernel
theorem dL_tree_110 : decode cL_tree 110 = .ok (.goto 16, 3) := by decide +kernel
theorem dL_tree_113 : decode cL_tree 113 = .ok (.aload_n 0, 1) := by decide +kernel
theorem dL_tree_114 : decode cL_tree 114 = .ok (.aload_n 1, 1) := by decide +kernel
theorem dL_tree_115 : decode cL_tree 115 = .ok (.aload_n 2, 1) := by decide +kernel
theorem dL_tree_116 : decode cL_tree 116 = .ok (.iload_n 3, 1) := by decide +kernel
theorem dL_tree_117 : decode cL_tree 117 = .ok (.iconst 5, 1) := by decide +kernel
theorem dL_tree_118 : decode cL_tree 118 = .ok (.iadd, 1) := by decide +kernel
theorem dL_tree_119 : decode cL_tree 119 = .ok (.iload 4, 2) := by decide +kernel
theorem dL_tree_121 : decode cL_tree 121 = .ok (.iconst 1, 1) := by decide +kernel
theorem dL_tree_122 : decode cL_tree 122 = .ok (.isub, 1) := by decide +kernel
theorem dL_tree_123 : decode cL_tree 123 = .ok (.invokestatic 38, 3) := by decide +kernel
theorem dL_tree_126 : decode cL_tree 126 = .ok (.istore 7, 2) := by decide +kernel
theorem dL_tree_128 : decode cL_tree 128 = .ok (.iload 7, 2) := by decide +kernel
theorem dL_tree_130 : decode cL_tree 130 = .ok (.ifCond .ge 7, 3) := by decide +kernel
theorem dL_tree_133 : decode cL_tree 133 = .ok (.iconst (-1), 1) := by decide +kernel
theorem dL_tree_134 : decode cL_tree 134 = .ok (.goto 25, 3) := by decide +kernel
theorem dL_tree_137 : decode cL_tree 137 = .ok (.aload_n 0, 1) := by decide +kernel
theorem dL_tree_138 : decode cL_tree 138 = .ok (.aload_n 1, 1) := by decide +kernel
theorem dL_tree_139 : decode cL_tree 139 = .ok (.iconst 2, 1) := by decide +kernel
theorem dL_tree_140 : decode cL_tree 140 = .ok (.iload 5, 2) := by decide +kernel
theorem dL_tree_142 : decode cL_tree 142 = .ok (.iconst 3, 1) := by decide +kernel
theorem dL_tree_143 : decode cL_tree 143 = .ok (.ishr, 1) := by decide +kernel
theorem dL_tree_144 : decode cL_tree 144 = .ok (.bipush 7, 2) := by decide +kernel
theorem dL_tree_146 : decode cL_tree 146 = .ok (.invokestatic 31, 3) := by decide +kernel
theorem dL_tree_149 : decode cL_tree 149 = .ok (.iconst 2, 1) := by decide +kernel
theorem dL_tree_150 : decode cL_tree 150 = .ok (.idiv, 1) := by decide +kernel
theorem dL_tree_151 : decode cL_tree 151 = .ok (.iadd, 1) := by decide +kernel
theorem dL_tree_152 : decode cL_tree 152 = .ok (.iload 6, 2) := by decide +kernel
theorem dL_tree_154 : decode cL_tree 154 = .ok (.iload 7, 2) := by decide +kernel
theorem dL_tree_156 : decode cL_tree 156 = .ok (.invokestatic 35, 3) := by decide +kernel
theorem dL_tree_159 : decode cL_tree 159 = .ok (.ireturn, 1) := by decide +kernel
theorem dL_write_0 : decode cL_write 0 = .ok (.iconst 2, 1) := by decide +kernel
theorem dL_write_1 : decode cL_write 1 = .ok (.aload_n 2, 1) := by decide +kernel
theorem dL_write_2 : decode cL_write 2 = .ok (.iload_n 3, 1) := by decide +kernel
theorem dL_write_3 : decode cL_write 3 = .ok (.invokestatic 25, 3) := by decide +kernel
theorem dL_write_6 : decode cL_write 6 = .ok (.bipush 11, 2) := by decide +kernel
theorem dL_write_8 : decode cL_write 8 = .ok (.invokestatic 31, 3) := by decide +kernel
theorem dL_write_11 : decode cL_write 11 = .ok (.iadd, 1) := by decide +kernel
theorem dL_write_12 : decode cL_write 12 = .ok (.istore 4, 2) := by decide +kernel
theorem dL_write_14 : decode cL_write 14 = .ok (.iconst 0, 1) := by decide +kernel
theorem dL_write_15 : decode cL_write 15 = .ok (.istore 5, 2) := by decide +kernel
theorem dL_write_17 : decode cL_write 17 = .ok (.iload 5, 2) := by decide +kernel
theorem dL_write_19 : decode cL_write 19 = .ok (.iload 4, 2) := by decide +kernel
theorem dL_write_21 : decode cL_write 21 = .ok (.if_icmp .ge 179, 3) := by decide +kernel
theorem dL_write_24 : decode cL_write 24 = .ok (.aload_n 2, 1) := by decide +kernel
theorem dL_write_25 : decode cL_write 25 = .ok (.iload 5, 2) := by decide +kernel
theorem dL_write_27 : decode cL_write 27 = .ok (.iload_n 3, 1) := by decide +kernel
theorem dL_write_28 : decode cL_write 28 = .ok (.iadd, 1) := by decide +kernel
theorem dL_write_29 : decode cL_write 29 = .ok (.bipush 16, 2) := by decide +kernel
theorem dL_write_31 : decode cL_write 31 = .ok (.irem, 1) := by decide +kernel
theorem dL_write_32 : decode cL_write 32 = .ok (.invokestatic 25, 3) := by decide +kernel
theorem dL_write_35 : decode cL_write 35 = .ok (.istore 6, 2) := by decide +kernel
theorem dL_write_37 : decode cL_write 37 = .ok (.iconst 3, 1) := by decide +kernel
theorem dL_write_38 : decode cL_write 38 = .ok (.iload 5, 2) := by decide +kernel
theorem dL_write_40 : decode cL_write 40 = .ok (.iconst 4, 1) := by decide +kernel
theorem dL_write_41 : decode cL_write 41 = .ok (.imul, 1) := by decide +kernel
theorem dL_write_42 : decode cL_write 42 = .ok (.iload 4, 2) := by decide +kernel
theorem dL_write_44 : decode cL_write 44 = .ok (.idiv, 1) := by decide +kernel
theorem dL_write_45 : decode cL_write 45 = .ok (.iload 6, 2) := by decide +kernel
theorem dL_write_47 : decode cL_write 47 = .ok (.iconst 2, 1) := by decide +kernel
theorem dL_write_48 : decode cL_write 48 = .ok (.invokestatic 31, 3) := by decide +kernel
theorem dL_write_51 : decode cL_write 51 = .ok (.iadd, 1) := by decide +kernel
theorem dL_write_52 : decode cL_write 52 = .ok (.invokestatic 42, 3) := by decide +kernel
theorem dL_write_55 : decode cL_write 55 = .ok (.istore 7, 2) := by decide +kernel
theorem dL_write_57 : decode cL_write 57 = .ok (.aload_n 0, 1) := by decide +kernel
theorem dL_write_58 : decode cL_write 58 = .ok (.aload_n 1, 1) := by decide +kernel
theorem dL_write_59 : decode cL_write 59 = .ok (.aload_n 2, 1) := by decide +kernel
theorem dL_write_60 : decode cL_write 60 = .ok (.bipush 11, 2) := by decide +kernel
theorem dL_write_62 : decode cL_write 62 = .ok (.iload 5, 2) := by decide +kernel
theorem dL_write_64 : decode cL_write 64 = .ok (.imul, 1) := by decide +kernel
theorem dL_write_65 : decode cL_write 65 = .ok (.iload_n 3, 1) := by decide +kernel
theorem dL_write_66 : decode cL_write 66 = .ok (.iadd, 1) := by decide +kernel
theorem dL_write_67 : decode cL_write 67 = .ok (.iconst 3, 1) := by decide +kernel
theorem dL_write_68 : decode cL_write 68 = .ok (.invokestatic 38, 3) := by decide +kernel
theorem dL_write_71 : decode cL_write 71 = .ok (.istore 8, 2) := by decide +kernel
theorem dL_write_73 : decode cL_write 73 = .ok (.iload 8, 2) := by decide +kernel
theorem dL_write_75 : decode cL_write 75 = .ok (.ifCond .ge 6, 3) := by decide +kernel
theorem dL_write_78 : decode cL_write 78 = .ok (.goto 116, 3) := by decide +kernel
theorem dL_write_81 : decode cL_write 81 = .ok (.iload 6, 2) := by decide +kernel
theorem dL_write_83 : decode cL_write 83 = .ok (.iconst 3, 1) := by decide +kernel
theorem dL_write_84 : decode cL_write 84 = .ok (.ishr, 1) := by decide +kernel
theorem dL_write_85 : decode cL_write 85 = .ok (.bipush 6, 2) := by decide +kernel
theorem dL_write_87 : decode cL_write 87 = .ok (.invokestatic 31, 3) := by decide +kernel
theorem dL_write_90 : decode cL_write 90 = .ok (.istore 9, 2) := by decide +kernel
theorem dL_write_92 : decode cL_write 92 = .ok (.iconst 1, 1) := by decide +kernel
theorem dL_write_93 : decode cL_write 93 = .ok (.istore 10, 2) := by decide +kernel
theorem dL_write_95 : decode cL_write 95 = .ok (.aload_n 1, 1) := by decide +kernel
theorem dL_write_96 : decode cL_write 96 = .ok (.getfield 47, 3) := by decide +kernel
theorem dL_write_99 : decode cL_write 99 = .ok (.astore 11, 2) := by decide +kernel
theorem dL_write_101 : decode cL_write 101 = .ok (.aload 11, 2) := by decide +kernel
theorem dL_write_103 : decode cL_write 103 = .ok (.arraylength, 1) := by decide +kernel
theorem dL_write_104 : decode cL_write 104 = .ok (.istore 12, 2) := by decide +kernel
theorem dL_write_106 : decode cL_write 106 = .ok (.iconst 0, 1) := by decide +kernel
theorem dL_write_107 : decode cL_write 107 = .ok (.istore 13, 2) := by decide +kernel
theorem dL_write_109 : decode cL_write 109 = .ok (.iload 13, 2) := by decide +kernel
theorem dL_write_111 : decode cL_write 111 = .ok (.iload 12, 2) := by decide +kernel
theorem dL_write_113 : decode cL_write 113 = .ok (.if_icmp .ge 35, 3) := by decide +kernel
theorem dL_write_116 : decode cL_write 116 = .ok (.aload 11, 2) := by decide +kernel
theorem dL_write_118 : decode cL_write 118 = .ok (.iload 13, 2) := by decide +kernel
theorem dL_write_120 : decode cL_write 120 = .ok (.aaload, 1) := by decide +kernel
theorem dL_write_121 : decode cL_write 121 = .ok (.astore 14, 2) := by decide +kernel
theorem dL_write_123 : decode cL_write 123 = .ok (.iload 10, 2) := by decide +kernel
theorem dL_write_125 : decode cL_write 125 = .ok (.aload 14, 2) := by decide +kernel
theorem dL_write_127 : decode cL_write 127 = .ok (.iconst 0, 1) := by decide +kernel
theorem dL_write_128 : decode cL_write 128 = .ok (.iaload, 1) := by decide +kernel
theorem dL_write_129 : decode cL_write 129 = .ok (.iload 7, 2) := by decide +kernel
theorem dL_write_131 : decode cL_write 131 = .ok (.if_icmp .ne 7, 3) := by decide +kernel
theorem dL_write_134 : decode cL_write 134 = .ok (.iconst 1, 1) := by decide +kernel
theorem dL_write_135 : decode cL_write 135 = .ok (.goto 4, 3) := by decide +kernel
theorem dL_write_138 : decode cL_write 138 = .ok (.iconst 0, 1) := by decide +kernel
theorem dL_write_139 : decode cL_write 139 = .ok (.iadd, 1) := by decide +kernel
theorem dL_write_140 : decode cL_write 140 = .ok (.istore 10, 2) := by decide +kernel
theorem dL_write_142 : decode cL_write 142 = .ok (.iinc 13 1, 3) := by decide +kernel
theorem dL_write_145 : decode cL_write 145 = .ok (.goto (-36), 3) := by decide +kernel
theorem dL_write_148 : decode cL_write 148 = .ok (.aload_n 0, 1) := by decide +kernel
theorem dL_write_149 : decode cL_write 149 = .ok (.iload 7, 2) := by decide +kernel
theorem dL_write_151 : decode cL_write 151 = .ok (.iload 9, 2) := by decide +kernel
theorem dL_write_153 : decode cL_write 153 = .ok (.iload 8, 2) := by decide +kernel
theorem dL_write_155 : decode cL_write 155 = .ok (.invokevirtual 50, 3) := by decide +kernel
theorem dL_write_158 : decode cL_write 158 = .ok (.iload 10, 2) := by decide +kernel
theorem dL_write_160 : decode cL_write 160 = .ok (.if_icmp .eq 5, 3) := by decide +kernel
theorem dL_write_163 : decode cL_write 163 = .ok (.iconst 0, 1) := by decide +kernel
theorem dL_write_164 : decode cL_write 164 = .ok (.ireturn, 1) := by decide +kernel
theorem dL_write_165 : decode cL_write 165 = .ok (.aload_n 1, 1) := by decide +kernel
theorem dL_write_166 : decode cL_write 166 = .ok (.aload_n 1, 1) := by decide +kernel
theorem dL_write_167 : decode cL_write 167 = .ok (.getfield 47, 3) := by decide +kernel
theorem dL_write_170 : decode cL_write 170 = .ok (.iconst 3, 1) := by decide +kernel
theorem dL_write_171 : decode cL_write 171 = .ok (.newarray .int, 2) := by decide +kernel
theorem dL_write_173 : decode cL_write 173 = .ok (.dup, 1) := by decide +kernel
theorem dL_write_174 : decode cL_write 174 = .ok (.iconst 0, 1) := by decide +kernel
theorem dL_write_175 : decode cL_write 175 = .ok (.iload 7, 2) := by decide +kernel
theorem dL_write_177 : decode cL_write 177 = .ok (.iastore, 1) := by decide +kernel
theorem dL_write_178 : decode cL_write 178 = .ok (.dup, 1) := by decide +kernel
theorem dL_write_179 : decode cL_write 179 = .ok (.iconst 1, 1) := by decide +kernel
theorem dL_write_180 : decode cL_write 180 = .ok (.iload 9, 2) := by decide +kernel
theorem dL_write_182 : decode cL_write 182 = .ok (.iastore, 1) := by decide +kernel
theorem dL_write_183 : decode cL_write 183 = .ok (.dup, 1) := by decide +kernel
theorem dL_write_184 : decode cL_write 184 = .ok (.iconst 2, 1) := by decide +kernel
theorem dL_write_185 : decode cL_write 185 = .ok (.iload 8, 2) := by decide +kernel
theorem dL_write_187 : decode cL_write 187 = .ok (.iastore, 1) := by decide +kernel
theorem dL_write_188 : decode cL_write 188 = .ok (.invokestatic 21, 3) := by decide +kernel
theorem dL_write_191 : decode cL_write 191 = .ok (.putfield 47, 3) := by decide +kernel
theorem dL_write_194 : decode cL_write 194 = .ok (.iinc 5 1, 3) := by decide +kernel
theorem dL_write_197 : decode cL_write 197 = .ok (.goto (-180), 3) := by decide +kernel
theorem dL_write_200 : decode cL_write 200 = .ok (.iconst 0, 1) := by decide +kernel
theorem dL_write_201 : decode cL_write 201 = .ok (.istore 5, 2) := by decide +kernel
theorem dL_write_203 : decode cL_write 203 = .ok (.iload 5, 2) := by decide +kernel
theorem dL_write_205 : decode cL_write 205 = .ok (.iconst 4, 1) := by decide +kernel
theorem dL_write_206 : decode cL_write 206 = .ok (.if_icmp .ge 51, 3) := by decide +kernel
theorem dL_write_209 : decode cL_write 209 = .ok (.aload_n 1, 1) := by decide +kernel
theorem dL_write_210 : decode cL_write 210 = .ok (.getfield 53, 3) := by decide +kernel
theorem dL_write_213 : decode cL_write 213 = .ok (.iload 5, 2) := by decide +kernel
theorem dL_write_215 : decode cL_write 215 = .ok (.iconst 1, 1) := by decide +kernel
theorem dL_write_216 : decode cL_write 216 = .ok (.aload_n 2, 1) := by decide +kernel
theorem dL_write_217 : decode cL_write 217 = .ok (.iload 5, 2) := by decide +kernel
theorem dL_write_219 : decode cL_write 219 = .ok (.iconst 3, 1) := by decide +kernel
theorem dL_write_220 : decode cL_write 220 = .ok (.iadd, 1) := by decide +kernel
theorem dL_write_221 : decode cL_write 221 = .ok (.invokestatic 25, 3) := by decide +kernel
theorem dL_write_224 : decode cL_write 224 = .ok (.iconst 4, 1) := by decide +kernel
theorem dL_write_225 : decode cL_write 225 = .ok (.ishr, 1) := by decide +kernel
theorem dL_write_226 : decode cL_write 226 = .ok (.iconst 3, 1) := by decide +kernel
theorem dL_write_227 : decode cL_write 227 = .ok (.invokestatic 31, 3) := by decide +kernel
theorem dL_write_230 : decode cL_write 230 = .ok (.iadd, 1) := by decide +kernel
theorem dL_write_231 : decode cL_write 231 = .ok (.iastore, 1) := by decide +kernel
theorem dL_write_232 : decode cL_write 232 = .ok (.aload_n 0, 1) := by decide +kernel
theorem dL_write_233 : decode cL_write 233 = .ok (.iload 5, 2) := by decide +kernel
theorem dL_write_235 : decode cL_write 235 = .ok (.aload_n 1, 1) := by decide +kernel
theorem dL_write_236 : decode cL_write 236 = .ok (.getfield 53, 3) := by decide +kernel
theorem dL_write_239 : decode cL_write 239 = .ok (.iload 5, 2) := by decide +kernel
theorem dL_write_241 : decode cL_write 241 = .ok (.iaload, 1) := by decide +kernel
theorem dL_write_242 : decode cL_write 242 = .ok (.invokevirtual 57, 3) := by decide +kernel
theorem dL_write_245 : decode cL_write 245 = .ok (.iconst 1, 1) := by decide +kernel
theorem dL_write_246 : decode cL_write 246 = .ok (.if_icmp .eq 5, 3) := by decide +kernel
theorem dL_write_249 : decode cL_write 249 = .ok (.iconst 0, 1) := by decide +kernel
theorem dL_write_250 : decode cL_write 250 = .ok (.ireturn, 1) := by decide +kernel
theorem dL_write_251 : decode cL_write 251 = .ok (.iinc 5 1, 3) := by decide +kernel
theorem dL_write_254 : decode cL_write 254 = .ok (.goto (-51), 3) := by decide +kernel
theorem dL_write_257 : decode cL_write 257 = .ok (.aload_n 1, 1) := by decide +kernel
theorem dL_write_258 : decode cL_write 258 = .ok (.aload_n 2, 1) := by decide +kernel
theorem dL_write_259 : decode cL_write 259 = .ok (.bipush 9, 2) := by decide +kernel
theorem dL_write_261 : decode cL_write 261 = .ok (.invokestatic 25, 3) := by decide +kernel
theorem dL_write_264 : decode cL_write 264 = .ok (.bipush 64, 2) := by decide +kernel
theorem dL_write_266 : decode cL_write 266 = .ok (.invokestatic 31, 3) := by decide +kernel
theorem dL_write_269 : decode cL_write 269 = .ok (.iconst 1, 1) := by decide +kernel
theorem dL_write_270 : decode cL_write 270 = .ok (.ior, 1) := by decide +kernel
theorem dL_write_271 : decode cL_write 271 = .ok (.putfield 59, 3) := by decide +kernel
theorem dL_write_274 : decode cL_write 274 = .ok (.aload_n 0, 1) := by decide +kernel
theorem dL_write_275 : decode cL_write 275 = .ok (.aload_n 1, 1) := by decide +kernel
theorem dL_write_276 : decode cL_write 276 = .ok (.getfield 59, 3) := by decide +kernel
theorem dL_write_279 : decode cL_write 279 = .ok (.invokevirtual 63, 3) := by decide +kernel
theorem dL_write_282 : decode cL_write 282 = .ok (.iconst 1, 1) := by decide +kernel
theorem dL_write_283 : decode cL_write 283 = .ok (.if_icmp .ne 17, 3) := by decide +kernel
theorem dL_write_286 : decode cL_write 286 = .ok (.aload_n 0, 1) := by decide +kernel
theorem dL_write_287 : decode cL_write 287 = .ok (.aload_n 1, 1) := by decide +kernel
theorem dL_write_288 : decode cL_write 288 = .ok (.aload_n 2, 1) := by decide +kernel
theorem dL_write_289 : decode cL_write 289 = .ok (.iload_n 3, 1) := by decide +kernel
theorem dL_write_290 : decode cL_write 290 = .ok (.invokestatic 66, 3) := by decide +kernel
theorem dL_write_293 : decode cL_write 293 = .ok (.ifCond .eq 7, 3) := by decide +kernel
theorem dL_write_296 : decode cL_write 296 = .ok (.iconst 1, 1) := by decide +kernel
theorem dL_write_297 : decode cL_write 297 = .ok (.goto 4, 3) := by decide +kernel
theorem dL_write_300 : decode cL_write 300 = .ok (.iconst 0, 1) := by decide +kernel
theorem dL_write_301 : decode cL_write 301 = .ok (.ireturn, 1) := by decide +kernel
theorem dL_machine_0 : decode cL_machine 0 = .ok (.aload_n 1, 1) := by decide +kernel
theorem dL_machine_1 : decode cL_machine 1 = .ok (.getfield 70, 3) := by decide +kernel
theorem dL_machine_4 : decode cL_machine 4 = .ok (.istore 4, 2) := by decide +kernel
theorem dL_machine_6 : decode cL_machine 6 = .ok (.aload_n 1, 1) := by decide +kernel
theorem dL_machine_7 : decode cL_machine 7 = .ok (.iconst 5, 1) := by decide +kernel
theorem dL_machine_8 : decode cL_machine 8 = .ok (.aload_n 2, 1) := by decide +kernel
theorem dL_machine_9 : decode cL_machine 9 = .ok (.iload_n 3, 1) := by decide +kernel
theorem dL_machine_10 : decode cL_machine 10 = .ok (.bipush 6, 2) := by decide +kernel
theorem dL_machine_12 : decode cL_machine 12 = .ok (.iadd, 1) := by decide +kernel
theorem dL_machine_13 : decode cL_machine 13 = .ok (.invokestatic 25, 3) := by decide +kernel
theorem dL_machine_16 : decode cL_machine 16 = .ok (.iconst 2, 1) := by decide +kernel
theorem dL_machine_17 : decode cL_machine 17 = .ok (.ishr, 1) := by decide +kernel
theorem dL_machine_18 : decode cL_machine 18 = .ok (.bipush 7, 2) := by decide +kernel
theorem dL_machine_20 : decode cL_machine 20 = .ok (.invokestatic 31, 3) := by decide +kernel
theorem dL_machine_23 : decode cL_machine 23 = .ok (.iadd, 1) := by decide +kernel
theorem dL_machine_24 : decode cL_machine 24 = .ok (.putfield 70, 3) := by decide +kernel
theorem dL_machine_27 : decode cL_machine 27 = .ok (.aload_n 1, 1) := by decide +kernel
theorem dL_machine_28 : decode cL_machine 28 = .ok (.aload_n 2, 1) := by decide +kernel
theorem dL_machine_29 : decode cL_machine 29 = .ok (.iload_n 3, 1) := by decide +kernel
theorem dL_machine_30 : decode cL_machine 30 = .ok (.bipush 7, 2) := by decide +kernel
theorem dL_machine_32 : decode cL_machine 32 = .ok (.iadd, 1) := by decide +kernel
theorem dL_machine_33 : decode cL_machine 33 = .ok (.invokestatic 25, 3) := by decide +kernel
theorem dL_machine_36 : decode cL_machine 36 = .ok (.sipush 256, 3) := by decide +kernel
theorem dL_machine_39 : decode cL_machine 39 = .ok (.invokestatic 31, 3) := by decide +kernel
theorem dL_machine_42 : decode cL_machine 42 = .ok (.iconst 1, 1) := by decide +kernel
theorem dL_machine_43 : decode cL_machine 43 = .ok (.aload_n 1, 1) := by decide +kernel
theorem dL_machine_44 : decode cL_machine 44 = .ok (.getfield 70, 3) := by decide +kernel
theorem dL_machine_47 : decode cL_machine 47 = .ok (.iconst 3, 1) := by decide +kernel
theorem dL_machine_48 : decode cL_machine 48 = .ok (.isub, 1) := by decide +kernel
theorem dL_machine_49 : decode cL_machine 49 = .ok (.ishl, 1) := by decide +kernel
theorem dL_machine_50 : decode cL_machine 50 = .ok (.iconst 4, 1) := by decide +kernel
theorem dL_machine_51 : decode cL_machine 51 = .ok (.isub, 1) := by decide +kernel
theorem dL_machine_52 : decode cL_machine 52 = .ok (.iand, 1) := by decide +kernel
theorem dL_machine_53 : decode cL_machine 53 = .ok (.putfield 73, 3) := by decide +kernel
theorem dL_machine_56 : decode cL_machine 56 = .ok (.aload_n 1, 1) := by decide +kernel
theorem dL_machine_57 : decode cL_machine 57 = .ok (.aload_n 2, 1) := by decide +kernel
theorem dL_machine_58 : decode cL_machine 58 = .ok (.iload_n 3, 1) := by decide +kernel
theorem dL_machine_59 : decode cL_machine 59 = .ok (.bipush 8, 2) := by decide +kernel
theorem dL_machine_61 : decode cL_machine 61 = .ok (.iadd, 1) := by decide +kernel
theorem dL_machine_62 : decode cL_machine 62 = .ok (.invokestatic 25, 3) := by decide +kernel
theorem dL_machine_65 : decode cL_machine 65 = .ok (.bipush 25, 2) := by decide +kernel
theorem dL_machine_67 : decode cL_machine 67 = .ok (.invokestatic 31, 3) := by decide +kernel
theorem dL_machine_70 : decode cL_machine 70 = .ok (.putfield 76, 3) := by decide +kernel
theorem dL_machine_73 : decode cL_machine 73 = .ok (.aload_n 1, 1) := by decide +kernel
theorem dL_machine_74 : decode cL_machine 74 = .ok (.aload_n 2, 1) := by decide +kernel
theorem dL_machine_75 : decode cL_machine 75 = .ok (.iload_n 3, 1) := by decide +kernel
theorem dL_machine_76 : decode cL_machine 76 = .ok (.bipush 9, 2) := by decide +kernel
theorem dL_machine_78 : decode cL_machine 78 = .ok (.iadd, 1) := by decide +kernel
theorem dL_machine_79 : decode cL_machine 79 = .ok (.invokestatic 25, 3) := by decide +kernel
theorem dL_machine_82 : decode cL_machine 82 = .ok (.iconst 3, 1) := by decide +kernel
theorem dL_machine_83 : decode cL_machine 83 = .ok (.invokestatic 31, 3) := by decide +kernel
theorem dL_machine_86 : decode cL_machine 86 = .ok (.ifCond .le 7, 3) := by decide +kernel
theorem dL_machine_89 : decode cL_machine 89 = .ok (.iconst 1, 1) := by decide +kernel
theorem dL_machine_90 : decode cL_machine 90 = .ok (.goto 4, 3) := by decide +kernel
theorem dL_machine_93 : decode cL_machine 93 = .ok (.iconst 0, 1) := by decide +kernel
theorem dL_machine_94 : decode cL_machine 94 = .ok (.putfield 79, 3) := by decide +kernel
theorem dL_machine_97 : decode cL_machine 97 = .ok (.aload_n 1, 1) := by decide +kernel
theorem dL_machine_98 : decode cL_machine 98 = .ok (.aload_n 2, 1) := by decide +kernel
theorem dL_machine_99 : decode cL_machine 99 = .ok (.iload_n 3, 1) := by decide +kernel
theorem dL_machine_100 : decode cL_machine 100 = .ok (.bipush 10, 2) := by decide +kernel
theorem dL_machine_102 : decode cL_machine 102 = .ok (.iadd, 1) := by decide +kernel
theorem dL_machine_103 : decode cL_machine 103 = .ok (.invokestatic 25, 3) := by decide +kernel
theorem dL_machine_106 : decode cL_machine 106 = .ok (.iconst 2, 1) := by decide +kernel
theorem dL_machine_107 : decode cL_machine 107 = .ok (.invokestatic 31, 3) := by decide +kernel
theorem dL_machine_110 : decode cL_machine 110 = .ok (.ifCond .ne 7, 3) := by decide +kernel
theorem dL_machine_113 : decode cL_machine 113 = .ok (.iconst 1, 1) := by decide +kernel
theorem dL_machine_114 : decode cL_machine 114 = .ok (.goto 4, 3) := by decide +kernel
theorem dL_machine_117 : decode cL_machine 117 = .ok (.iconst 0, 1) := by decide +kernel
theorem dL_machine_118 : decode cL_machine 118 = .ok (.putfield 83, 3) := by decide +kernel
theorem dL_machine_121 : decode cL_machine 121 = .ok (.aload_n 0, 1) := by decide +kernel
theorem dL_machine_122 : decode cL_machine 122 = .ok (.aload_n 1, 1) := by decide +kernel
theorem dL_machine_123 : decode cL_machine 123 = .ok (.getfield 70, 3) := by decide +kernel
theorem dL_machine_126 : decode cL_machine 126 = .ok (.aload_n 1, 1) := by decide +kernel
theorem dL_machine_127 : decode cL_machine 127 = .ok (.getfield 73, 3) := by decide +kernel
theorem dL_machine_130 : decode cL_machine 130 = .ok (.aload_n 1, 1) := by decide +kernel
theorem dL_machine_131 : decode cL_machine 131 = .ok (.getfield 76, 3) := by decide +kernel
theorem dL_machine_134 : decode cL_machine 134 = .ok (.aload_n 1, 1) := by decide +kernel
theorem dL_machine_135 : decode cL_machine 135 = .ok (.getfield 79, 3) := by decide +kernel
theorem dL_machine_138 : decode cL_machine 138 = .ok (.aload_n 1, 1) := by decide +kernel
theorem dL_machine_139 : decode cL_machine 139 = .ok (.getfield 83, 3) := by decide +kernel
theorem dL_machine_142 : decode cL_machine 142 = .ok (.invokevirtual 86, 3) := by decide +kernel
theorem dL_machine_145 : decode cL_machine 145 = .ok (.iload 4, 2) := by decide +kernel
theorem dL_machine_147 : decode cL_machine 147 = .ok (.if_icmp .eq 5, 3) := by decide +kernel
theorem dL_machine_150 : decode cL_machine 150 = .ok (.iconst 0, 1) := by decide +kernel
theorem dL_machine_151 : decode cL_machine 151 = .ok (.ireturn, 1) := by decide +kernel
theorem dL_machine_152 : decode cL_machine 152 = .ok (.iconst 0, 1) := by decide +kernel
theorem dL_machine_153 : decode cL_machine 153 = .ok (.istore 5, 2) := by decide +kernel
theorem dL_machine_155 : decode cL_machine 155 = .ok (.iload 5, 2) := by decide +kernel
theorem dL_machine_157 : decode cL_machine 157 = .ok (.bipush 8, 2) := by decide +kernel
theorem dL_machine_159 : decode cL_machine 159 = .ok (.if_icmp .ge 82, 3) := by decide +kernel
theorem dL_machine_162 : decode cL_machine 162 = .ok (.aload_n 2, 1) := by decide +kernel
theorem dL_machine_163 : decode cL_machine 163 = .ok (.iload 5, 2) := by decide +kernel
theorem dL_machine_165 : decode cL_machine 165 = .ok (.iconst 2, 1) := by decide +kernel
theorem dL_machine_166 : decode cL_machine 166 = .ok (.iadd, 1) := by decide +kernel
theorem dL_machine_167 : decode cL_machine 167 = .ok (.invokestatic 25, 3) := by decide +kernel
theorem dL_machine_170 : decode cL_machine 170 = .ok (.iconst 5, 1) := by decide +kernel
theorem dL_machine_171 : decode cL_machine 171 = .ok (.ishr, 1) := by decide +kernel
theorem dL_machine_172 : decode cL_machine 172 = .ok (.iconst 3, 1) := by decide +kernel
theorem dL_machine_173 : decode cL_machine 173 = .ok (.invokestatic 31, 3) := by decide +kernel
theorem dL_machine_176 : decode cL_machine 176 = .ok (.ifCond .le 6, 3) := by decide +kernel
theorem dL_machine_179 : decode cL_machine 179 = .ok (.goto 56, 3) := by decide +kernel
theorem dL_machine_182 : decode cL_machine 182 = .ok (.aload_n 1, 1) := by decide +kernel
theorem dL_machine_183 : decode cL_machine 183 = .ok (.getfield 89, 3) := by decide +kernel
theorem dL_machine_186 : decode cL_machine 186 = .ok (.iload 5, 2) := by decide +kernel
theorem dL_machine_188 : decode cL_machine 188 = .ok (.iaload, 1) := by decide +kernel
theorem dL_machine_189 : decode cL_machine 189 = .ok (.istore 6, 2) := by decide +kernel
theorem dL_machine_191 : decode cL_machine 191 = .ok (.aload_n 1, 1) := by decide +kernel
theorem dL_machine_192 : decode cL_machine 192 = .ok (.getfield 89, 3) := by decide +kernel
theorem dL_machine_195 : decode cL_machine 195 = .ok (.iload 5, 2) := by decide +kernel
theorem dL_machine_197 : decode cL_machine 197 = .ok (.iconst 1, 1) := by decide +kernel
theorem dL_machine_198 : decode cL_machine 198 = .ok (.aload_n 2, 1) := by decide +kernel
theorem dL_machine_199 : decode cL_machine 199 = .ok (.iload 5, 2) := by decide +kernel
theorem dL_machine_201 : decode cL_machine 201 = .ok (.iconst 4, 1) := by decide +kernel
theorem dL_machine_202 : decode cL_machine 202 = .ok (.iadd, 1) := by decide +kernel
theorem dL_machine_203 : decode cL_machine 203 = .ok (.invokestatic 25, 3) := by decide +kernel
theorem dL_machine_206 : decode cL_machine 206 = .ok (.iconst 3, 1) := by decide +kernel
theorem dL_machine_207 : decode cL_machine 207 = .ok (.ishr, 1) := by decide +kernel
theorem dL_machine_208 : decode cL_machine 208 = .ok (.bipush 9, 2) := by decide +kernel
theorem dL_machine_210 : decode cL_machine 210 = .ok (.invokestatic 31, 3) := by decide +kernel
theorem dL_machine_213 : decode cL_machine 213 = .ok (.iadd, 1) := by decide +kernel
theorem dL_machine_214 : decode cL_machine 214 = .ok (.iastore, 1) := by decide +kernel
theorem dL_machine_215 : decode cL_machine 215 = .ok (.aload_n 0, 1) := by decide +kernel
theorem dL_machine_216 : decode cL_machine 216 = .ok (.iload 5, 2) := by decide +kernel
theorem dL_machine_218 : decode cL_machine 218 = .ok (.aload_n 1, 1) := by decide +kernel
theorem dL_machine_219 : decode cL_machine 219 = .ok (.getfield 89, 3) := by decide +kernel
theorem dL_machine_222 : decode cL_machine 222 = .ok (.iload 5, 2) := by decide +kernel
theorem dL_machine_224 : decode cL_machine 224 = .ok (.iaload, 1) := by decide +kernel
theorem dL_machine_225 : decode cL_machine 225 = .ok (.invokevirtual 92, 3) := by decide +kernel
theorem dL_machine_228 : decode cL_machine 228 = .ok (.iload 6, 2) := by decide +kernel
theorem dL_machine_230 : decode cL_machine 230 = .ok (.if_icmp .eq 5, 3) := by decide +kernel
theorem dL_machine_233 : decode cL_machine 233 = .ok (.iconst 0, 1) := by decide +kernel
theorem dL_machine_234 : decode cL_machine 234 = .ok (.ireturn, 1) := by decide +kernel
theorem dL_machine_235 : decode cL_machine 235 = .ok (.iinc 5 1, 3) := by decide +kernel
theorem dL_machine_238 : decode cL_machine 238 = .ok (.goto (-83), 3) := by decide +kernel
theorem dL_machine_241 : decode cL_machine 241 = .ok (.iconst 1, 1) := by decide +kernel
theorem dL_machine_242 : decode cL_machine 242 = .ok (.ireturn, 1) := by decide +kernel
theorem dL_law_0 : decode cL_law 0 = .ok (.new 16, 3) := by decide +kernel
theorem dL_law_3 : decode cL_law 3 = .ok (.dup, 1) := by decide +kernel
theorem dL_law_4 : decode cL_law 4 = .ok (.invokespecial 95, 3) := by decide +kernel
theorem dL_law_7 : decode cL_law 7 = .ok (.astore_n 1, 1) := by decide +kernel
theorem dL_law_8 : decode cL_law 8 = .ok (.new 10, 3) := by decide +kernel
theorem dL_law_11 : decode cL_law 11 = .ok (.dup, 1) := by decide +kernel
theorem dL_law_12 : decode cL_law 12 = .ok (.invokespecial 96, 3) := by decide +kernel
theorem dL_law_15 : decode cL_law 15 = .ok (.astore_n 2, 1) := by decide +kernel
theorem dL_law_16 : decode cL_law 16 = .ok (.aload_n 1, 1) := by decide +kernel
theorem dL_law_17 : decode cL_law 17 = .ok (.aload_n 2, 1) := by decide +kernel
theorem dL_law_18 : decode cL_law 18 = .ok (.aload_n 0, 1) := by decide +kernel
theorem dL_law_19 : decode cL_law 19 = .ok (.aload_n 0, 1) := by decide +kernel
theorem dL_law_20 : decode cL_law 20 = .ok (.bipush 15, 2) := by decide +kernel
theorem dL_law_22 : decode cL_law 22 = .ok (.invokestatic 25, 3) := by decide +kernel
theorem dL_law_25 : decode cL_law 25 = .ok (.iconst 4, 1) := by decide +kernel
theorem dL_law_26 : decode cL_law 26 = .ok (.invokestatic 31, 3) := by decide +kernel
theorem dL_law_29 : decode cL_law 29 = .ok (.invokestatic 97, 3) := by decide +kernel
theorem dL_law_32 : decode cL_law 32 = .ok (.ifCond .ne 5, 3) := by decide +kernel
theorem dL_law_35 : decode cL_law 35 = .ok (.iconst 0, 1) := by decide +kernel
theorem dL_law_36 : decode cL_law 36 = .ok (.ireturn, 1) := by decide +kernel
theorem dL_law_37 : decode cL_law 37 = .ok (.iconst 0, 1) := by decide +kernel
theorem dL_law_38 : decode cL_law 38 = .ok (.istore_n 3, 1) := by decide +kernel
theorem dL_law_39 : decode cL_law 39 = .ok (.iload_n 3, 1) := by decide +kernel
theorem dL_law_40 : decode cL_law 40 = .ok (.iconst 4, 1) := by decide +kernel
theorem dL_law_41 : decode cL_law 41 = .ok (.if_icmp .ge 255, 3) := by decide +kernel
theorem dL_law_44 : decode cL_law 44 = .ok (.iconst 5, 1) := by decide +kernel
theorem dL_law_45 : decode cL_law 45 = .ok (.aload_n 0, 1) := by decide +kernel
theorem dL_law_46 : decode cL_law 46 = .ok (.iload_n 3, 1) := by decide +kernel
theorem dL_law_47 : decode cL_law 47 = .ok (.iconst 2, 1) := by decide +kernel
theorem dL_law_48 : decode cL_law 48 = .ok (.iadd, 1) := by decide +kernel
theorem dL_law_49 : decode cL_law 49 = .ok (.invokestatic 25, 3) := by decide +kernel
theorem dL_law_52 : decode cL_law 52 = .ok (.bipush 7, 2) := by decide +kernel
theorem dL_law_54 : decode cL_law 54 = .ok (.invokestatic 31, 3) := by decide +kernel
theorem dL_law_57 : decode cL_law 57 = .ok (.iadd, 1) := by decide +kernel
theorem dL_law_58 : decode cL_law 58 = .ok (.istore 4, 2) := by decide +kernel
theorem dL_law_60 : decode cL_law 60 = .ok (.aload_n 0, 1) := by decide +kernel
theorem dL_law_61 : decode cL_law 61 = .ok (.iload_n 3, 1) := by decide +kernel
theorem dL_law_62 : decode cL_law 62 = .ok (.iconst 5, 1) := by decide +kernel
theorem dL_law_63 : decode cL_law 63 = .ok (.iadd, 1) := by decide +kernel
theorem dL_law_64 : decode cL_law 64 = .ok (.invokestatic 25, 3) := by decide +kernel
theorem dL_law_67 : decode cL_law 67 = .ok (.iconst 2, 1) := by decide +kernel
theorem dL_law_68 : decode cL_law 68 = .ok (.ishr, 1) := by decide +kernel
theorem dL_law_69 : decode cL_law 69 = .ok (.sipush 256, 3) := by decide +kernel
theorem dL_law_72 : decode cL_law 72 = .ok (.invokestatic 31, 3) := by decide +kernel
theorem dL_law_75 : decode cL_law 75 = .ok (.iconst 1, 1) := by decide +kernel
theorem dL_law_76 : decode cL_law 76 = .ok (.iload 4, 2) := by decide +kernel
theorem dL_law_78 : decode cL_law 78 = .ok (.iconst 3, 1) := by decide +kernel
theorem dL_law_79 : decode cL_law 79 = .ok (.isub, 1) := by decide +kernel
theorem dL_law_80 : decode cL_law 80 = .ok (.ishl, 1) := by decide +kernel
theorem dL_law_81 : decode cL_law 81 = .ok (.iconst 4, 1) := by decide +kernel
theorem dL_law_82 : decode cL_law 82 = .ok (.isub, 1) := by decide +kernel
theorem dL_law_83 : decode cL_law 83 = .ok (.iand, 1) := by decide +kernel
theorem dL_law_84 : decode cL_law 84 = .ok (.istore 5, 2) := by decide +kernel
theorem dL_law_86 : decode cL_law 86 = .ok (.aload_n 0, 1) := by decide +kernel
theorem dL_law_87 : decode cL_law 87 = .ok (.iload_n 3, 1) := by decide +kernel
theorem dL_law_88 : decode cL_law 88 = .ok (.bipush 8, 2) := by decide +kernel
theorem dL_law_90 : decode cL_law 90 = .ok (.iadd, 1) := by decide +kernel
theorem dL_law_91 : decode cL_law 91 = .ok (.invokestatic 25, 3) := by decide +kernel
theorem dL_law_94 : decode cL_law 94 = .ok (.iconst 2, 1) := by decide +kernel
theorem dL_law_95 : decode cL_law 95 = .ok (.invokestatic 31, 3) := by decide +kernel
theorem dL_law_98 : decode cL_law 98 = .ok (.ifCond .ne 7, 3) := by decide +kernel
theorem dL_law_101 : decode cL_law 101 = .ok (.iconst 1, 1) := by decide +kernel
theorem dL_law_102 : decode cL_law 102 = .ok (.goto 4, 3) := by decide +kernel
theorem dL_law_105 : decode cL_law 105 = .ok (.iconst 0, 1) := by decide +kernel
theorem dL_law_106 : decode cL_law 106 = .ok (.istore 6, 2) := by decide +kernel
theorem dL_law_108 : decode cL_law 108 = .ok (.bipush 16, 2) := by decide +kernel
theorem dL_law_110 : decode cL_law 110 = .ok (.newarray .int, 2) := by decide +kernel
theorem dL_law_112 : decode cL_law 112 = .ok (.astore 7, 2) := by decide +kernel
theorem dL_law_114 : decode cL_law 114 = .ok (.iconst 3, 1) := by decide +kernel
theorem dL_law_115 : decode cL_law 115 = .ok (.istore 8, 2) := by decide +kernel
theorem dL_law_117 : decode cL_law 117 = .ok (.iload 8, 2) := by decide +kernel
theorem dL_law_119 : decode cL_law 119 = .ok (.bipush 16, 2) := by decide +kernel
theorem dL_law_121 : decode cL_law 121 = .ok (.if_icmp .ge 26, 3) := by decide +kernel
theorem dL_law_124 : decode cL_law 124 = .ok (.aload 7, 2) := by decide +kernel
theorem dL_law_126 : decode cL_law 126 = .ok (.iload 8, 2) := by decide +kernel
theorem dL_law_128 : decode cL_law 128 = .ok (.aload_n 1, 1) := by decide +kernel
theorem dL_law_129 : decode cL_law 129 = .ok (.iload 4, 2) := by decide +kernel
theorem dL_law_131 : decode cL_law 131 = .ok (.iload 5, 2) := by decide +kernel
theorem dL_law_133 : decode cL_law 133 = .ok (.iload 6, 2) := by decide +kernel
theorem dL_law_135 : decode cL_law 135 = .ok (.iload 8, 2) := by decide +kernel
theorem dL_law_137 : decode cL_law 137 = .ok (.invokevirtual 100, 3) := by decide +kernel
theorem dL_law_140 : decode cL_law 140 = .ok (.iastore, 1) := by decide +kernel
theorem dL_law_141 : decode cL_law 141 = .ok (.iinc 8 1, 3) := by decide +kernel
theorem dL_law_144 : decode cL_law 144 = .ok (.goto (-27), 3) := by decide +kernel
theorem dL_law_147 : decode cL_law 147 = .ok (.aload_n 1, 1) := by decide +kernel
theorem dL_law_148 : decode cL_law 148 = .ok (.iload 4, 2) := by decide +kernel
theorem dL_law_150 : decode cL_law 150 = .ok (.iload 5, 2) := by decide +kernel
theorem dL_law_152 : decode cL_law 152 = .ok (.aload_n 2, 1) := by decide +kernel
theorem dL_law_153 : decode cL_law 153 = .ok (.getfield 76, 3) := by decide +kernel
theorem dL_law_156 : decode cL_law 156 = .ok (.aload_n 2, 1) := by decide +kernel
theorem dL_law_157 : decode cL_law 157 = .ok (.getfield 79, 3) := by decide +kernel
theorem dL_law_160 : decode cL_law 160 = .ok (.iload 6, 2) := by decide +kernel
theorem dL_law_162 : decode cL_law 162 = .ok (.invokevirtual 86, 3) := by decide +kernel
theorem dL_law_165 : decode cL_law 165 = .ok (.iconst 5, 1) := by decide +kernel
theorem dL_law_166 : decode cL_law 166 = .ok (.if_icmp .ge 5, 3) := by decide +kernel
theorem dL_law_169 : decode cL_law 169 = .ok (.iconst 0, 1) := by decide +kernel
theorem dL_law_170 : decode cL_law 170 = .ok (.ireturn, 1) := by decide +kernel
theorem dL_law_171 : decode cL_law 171 = .ok (.iconst 3, 1) := by decide +kernel
theorem dL_law_172 : decode cL_law 172 = .ok (.istore 8, 2) := by decide +kernel
theorem dL_law_174 : decode cL_law 174 = .ok (.iload 8, 2) := by decide +kernel
theorem dL_law_176 : decode cL_law 176 = .ok (.bipush 16, 2) := by decide +kernel
theorem dL_law_178 : decode cL_law 178 = .ok (.if_icmp .ge 25, 3) := by decide +kernel
theorem dL_law_181 : decode cL_law 181 = .ok (.aload_n 1, 1) := by decide +kernel
theorem dL_law_182 : decode cL_law 182 = .ok (.iload 8, 2) := by decide +kernel
theorem dL_law_184 : decode cL_law 184 = .ok (.invokevirtual 103, 3) := by decide +kernel
theorem dL_law_187 : decode cL_law 187 = .ok (.aload 7, 2) := by decide +kernel
theorem dL_law_189 : decode cL_law 189 = .ok (.iload 8, 2) := by decide +kernel
theorem dL_law_191 : decode cL_law 191 = .ok (.iaload, 1) := by decide +kernel
theorem dL_law_192 : decode cL_law 192 = .ok (.if_icmp .eq 5, 3) := by decide +kernel
theorem dL_law_195 : decode cL_law 195 = .ok (.iconst 0, 1) := by decide +kernel
theorem dL_law_196 : decode cL_law 196 = .ok (.ireturn, 1) := by decide +kernel
theorem dL_law_197 : decode cL_law 197 = .ok (.iinc 8 1, 3) := by decide +kernel
theorem dL_law_200 : decode cL_law 200 = .ok (.goto (-26), 3) := by decide +kernel
theorem dL_law_203 : decode cL_law 203 = .ok (.aload_n 0, 1) := by decide +kernel
theorem dL_law_204 : decode cL_law 204 = .ok (.iload_n 3, 1) := by decide +kernel
theorem dL_law_205 : decode cL_law 205 = .ok (.bipush 11, 2) := by decide +kernel
theorem dL_law_207 : decode cL_law 207 = .ok (.iadd, 1) := by decide +kernel
theorem dL_law_208 : decode cL_law 208 = .ok (.invokestatic 25, 3) := by decide +kernel
theorem dL_law_211 : decode cL_law 211 = .ok (.bipush 8, 2) := by decide +kernel
theorem dL_law_213 : decode cL_law 213 = .ok (.invokestatic 31, 3) := by decide +kernel
theorem dL_law_216 : decode cL_law 216 = .ok (.istore 8, 2) := by decide +kernel
theorem dL_law_218 : decode cL_law 218 = .ok (.iconst 1, 1) := by decide +kernel
theorem dL_law_219 : decode cL_law 219 = .ok (.aload_n 0, 1) := by decide +kernel
theorem dL_law_220 : decode cL_law 220 = .ok (.iload_n 3, 1) := by decide +kernel
theorem dL_law_221 : decode cL_law 221 = .ok (.bipush 12, 2) := by decide +kernel
theorem dL_law_223 : decode cL_law 223 = .ok (.iadd, 1) := by decide +kernel
theorem dL_law_224 : decode cL_law 224 = .ok (.invokestatic 25, 3) := by decide +kernel
theorem dL_law_227 : decode cL_law 227 = .ok (.iconst 3, 1) := by decide +kernel
theorem dL_law_228 : decode cL_law 228 = .ok (.ishr, 1) := by decide +kernel
theorem dL_law_229 : decode cL_law 229 = .ok (.bipush 9, 2) := by decide +kernel
theorem dL_law_231 : decode cL_law 231 = .ok (.invokestatic 31, 3) := by decide +kernel
theorem dL_law_234 : decode cL_law 234 = .ok (.iadd, 1) := by decide +kernel
theorem dL_law_235 : decode cL_law 235 = .ok (.istore 9, 2) := by decide +kernel
theorem dL_law_237 : decode cL_law 237 = .ok (.aload_n 1, 1) := by decide +kernel
theorem dL_law_238 : decode cL_law 238 = .ok (.iload 8, 2) := by decide +kernel
theorem dL_law_240 : decode cL_law 240 = .ok (.iload 9, 2) := by decide +kernel
theorem dL_law_242 : decode cL_law 242 = .ok (.invokevirtual 106, 3) := by decide +kernel
theorem dL_law_245 : decode cL_law 245 = .ok (.istore 10, 2) := by decide +kernel
theorem dL_law_247 : decode cL_law 247 = .ok (.aload_n 1, 1) := by decide +kernel
theorem dL_law_248 : decode cL_law 248 = .ok (.iload 8, 2) := by decide +kernel
theorem dL_law_250 : decode cL_law 250 = .ok (.iload 9, 2) := by decide +kernel
theorem dL_law_252 : decode cL_law 252 = .ok (.invokevirtual 92, 3) := by decide +kernel
theorem dL_law_255 : decode cL_law 255 = .ok (.iconst 1, 1) := by decide +kernel
theorem dL_law_256 : decode cL_law 256 = .ok (.if_icmp .lt 32, 3) := by decide +kernel
theorem dL_law_259 : decode cL_law 259 = .ok (.aload_n 1, 1) := by decide +kernel
theorem dL_law_260 : decode cL_law 260 = .ok (.bipush 13, 2) := by decide +kernel
theorem dL_law_262 : decode cL_law 262 = .ok (.invokevirtual 103, 3) := by decide +kernel
theorem dL_law_265 : decode cL_law 265 = .ok (.iload 10, 2) := by decide +kernel
theorem dL_law_267 : decode cL_law 267 = .ok (.if_icmp .ne 21, 3) := by decide +kernel
theorem dL_law_270 : decode cL_law 270 = .ok (.aload_n 1, 1) := by decide +kernel
theorem dL_law_271 : decode cL_law 271 = .ok (.aload_n 2, 1) := by decide +kernel
theorem dL_law_272 : decode cL_law 272 = .ok (.invokestatic 109, 3) := by decide +kernel
theorem dL_law_275 : decode cL_law 275 = .ok (.ifCond .eq 13, 3) := by decide +kernel
theorem dL_law_278 : decode cL_law 278 = .ok (.aload_n 1, 1) := by decide +kernel
theorem dL_law_279 : decode cL_law 279 = .ok (.aload_n 2, 1) := by decide +kernel
theorem dL_law_280 : decode cL_law 280 = .ok (.iload 4, 2) := by decide +kernel
theorem dL_law_282 : decode cL_law 282 = .ok (.invokestatic 113, 3) := by decide +kernel
theorem dL_law_285 : decode cL_law 285 = .ok (.ifCond .ne 5, 3) := by decide +kernel
theorem dL_law_288 : decode cL_law 288 = .ok (.iconst 0, 1) := by decide +kernel
theorem dL_law_289 : decode cL_law 289 = .ok (.ireturn, 1) := by decide +kernel
theorem dL_law_290 : decode cL_law 290 = .ok (.iinc 3 1, 3) := by decide +kernel
theorem dL_law_293 : decode cL_law 293 = .ok (.goto (-254), 3) := by decide +kernel
theorem dL_law_296 : decode cL_law 296 = .ok (.aload_n 1, 1) := by decide +kernel
theorem dL_law_297 : decode cL_law 297 = .ok (.invokevirtual 117, 3) := by decide +kernel
theorem dL_law_300 : decode cL_law 300 = .ok (.lstore_n 3, 1) := by decide +kernel
theorem dL_law_301 : decode cL_law 301 = .ok (.aload_n 1, 1) := by decide +kernel
theorem dL_law_302 : decode cL_law 302 = .ok (.invokevirtual 121, 3) := by decide +kernel
theorem dL_law_305 : decode cL_law 305 = .ok (.istore 5, 2) := by decide +kernel
theorem dL_law_307 : decode cL_law 307 = .ok (.iload 5, 2) := by decide +kernel
theorem dL_law_309 : decode cL_law 309 = .ok (.ifCond .lt 16, 3) := by decide +kernel
theorem dL_law_312 : decode cL_law 312 = .ok (.iload 5, 2) := by decide +kernel
theorem dL_law_314 : decode cL_law 314 = .ok (.iconst 5, 1) := by decide +kernel
theorem dL_law_315 : decode cL_law 315 = .ok (.if_icmp .lt 20, 3) := by decide +kernel
theorem dL_law_318 : decode cL_law 318 = .ok (.iload 5, 2) := by decide +kernel
theorem dL_law_320 : decode cL_law 320 = .ok (.bipush 11, 2) := by decide +kernel
theorem dL_law_322 : decode cL_law 322 = .ok (.if_icmp .gt 13, 3) := by decide +kernel
theorem dL_law_325 : decode cL_law 325 = .ok (.aload_n 1, 1) := by decide +kernel
theorem dL_law_326 : decode cL_law 326 = .ok (.invokevirtual 125, 3) := by decide +kernel
theorem dL_law_329 : decode cL_law 329 = .ok (.sipush (-9999), 3) := by decide +kernel
theorem dL_law_332 : decode cL_law 332 = .ok (.if_icmp .ge 5, 3) := by decide +kernel
theorem dL_law_335 : decode cL_law 335 = .ok (.iconst 0, 1) := by decide +kernel
theorem dL_law_336 : decode cL_law 336 = .ok (.ireturn, 1) := by decide +kernel
theorem dL_law_337 : decode cL_law 337 = .ok (.aload_n 1, 1) := by decide +kernel
theorem dL_law_338 : decode cL_law 338 = .ok (.invokevirtual 117, 3) := by decide +kernel
theorem dL_law_341 : decode cL_law 341 = .ok (.lload_n 3, 1) := by decide +kernel
theorem dL_law_342 : decode cL_law 342 = .ok (.lcmp, 1) := by decide +kernel
theorem dL_law_343 : decode cL_law 343 = .ok (.ifCond .ne 7, 3) := by decide +kernel
theorem dL_law_346 : decode cL_law 346 = .ok (.iconst 1, 1) := by decide +kernel
theorem dL_law_347 : decode cL_law 347 = .ok (.goto 4, 3) := by decide +kernel
theorem dL_law_350 : decode cL_law 350 = .ok (.iconst 0, 1) := by decide +kernel
theorem dL_law_351 : decode cL_law 351 = .ok (.ireturn, 1) := by decide +kernel
theorem dL_isMeant_0 : decode cL_isMeant 0 = .ok (.aload_n 1, 1) := by decide +kernel
theorem dL_isMeant_1 : decode cL_isMeant 1 = .ok (.invokevirtual 128, 3) := by decide +kernel
theorem dL_isMeant_4 : decode cL_isMeant 4 = .ok (.astore_n 2, 1) := by decide +kernel
theorem dL_isMeant_5 : decode cL_isMeant 5 = .ok (.iconst 0, 1) := by decide +kernel
theorem dL_isMeant_6 : decode cL_isMeant 6 = .ok (.istore_n 3, 1) := by decide +kernel
theorem dL_isMeant_7 : decode cL_isMeant 7 = .ok (.iload_n 3, 1) := by decide +kernel
theorem dL_isMeant_8 : decode cL_isMeant 8 = .ok (.bipush 8, 2) := by decide +kernel
theorem dL_isMeant_10 : decode cL_isMeant 10 = .ok (.if_icmp .ge 45, 3) := by decide +kernel
theorem dL_isMeant_13 : decode cL_isMeant 13 = .ok (.aload_n 0, 1) := by decide +kernel
theorem dL_isMeant_14 : decode cL_isMeant 14 = .ok (.iload_n 3, 1) := by decide +kernel
theorem dL_isMeant_15 : decode cL_isMeant 15 = .ok (.invokevirtual 132, 3) := by decide +kernel
theorem dL_isMeant_18 : decode cL_isMeant 18 = .ok (.aload_n 2, 1) := by decide +kernel
theorem dL_isMeant_19 : decode cL_isMeant 19 = .ok (.iload_n 3, 1) := by decide +kernel
theorem dL_isMeant_20 : decode cL_isMeant 20 = .ok (.iaload, 1) := by decide +kernel
theorem dL_isMeant_21 : decode cL_isMeant 21 = .ok (.if_icmp .ne 26, 3) := by decide +kernel
theorem dL_isMeant_24 : decode cL_isMeant 24 = .ok (.aload_n 1, 1) := by decide +kernel
theorem dL_isMeant_25 : decode cL_isMeant 25 = .ok (.getfield 59, 3) := by decide +kernel
theorem dL_isMeant_28 : decode cL_isMeant 28 = .ok (.iload_n 3, 1) := by decide +kernel
theorem dL_isMeant_29 : decode cL_isMeant 29 = .ok (.ishr, 1) := by decide +kernel
theorem dL_isMeant_30 : decode cL_isMeant 30 = .ok (.iconst 1, 1) := by decide +kernel
theorem dL_isMeant_31 : decode cL_isMeant 31 = .ok (.iand, 1) := by decide +kernel
theorem dL_isMeant_32 : decode cL_isMeant 32 = .ok (.iconst 1, 1) := by decide +kernel
theorem dL_isMeant_33 : decode cL_isMeant 33 = .ok (.if_icmp .ne 16, 3) := by decide +kernel
theorem dL_isMeant_36 : decode cL_isMeant 36 = .ok (.aload_n 0, 1) := by decide +kernel
theorem dL_isMeant_37 : decode cL_isMeant 37 = .ok (.iload_n 3, 1) := by decide +kernel
theorem dL_isMeant_38 : decode cL_isMeant 38 = .ok (.invokevirtual 134, 3) := by decide +kernel
theorem dL_isMeant_41 : decode cL_isMeant 41 = .ok (.aload_n 2, 1) := by decide +kernel
theorem dL_isMeant_42 : decode cL_isMeant 42 = .ok (.iload_n 3, 1) := by decide +kernel
theorem dL_isMeant_43 : decode cL_isMeant 43 = .ok (.iaload, 1) := by decide +kernel
theorem dL_isMeant_44 : decode cL_isMeant 44 = .ok (.if_icmp .eq 5, 3) := by decide +kernel
theorem dL_isMeant_47 : decode cL_isMeant 47 = .ok (.iconst 0, 1) := by decide +kernel
theorem dL_isMeant_48 : decode cL_isMeant 48 = .ok (.ireturn, 1) := by decide +kernel
theorem dL_isMeant_49 : decode cL_isMeant 49 = .ok (.iinc 3 1, 3) := by decide +kernel
theorem dL_isMeant_52 : decode cL_isMeant 52 = .ok (.goto (-45), 3) := by decide +kernel
theorem dL_isMeant_55 : decode cL_isMeant 55 = .ok (.iconst 1, 1) := by decide +kernel
theorem dL_isMeant_56 : decode cL_isMeant 56 = .ok (.ireturn, 1) := by decide +kernel
theorem dL_isWhole_0 : decode cL_isWhole 0 = .ok (.iconst 0, 1) := by decide +kernel
theorem dL_isWhole_1 : decode cL_isWhole 1 = .ok (.istore_n 3, 1) := by decide +kernel
theorem dL_isWhole_2 : decode cL_isWhole 2 = .ok (.iconst 0, 1) := by decide +kernel
theorem dL_isWhole_3 : decode cL_isWhole 3 = .ok (.istore 4, 2) := by decide +kernel
theorem dL_isWhole_5 : decode cL_isWhole 5 = .ok (.iload 4, 2) := by decide +kernel
theorem dL_isWhole_7 : decode cL_isWhole 7 = .ok (.aload_n 0, 1) := by decide +kernel
theorem dL_isWhole_8 : decode cL_isWhole 8 = .ok (.iconst 3, 1) := by decide +kernel
theorem dL_isWhole_9 : decode cL_isWhole 9 = .ok (.invokevirtual 103, 3) := by decide +kernel
theorem dL_isWhole_12 : decode cL_isWhole 12 = .ok (.if_icmp .ge 138, 3) := by decide +kernel
theorem dL_isWhole_15 : decode cL_isWhole 15 = .ok (.iconst 1, 1) := by decide +kernel
theorem dL_isWhole_16 : decode cL_isWhole 16 = .ok (.istore 5, 2) := by decide +kernel
theorem dL_isWhole_18 : decode cL_isWhole 18 = .ok (.iload 5, 2) := by decide +kernel
theorem dL_isWhole_20 : decode cL_isWhole 20 = .ok (.iconst 5, 1) := by decide +kernel
theorem dL_isWhole_21 : decode cL_isWhole 21 = .ok (.if_icmp .ge 123, 3) := by decide +kernel
theorem dL_isWhole_24 : decode cL_isWhole 24 = .ok (.aload_n 0, 1) := by decide +kernel
theorem dL_isWhole_25 : decode cL_isWhole 25 = .ok (.iload 4, 2) := by decide +kernel
theorem dL_isWhole_27 : decode cL_isWhole 27 = .ok (.iload 5, 2) := by decide +kernel
theorem dL_isWhole_29 : decode cL_isWhole 29 = .ok (.invokevirtual 137, 3) := by decide +kernel
theorem dL_isWhole_32 : decode cL_isWhole 32 = .ok (.istore 6, 2) := by decide +kernel
theorem dL_isWhole_34 : decode cL_isWhole 34 = .ok (.iload 6, 2) := by decide +kernel
theorem dL_isWhole_36 : decode cL_isWhole 36 = .ok (.ifCond .ge 6, 3) := by decide +kernel
theorem dL_isWhole_39 : decode cL_isWhole 39 = .ok (.goto 99, 3) := by decide +kernel
theorem dL_isWhole_42 : decode cL_isWhole 42 = .ok (.aload_n 0, 1) := by decide +kernel
theorem dL_isWhole_43 : decode cL_isWhole 43 = .ok (.iload 6, 2) := by decide +kernel
theorem dL_isWhole_45 : decode cL_isWhole 45 = .ok (.iconst 3, 1) := by decide +kernel
theorem dL_isWhole_46 : decode cL_isWhole 46 = .ok (.invokevirtual 140, 3) := by decide +kernel
theorem dL_isWhole_49 : decode cL_isWhole 49 = .ok (.istore 7, 2) := by decide +kernel
theorem dL_isWhole_51 : decode cL_isWhole 51 = .ok (.iload 7, 2) := by decide +kernel
theorem dL_isWhole_53 : decode cL_isWhole 53 = .ok (.ifCond .ge 7, 3) := by decide +kernel
theorem dL_isWhole_56 : decode cL_isWhole 56 = .ok (.iconst 1, 1) := by decide +kernel
theorem dL_isWhole_57 : decode cL_isWhole 57 = .ok (.goto 4, 3) := by decide +kernel
theorem dL_isWhole_60 : decode cL_isWhole 60 = .ok (.iconst 0, 1) := by decide +kernel
theorem dL_isWhole_61 : decode cL_isWhole 61 = .ok (.istore 8, 2) := by decide +kernel
theorem dL_isWhole_63 : decode cL_isWhole 63 = .ok (.iload 8, 2) := by decide +kernel
theorem dL_isWhole_65 : decode cL_isWhole 65 = .ok (.ifCond .eq 40, 3) := by decide +kernel
theorem dL_isWhole_68 : decode cL_isWhole 68 = .ok (.aload_n 0, 1) := by decide +kernel
theorem dL_isWhole_69 : decode cL_isWhole 69 = .ok (.iload 6, 2) := by decide +kernel
theorem dL_isWhole_71 : decode cL_isWhole 71 = .ok (.iconst 4, 1) := by decide +kernel
theorem dL_isWhole_72 : decode cL_isWhole 72 = .ok (.invokevirtual 140, 3) := by decide +kernel
theorem dL_isWhole_75 : decode cL_isWhole 75 = .ok (.ifCond .ge 7, 3) := by decide +kernel
theorem dL_isWhole_78 : decode cL_isWhole 78 = .ok (.iconst 1, 1) := by decide +kernel
theorem dL_isWhole_79 : decode cL_isWhole 79 = .ok (.goto 4, 3) := by decide +kernel
theorem dL_isWhole_82 : decode cL_isWhole 82 = .ok (.iconst 0, 1) := by decide +kernel
theorem dL_isWhole_83 : decode cL_isWhole 83 = .ok (.aload_n 0, 1) := by decide +kernel
theorem dL_isWhole_84 : decode cL_isWhole 84 = .ok (.iload 6, 2) := by decide +kernel
theorem dL_isWhole_86 : decode cL_isWhole 86 = .ok (.iconst 5, 1) := by decide +kernel
theorem dL_isWhole_87 : decode cL_isWhole 87 = .ok (.invokevirtual 140, 3) := by decide +kernel
theorem dL_isWhole_90 : decode cL_isWhole 90 = .ok (.iconst 1, 1) := by decide +kernel
theorem dL_isWhole_91 : decode cL_isWhole 91 = .ok (.if_icmp .ne 7, 3) := by decide +kernel
theorem dL_isWhole_94 : decode cL_isWhole 94 = .ok (.iconst 1, 1) := by decide +kernel
theorem dL_isWhole_95 : decode cL_isWhole 95 = .ok (.goto 4, 3) := by decide +kernel
theorem dL_isWhole_98 : decode cL_isWhole 98 = .ok (.iconst 0, 1) := by decide +kernel
theorem dL_isWhole_99 : decode cL_isWhole 99 = .ok (.if_icmp .eq 26, 3) := by decide +kernel
theorem dL_isWhole_102 : decode cL_isWhole 102 = .ok (.goto 21, 3) := by decide +kernel
theorem dL_isWhole_105 : decode cL_isWhole 105 = .ok (.iload 7, 2) := by decide +kernel
theorem dL_isWhole_107 : decode cL_isWhole 107 = .ok (.iload_n 2, 1) := by decide +kernel
theorem dL_isWhole_108 : decode cL_isWhole 108 = .ok (.iconst 4, 1) := by decide +kernel
theorem dL_isWhole_109 : decode cL_isWhole 109 = .ok (.isub, 1) := by decide +kernel
theorem dL_isWhole_110 : decode cL_isWhole 110 = .ok (.if_icmp .gt 13, 3) := by decide +kernel
theorem dL_isWhole_113 : decode cL_isWhole 113 = .ok (.aload_n 0, 1) := by decide +kernel
theorem dL_isWhole_114 : decode cL_isWhole 114 = .ok (.iload 6, 2) := by decide +kernel
theorem dL_isWhole_116 : decode cL_isWhole 116 = .ok (.iconst 4, 1) := by decide +kernel
theorem dL_isWhole_117 : decode cL_isWhole 117 = .ok (.invokevirtual 140, 3) := by decide +kernel
theorem dL_isWhole_120 : decode cL_isWhole 120 = .ok (.ifCond .lt 5, 3) := by decide +kernel
theorem dL_isWhole_123 : decode cL_isWhole 123 = .ok (.iconst 0, 1) := by decide +kernel
theorem dL_isWhole_124 : decode cL_isWhole 124 = .ok (.ireturn, 1) := by decide +kernel
theorem dL_isWhole_125 : decode cL_isWhole 125 = .ok (.iload_n 3, 1) := by decide +kernel
theorem dL_isWhole_126 : decode cL_isWhole 126 = .ok (.iload 8, 2) := by decide +kernel
theorem dL_isWhole_128 : decode cL_isWhole 128 = .ok (.ifCond .eq 7, 3) := by decide +kernel
theorem dL_isWhole_131 : decode cL_isWhole 131 = .ok (.iconst 1, 1) := by decide +kernel
theorem dL_isWhole_132 : decode cL_isWhole 132 = .ok (.goto 4, 3) := by decide +kernel
theorem dL_isWhole_135 : decode cL_isWhole 135 = .ok (.iconst 0, 1) := by decide +kernel
theorem dL_isWhole_136 : decode cL_isWhole 136 = .ok (.iadd, 1) := by decide +kernel
theorem dL_isWhole_137 : decode cL_isWhole 137 = .ok (.istore_n 3, 1) := by decide +kernel
theorem dL_isWhole_138 : decode cL_isWhole 138 = .ok (.iinc 5 1, 3) := by decide +kernel
theorem dL_isWhole_141 : decode cL_isWhole 141 = .ok (.goto (-123), 3) := by decide +kernel
theorem dL_isWhole_144 : decode cL_isWhole 144 = .ok (.iinc 4 1, 3) := by decide +kernel
theorem dL_isWhole_147 : decode cL_isWhole 147 = .ok (.goto (-142), 3) := by decide +kernel
theorem dL_isWhole_150 : decode cL_isWhole 150 = .ok (.aload_n 0, 1) := by decide +kernel
theorem dL_isWhole_151 : decode cL_isWhole 151 = .ok (.iconst 5, 1) := by decide +kernel
theorem dL_isWhole_152 : decode cL_isWhole 152 = .ok (.invokevirtual 103, 3) := by decide +kernel
theorem dL_isWhole_155 : decode cL_isWhole 155 = .ok (.ifCond .ne 7, 3) := by decide +kernel
theorem dL_isWhole_158 : decode cL_isWhole 158 = .ok (.iconst 1, 1) := by decide +kernel
theorem dL_isWhole_159 : decode cL_isWhole 159 = .ok (.goto 4, 3) := by decide +kernel
theorem dL_isWhole_162 : decode cL_isWhole 162 = .ok (.iconst 0, 1) := by decide +kernel
theorem dL_isWhole_163 : decode cL_isWhole 163 = .ok (.iload_n 3, 1) := by decide +kernel
theorem dL_isWhole_164 : decode cL_isWhole 164 = .ok (.ifCond .ne 7, 3) := by decide +kernel
theorem dL_isWhole_167 : decode cL_isWhole 167 = .ok (.iconst 1, 1) := by decide +kernel
theorem dL_isWhole_168 : decode cL_isWhole 168 = .ok (.goto 4, 3) := by decide +kernel
theorem dL_isWhole_171 : decode cL_isWhole 171 = .ok (.iconst 0, 1) := by decide +kernel
theorem dL_isWhole_172 : decode cL_isWhole 172 = .ok (.if_icmp .ne 21, 3) := by decide +kernel
theorem dL_isWhole_175 : decode cL_isWhole 175 = .ok (.aload_n 0, 1) := by decide +kernel
theorem dL_isWhole_176 : decode cL_isWhole 176 = .ok (.bipush 7, 2) := by decide +kernel
theorem dL_isWhole_178 : decode cL_isWhole 178 = .ok (.invokevirtual 103, 3) := by decide +kernel
theorem dL_isWhole_181 : decode cL_isWhole 181 = .ok (.ifCond .ne 14, 3) := by decide +kernel
theorem dL_isWhole_184 : decode cL_isWhole 184 = .ok (.aload_n 0, 1) := by decide +kernel
theorem dL_isWhole_185 : decode cL_isWhole 185 = .ok (.bipush 11, 2) := by decide +kernel
theorem dL_isWhole_187 : decode cL_isWhole 187 = .ok (.invokevirtual 103, 3) := by decide +kernel
theorem dL_isWhole_190 : decode cL_isWhole 190 = .ok (.ifCond .le 5, 3) := by decide +kernel
theorem dL_isWhole_193 : decode cL_isWhole 193 = .ok (.iconst 0, 1) := by decide +kernel
theorem dL_isWhole_194 : decode cL_isWhole 194 = .ok (.ireturn, 1) := by decide +kernel
theorem dL_isWhole_195 : decode cL_isWhole 195 = .ok (.aload_n 0, 1) := by decide +kernel
theorem dL_isWhole_196 : decode cL_isWhole 196 = .ok (.bipush 12, 2) := by decide +kernel
theorem dL_isWhole_198 : decode cL_isWhole 198 = .ok (.invokevirtual 103, 3) := by decide +kernel
theorem dL_isWhole_201 : decode cL_isWhole 201 = .ok (.ifCond .le 52, 3) := by decide +kernel
theorem dL_isWhole_204 : decode cL_isWhole 204 = .ok (.aload_n 0, 1) := by decide +kernel
theorem dL_isWhole_205 : decode cL_isWhole 205 = .ok (.bipush 13, 2) := by decide +kernel
theorem dL_isWhole_207 : decode cL_isWhole 207 = .ok (.invokevirtual 103, 3) := by decide +kernel
theorem dL_isWhole_210 : decode cL_isWhole 210 = .ok (.aload_n 0, 1) := by decide +kernel
theorem dL_isWhole_211 : decode cL_isWhole 211 = .ok (.bipush 12, 2) := by decide +kernel
theorem dL_isWhole_213 : decode cL_isWhole 213 = .ok (.invokevirtual 103, 3) := by decide +kernel
theorem dL_isWhole_216 : decode cL_isWhole 216 = .ok (.aload_n 0, 1) := by decide +kernel
theorem dL_isWhole_217 : decode cL_isWhole 217 = .ok (.bipush 14, 2) := by decide +kernel
theorem dL_isWhole_219 : decode cL_isWhole 219 = .ok (.invokevirtual 103, 3) := by decide +kernel
theorem dL_isWhole_222 : decode cL_isWhole 222 = .ok (.iadd, 1) := by decide +kernel
theorem dL_isWhole_223 : decode cL_isWhole 223 = .ok (.if_icmp .lt 28, 3) := by decide +kernel
theorem dL_isWhole_226 : decode cL_isWhole 226 = .ok (.aload_n 0, 1) := by decide +kernel
theorem dL_isWhole_227 : decode cL_isWhole 227 = .ok (.bipush 13, 2) := by decide +kernel
theorem dL_isWhole_229 : decode cL_isWhole 229 = .ok (.invokevirtual 103, 3) := by decide +kernel
theorem dL_isWhole_232 : decode cL_isWhole 232 = .ok (.aload_n 0, 1) := by decide +kernel
theorem dL_isWhole_233 : decode cL_isWhole 233 = .ok (.bipush 12, 2) := by decide +kernel
theorem dL_isWhole_235 : decode cL_isWhole 235 = .ok (.invokevirtual 103, 3) := by decide +kernel
theorem dL_isWhole_238 : decode cL_isWhole 238 = .ok (.aload_n 0, 1) := by decide +kernel
theorem dL_isWhole_239 : decode cL_isWhole 239 = .ok (.bipush 14, 2) := by decide +kernel
theorem dL_isWhole_241 : decode cL_isWhole 241 = .ok (.invokevirtual 103, 3) := by decide +kernel
theorem dL_isWhole_244 : decode cL_isWhole 244 = .ok (.iadd, 1) := by decide +kernel
theorem dL_isWhole_245 : decode cL_isWhole 245 = .ok (.bipush 8, 2) := by decide +kernel
theorem dL_isWhole_247 : decode cL_isWhole 247 = .ok (.iadd, 1) := by decide +kernel
theorem dL_isWhole_248 : decode cL_isWhole 248 = .ok (.if_icmp .le 5, 3) := by decide +kernel
theorem dL_isWhole_251 : decode cL_isWhole 251 = .ok (.iconst 0, 1) := by decide +kernel
theorem dL_isWhole_252 : decode cL_isWhole 252 = .ok (.ireturn, 1) := by decide +kernel
theorem dL_isWhole_253 : decode cL_isWhole 253 = .ok (.aload_n 0, 1) := by decide +kernel
theorem dL_isWhole_254 : decode cL_isWhole 254 = .ok (.bipush 9, 2) := by decide +kernel
theorem dL_isWhole_256 : decode cL_isWhole 256 = .ok (.invokevirtual 103, 3) := by decide +kernel
theorem dL_isWhole_259 : decode cL_isWhole 259 = .ok (.aload_n 0, 1) := by decide +kernel
theorem dL_isWhole_260 : decode cL_isWhole 260 = .ok (.bipush 10, 2) := by decide +kernel
theorem dL_isWhole_262 : decode cL_isWhole 262 = .ok (.invokevirtual 103, 3) := by decide +kernel
theorem dL_isWhole_265 : decode cL_isWhole 265 = .ok (.aload_n 0, 1) := by decide +kernel
theorem dL_isWhole_266 : decode cL_isWhole 266 = .ok (.bipush 11, 2) := by decide +kernel
theorem dL_isWhole_268 : decode cL_isWhole 268 = .ok (.invokevirtual 103, 3) := by decide +kernel
theorem dL_isWhole_271 : decode cL_isWhole 271 = .ok (.iadd, 1) := by decide +kernel
theorem dL_isWhole_272 : decode cL_isWhole 272 = .ok (.if_icmp .lt 34, 3) := by decide +kernel
theorem dL_isWhole_275 : decode cL_isWhole 275 = .ok (.aload_n 0, 1) := by decide +kernel
theorem dL_isWhole_276 : decode cL_isWhole 276 = .ok (.bipush 15, 2) := by decide +kernel
theorem dL_isWhole_278 : decode cL_isWhole 278 = .ok (.invokevirtual 103, 3) := by decide +kernel
theorem dL_isWhole_281 : decode cL_isWhole 281 = .ok (.aload_n 0, 1) := by decide +kernel
theorem dL_isWhole_282 : decode cL_isWhole 282 = .ok (.iconst 4, 1) := by decide +kernel
theorem dL_isWhole_283 : decode cL_isWhole 283 = .ok (.invokevirtual 103, 3) := by decide +kernel
theorem dL_isWhole_286 : decode cL_isWhole 286 = .ok (.if_icmp .gt 20, 3) := by decide +kernel
theorem dL_isWhole_289 : decode cL_isWhole 289 = .ok (.aload_n 1, 1) := by decide +kernel
theorem dL_isWhole_290 : decode cL_isWhole 290 = .ok (.getfield 47, 3) := by decide +kernel
theorem dL_isWhole_293 : decode cL_isWhole 293 = .ok (.arraylength, 1) := by decide +kernel
theorem dL_isWhole_294 : decode cL_isWhole 294 = .ok (.aload_n 0, 1) := by decide +kernel
theorem dL_isWhole_295 : decode cL_isWhole 295 = .ok (.iconst 2, 1) := by decide +kernel
theorem dL_isWhole_296 : decode cL_isWhole 296 = .ok (.invokevirtual 103, 3) := by decide +kernel
theorem dL_isWhole_299 : decode cL_isWhole 299 = .ok (.if_icmp .ne 7, 3) := by decide +kernel
theorem dL_isWhole_302 : decode cL_isWhole 302 = .ok (.iconst 1, 1) := by decide +kernel
theorem dL_isWhole_303 : decode cL_isWhole 303 = .ok (.goto 4, 3) := by decide +kernel
theorem dL_isWhole_306 : decode cL_isWhole 306 = .ok (.iconst 0, 1) := by decide +kernel
theorem dL_isWhole_307 : decode cL_isWhole 307 = .ok (.ireturn, 1) := by decide +kernel
