theorem dX2_init_0 : decode cX2_init 0 = .ok (.aload_n 0, 1) := by decide +kernel
theorem dX2_init_1 : decode cX2_init 1 = .ok (.invokespecial 3, 3) := by decide +kernel
theorem dX2_init_4 : decode cX2_init 4 = .ok (.lload_n 1, 1) := by decide +kernel
theorem dX2_init_5 : decode cX2_init 5 = .ok (.lload_n 3, 1) := by decide +kernel
theorem dX2_init_6 : decode cX2_init 6 = .ok (.invokestatic 9, 3) := by decide +kernel
theorem dX2_init_9 : decode cX2_init 9 = .ok (.lstore 5, 2) := by decide +kernel
theorem dX2_init_11 : decode cX2_init 11 = .ok (.aload_n 0, 1) := by decide +kernel
theorem dX2_init_12 : decode cX2_init 12 = .ok (.lload_n 1, 1) := by decide +kernel
theorem dX2_init_13 : decode cX2_init 13 = .ok (.lload 5, 2) := by decide +kernel
theorem dX2_init_15 : decode cX2_init 15 = .ok (.invokestatic 13, 3) := by decide +kernel
theorem dX2_init_18 : decode cX2_init 18 = .ok (.l2i, 1) := by decide +kernel
theorem dX2_init_19 : decode cX2_init 19 = .ok (.putfield 16, 3) := by decide +kernel
theorem dX2_init_22 : decode cX2_init 22 = .ok (.aload_n 0, 1) := by decide +kernel
theorem dX2_init_23 : decode cX2_init 23 = .ok (.lload_n 3, 1) := by decide +kernel
theorem dX2_init_24 : decode cX2_init 24 = .ok (.lload 5, 2) := by decide +kernel
theorem dX2_init_26 : decode cX2_init 26 = .ok (.invokestatic 13, 3) := by decide +kernel
theorem dX2_init_29 : decode cX2_init 29 = .ok (.l2i, 1) := by decide +kernel
theorem dX2_init_30 : decode cX2_init 30 = .ok (.putfield 22, 3) := by decide +kernel
theorem dX2_init_33 : decode cX2_init 33 = .ok (.aload_n 0, 1) := by decide +kernel
theorem dX2_init_34 : decode cX2_init 34 = .ok (.aload_n 0, 1) := by decide +kernel
theorem dX2_init_35 : decode cX2_init 35 = .ok (.getfield 22, 3) := by decide +kernel
theorem dX2_init_38 : decode cX2_init 38 = .ok (.invokestatic 25, 3) := by decide +kernel
theorem dX2_init_41 : decode cX2_init 41 = .ok (.putfield 29, 3) := by decide +kernel
theorem dX2_init_44 : decode cX2_init 44 = .ok (.aload_n 0, 1) := by decide +kernel
theorem dX2_init_45 : decode cX2_init 45 = .ok (.aload_n 0, 1) := by decide +kernel
theorem dX2_init_46 : decode cX2_init 46 = .ok (.aload_n 0, 1) := by decide +kernel
theorem dX2_init_47 : decode cX2_init 47 = .ok (.getfield 29, 3) := by decide +kernel
theorem dX2_init_50 : decode cX2_init 50 = .ok (.invokevirtual 32, 3) := by decide +kernel
theorem dX2_init_53 : decode cX2_init 53 = .ok (.aload_n 0, 1) := by decide +kernel
theorem dX2_init_54 : decode cX2_init 54 = .ok (.getfield 22, 3) := by decide +kernel
theorem dX2_init_57 : decode cX2_init 57 = .ok (.invokestatic 35, 3) := by decide +kernel
theorem dX2_init_60 : decode cX2_init 60 = .ok (.putfield 39, 3) := by decide +kernel
theorem dX2_init_63 : decode cX2_init 63 = .ok (.return_, 1) := by decide +kernel
theorem dX2_twosIn_0 : decode cX2_twosIn 0 = .ok (.iconst 0, 1) := by decide +kernel
theorem dX2_twosIn_1 : decode cX2_twosIn 1 = .ok (.istore_n 1, 1) := by decide +kernel
theorem dX2_twosIn_2 : decode cX2_twosIn 2 = .ok (.iload_n 1, 1) := by decide +kernel
theorem dX2_twosIn_3 : decode cX2_twosIn 3 = .ok (.bipush 30, 2) := by decide +kernel
theorem dX2_twosIn_5 : decode cX2_twosIn 5 = .ok (.if_icmp .ge 17, 3) := by decide +kernel
theorem dX2_twosIn_8 : decode cX2_twosIn 8 = .ok (.iload_n 0, 1) := by decide +kernel
theorem dX2_twosIn_9 : decode cX2_twosIn 9 = .ok (.iload_n 1, 1) := by decide +kernel
theorem dX2_twosIn_10 : decode cX2_twosIn 10 = .ok (.ishr, 1) := by decide +kernel
theorem dX2_twosIn_11 : decode cX2_twosIn 11 = .ok (.iconst 1, 1) := by decide +kernel
theorem dX2_twosIn_12 : decode cX2_twosIn 12 = .ok (.iand, 1) := by decide +kernel
theorem dX2_twosIn_13 : decode cX2_twosIn 13 = .ok (.ifCond .ne 9, 3) := by decide +kernel
theorem dX2_twosIn_16 : decode cX2_twosIn 16 = .ok (.iinc 1 1, 3) := by decide +kernel
theorem dX2_twosIn_19 : decode cX2_twosIn 19 = .ok (.goto (-17), 3) := by decide +kernel
theorem dX2_twosIn_22 : decode cX2_twosIn 22 = .ok (.iload_n 1, 1) := by decide +kernel
theorem dX2_twosIn_23 : decode cX2_twosIn 23 = .ok (.ireturn, 1) := by decide +kernel
theorem dX2_lengthOfRing_0 : decode cX2_lengthOfRing 0 = .ok (.iload_n 0, 1) := by decide +kernel
theorem dX2_lengthOfRing_1 : decode cX2_lengthOfRing 1 = .ok (.iload_n 1, 1) := by decide +kernel
theorem dX2_lengthOfRing_2 : decode cX2_lengthOfRing 2 = .ok (.invokestatic 42, 3) := by decide +kernel
theorem dX2_lengthOfRing_5 : decode cX2_lengthOfRing 5 = .ok (.istore_n 2, 1) := by decide +kernel
theorem dX2_lengthOfRing_6 : decode cX2_lengthOfRing 6 = .ok (.iconst 1, 1) := by decide +kernel
theorem dX2_lengthOfRing_7 : decode cX2_lengthOfRing 7 = .ok (.istore_n 3, 1) := by decide +kernel
theorem dX2_lengthOfRing_8 : decode cX2_lengthOfRing 8 = .ok (.iload_n 3, 1) := by decide +kernel
theorem dX2_lengthOfRing_9 : decode cX2_lengthOfRing 9 = .ok (.iload_n 1, 1) := by decide +kernel
theorem dX2_lengthOfRing_10 : decode cX2_lengthOfRing 10 = .ok (.if_icmp .ge 20, 3) := by decide +kernel
theorem dX2_lengthOfRing_13 : decode cX2_lengthOfRing 13 = .ok (.iload_n 2, 1) := by decide +kernel
theorem dX2_lengthOfRing_14 : decode cX2_lengthOfRing 14 = .ok (.iload_n 0, 1) := by decide +kernel
theorem dX2_lengthOfRing_15 : decode cX2_lengthOfRing 15 = .ok (.if_icmp .eq 15, 3) := by decide +kernel
theorem dX2_lengthOfRing_18 : decode cX2_lengthOfRing 18 = .ok (.iload_n 2, 1) := by decide +kernel
theorem dX2_lengthOfRing_19 : decode cX2_lengthOfRing 19 = .ok (.iload_n 1, 1) := by decide +kernel
theorem dX2_lengthOfRing_20 : decode cX2_lengthOfRing 20 = .ok (.invokestatic 42, 3) := by decide +kernel
theorem dX2_lengthOfRing_23 : decode cX2_lengthOfRing 23 = .ok (.istore_n 2, 1) := by decide +kernel
theorem dX2_lengthOfRing_24 : decode cX2_lengthOfRing 24 = .ok (.iinc 3 1, 3) := by decide +kernel
theorem dX2_lengthOfRing_27 : decode cX2_lengthOfRing 27 = .ok (.goto (-19), 3) := by decide +kernel
theorem dX2_lengthOfRing_30 : decode cX2_lengthOfRing 30 = .ok (.iload_n 3, 1) := by decide +kernel
theorem dX2_lengthOfRing_31 : decode cX2_lengthOfRing 31 = .ok (.ireturn, 1) := by decide +kernel
theorem dX2_comesBack_0 : decode cX2_comesBack 0 = .ok (.aload_n 0, 1) := by decide +kernel
theorem dX2_comesBack_1 : decode cX2_comesBack 1 = .ok (.getfield 29, 3) := by decide +kernel
theorem dX2_comesBack_4 : decode cX2_comesBack 4 = .ok (.ifCond .ne 7, 3) := by decide +kernel
theorem dX2_comesBack_7 : decode cX2_comesBack 7 = .ok (.iconst 1, 1) := by decide +kernel
theorem dX2_comesBack_8 : decode cX2_comesBack 8 = .ok (.goto 4, 3) := by decide +kernel
theorem dX2_comesBack_11 : decode cX2_comesBack 11 = .ok (.iconst 0, 1) := by decide +kernel
theorem dX2_comesBack_12 : decode cX2_comesBack 12 = .ok (.ireturn, 1) := by decide +kernel
theorem dX2_upAfter_0 : decode cX2_upAfter 0 = .ok (.aload_n 0, 1) := by decide +kernel
theorem dX2_upAfter_1 : decode cX2_upAfter 1 = .ok (.getfield 16, 3) := by decide +kernel
theorem dX2_upAfter_4 : decode cX2_upAfter 4 = .ok (.istore_n 2, 1) := by decide +kernel
theorem dX2_upAfter_5 : decode cX2_upAfter 5 = .ok (.iconst 0, 1) := by decide +kernel
theorem dX2_upAfter_6 : decode cX2_upAfter 6 = .ok (.istore_n 3, 1) := by decide +kernel
theorem dX2_upAfter_7 : decode cX2_upAfter 7 = .ok (.iload_n 3, 1) := by decide +kernel
theorem dX2_upAfter_8 : decode cX2_upAfter 8 = .ok (.iload_n 1, 1) := by decide +kernel
theorem dX2_upAfter_9 : decode cX2_upAfter 9 = .ok (.if_icmp .ge 18, 3) := by decide +kernel
theorem dX2_upAfter_12 : decode cX2_upAfter 12 = .ok (.iload_n 2, 1) := by decide +kernel
theorem dX2_upAfter_13 : decode cX2_upAfter 13 = .ok (.aload_n 0, 1) := by decide +kernel
theorem dX2_upAfter_14 : decode cX2_upAfter 14 = .ok (.getfield 22, 3) := by decide +kernel
theorem dX2_upAfter_17 : decode cX2_upAfter 17 = .ok (.invokestatic 42, 3) := by decide +kernel
theorem dX2_upAfter_20 : decode cX2_upAfter 20 = .ok (.istore_n 2, 1) := by decide +kernel
theorem dX2_upAfter_21 : decode cX2_upAfter 21 = .ok (.iinc 3 1, 3) := by decide +kernel
theorem dX2_upAfter_24 : decode cX2_upAfter 24 = .ok (.goto (-17), 3) := by decide +kernel
theorem dX2_upAfter_27 : decode cX2_upAfter 27 = .ok (.iload_n 2, 1) := by decide +kernel
theorem dX2_upAfter_28 : decode cX2_upAfter 28 = .ok (.ireturn, 1) := by decide +kernel
theorem dX2_against_0 : decode cX2_against 0 = .ok (.aload_n 0, 1) := by decide +kernel
theorem dX2_against_1 : decode cX2_against 1 = .ok (.getfield 16, 3) := by decide +kernel
theorem dX2_against_4 : decode cX2_against 4 = .ok (.i2l, 1) := by decide +kernel
theorem dX2_against_5 : decode cX2_against 5 = .ok (.aload_n 1, 1) := by decide +kernel
theorem dX2_against_6 : decode cX2_against 6 = .ok (.getfield 22, 3) := by decide +kernel
theorem dX2_against_9 : decode cX2_against 9 = .ok (.i2l, 1) := by decide +kernel
theorem dX2_against_10 : decode cX2_against 10 = .ok (.lmul, 1) := by decide +kernel
theorem dX2_against_11 : decode cX2_against 11 = .ok (.aload_n 1, 1) := by decide +kernel
theorem dX2_against_12 : decode cX2_against 12 = .ok (.getfield 16, 3) := by decide +kernel
theorem dX2_against_15 : decode cX2_against 15 = .ok (.i2l, 1) := by decide +kernel
theorem dX2_against_16 : decode cX2_against 16 = .ok (.aload_n 0, 1) := by decide +kernel
theorem dX2_against_17 : decode cX2_against 17 = .ok (.getfield 22, 3) := by decide +kernel
theorem dX2_against_20 : decode cX2_against 20 = .ok (.i2l, 1) := by decide +kernel
theorem dX2_against_21 : decode cX2_against 21 = .ok (.lmul, 1) := by decide +kernel
theorem dX2_against_22 : decode cX2_against 22 = .ok (.invokestatic 45, 3) := by decide +kernel
theorem dX2_against_25 : decode cX2_against 25 = .ok (.ireturn, 1) := by decide +kernel
theorem dX2_letterOf_0 : decode cX2_letterOf 0 = .ok (.ldc2_w 49, 3) := by decide +kernel
theorem dX2_letterOf_3 : decode cX2_letterOf 3 = .ok (.iload_n 1, 1) := by decide +kernel
theorem dX2_letterOf_4 : decode cX2_letterOf 4 = .ok (.i2l, 1) := by decide +kernel
theorem dX2_letterOf_5 : decode cX2_letterOf 5 = .ok (.lmul, 1) := by decide +kernel
theorem dX2_letterOf_6 : decode cX2_letterOf 6 = .ok (.aload_n 0, 1) := by decide +kernel
theorem dX2_letterOf_7 : decode cX2_letterOf 7 = .ok (.getfield 22, 3) := by decide +kernel
theorem dX2_letterOf_10 : decode cX2_letterOf 10 = .ok (.i2l, 1) := by decide +kernel
theorem dX2_letterOf_11 : decode cX2_letterOf 11 = .ok (.lmul, 1) := by decide +kernel
theorem dX2_letterOf_12 : decode cX2_letterOf 12 = .ok (.lstore_n 3, 1) := by decide +kernel
theorem dX2_letterOf_13 : decode cX2_letterOf 13 = .ok (.lload_n 3, 1) := by decide +kernel
theorem dX2_letterOf_14 : decode cX2_letterOf 14 = .ok (.aload_n 0, 1) := by decide +kernel
theorem dX2_letterOf_15 : decode cX2_letterOf 15 = .ok (.getfield 16, 3) := by decide +kernel
theorem dX2_letterOf_18 : decode cX2_letterOf 18 = .ok (.i2l, 1) := by decide +kernel
theorem dX2_letterOf_19 : decode cX2_letterOf 19 = .ok (.iload_n 2, 1) := by decide +kernel
theorem dX2_letterOf_20 : decode cX2_letterOf 20 = .ok (.i2l, 1) := by decide +kernel
theorem dX2_letterOf_21 : decode cX2_letterOf 21 = .ok (.lmul, 1) := by decide +kernel
theorem dX2_letterOf_22 : decode cX2_letterOf 22 = .ok (.invokestatic 45, 3) := by decide +kernel
theorem dX2_letterOf_25 : decode cX2_letterOf 25 = .ok (.istore 5, 2) := by decide +kernel
theorem dX2_letterOf_27 : decode cX2_letterOf 27 = .ok (.lload_n 3, 1) := by decide +kernel
theorem dX2_letterOf_28 : decode cX2_letterOf 28 = .ok (.aload_n 0, 1) := by decide +kernel
theorem dX2_letterOf_29 : decode cX2_letterOf 29 = .ok (.getfield 16, 3) := by decide +kernel
theorem dX2_letterOf_32 : decode cX2_letterOf 32 = .ok (.i2l, 1) := by decide +kernel
theorem dX2_letterOf_33 : decode cX2_letterOf 33 = .ok (.aload_n 0, 1) := by decide +kernel
theorem dX2_letterOf_34 : decode cX2_letterOf 34 = .ok (.getfield 22, 3) := by decide +kernel
theorem dX2_letterOf_37 : decode cX2_letterOf 37 = .ok (.i2l, 1) := by decide +kernel
theorem dX2_letterOf_38 : decode cX2_letterOf 38 = .ok (.ladd, 1) := by decide +kernel
theorem dX2_letterOf_39 : decode cX2_letterOf 39 = .ok (.iload_n 2, 1) := by decide +kernel
theorem dX2_letterOf_40 : decode cX2_letterOf 40 = .ok (.i2l, 1) := by decide +kernel
theorem dX2_letterOf_41 : decode cX2_letterOf 41 = .ok (.lmul, 1) := by decide +kernel
theorem dX2_letterOf_42 : decode cX2_letterOf 42 = .ok (.invokestatic 45, 3) := by decide +kernel
theorem dX2_letterOf_45 : decode cX2_letterOf 45 = .ok (.istore 6, 2) := by decide +kernel
theorem dX2_letterOf_47 : decode cX2_letterOf 47 = .ok (.iload 5, 2) := by decide +kernel
theorem dX2_letterOf_49 : decode cX2_letterOf 49 = .ok (.ifCond .eq 8, 3) := by decide +kernel
theorem dX2_letterOf_52 : decode cX2_letterOf 52 = .ok (.iload 6, 2) := by decide +kernel
theorem dX2_letterOf_54 : decode cX2_letterOf 54 = .ok (.ifCond .ne 5, 3) := by decide +kernel
theorem dX2_letterOf_57 : decode cX2_letterOf 57 = .ok (.iconst 2, 1) := by decide +kernel
theorem dX2_letterOf_58 : decode cX2_letterOf 58 = .ok (.ireturn, 1) := by decide +kernel
theorem dX2_letterOf_59 : decode cX2_letterOf 59 = .ok (.iload 5, 2) := by decide +kernel
theorem dX2_letterOf_61 : decode cX2_letterOf 61 = .ok (.ifCond .le 12, 3) := by decide +kernel
theorem dX2_letterOf_64 : decode cX2_letterOf 64 = .ok (.iload 6, 2) := by decide +kernel
theorem dX2_letterOf_66 : decode cX2_letterOf 66 = .ok (.ifCond .ge 7, 3) := by decide +kernel
theorem dX2_letterOf_69 : decode cX2_letterOf 69 = .ok (.iconst 1, 1) := by decide +kernel
theorem dX2_letterOf_70 : decode cX2_letterOf 70 = .ok (.goto 4, 3) := by decide +kernel
theorem dX2_letterOf_73 : decode cX2_letterOf 73 = .ok (.iconst 0, 1) := by decide +kernel
theorem dX2_letterOf_74 : decode cX2_letterOf 74 = .ok (.ireturn, 1) := by decide +kernel
theorem dX2_inParts_0 : decode cX2_inParts 0 = .ok (.aload_n 0, 1) := by decide +kernel
theorem dX2_inParts_1 : decode cX2_inParts 1 = .ok (.getfield 16, 3) := by decide +kernel
theorem dX2_inParts_4 : decode cX2_inParts 4 = .ok (.i2l, 1) := by decide +kernel
theorem dX2_inParts_5 : decode cX2_inParts 5 = .ok (.ldc2_w 51, 3) := by decide +kernel
theorem dX2_inParts_8 : decode cX2_inParts 8 = .ok (.aload_n 0, 1) := by decide +kernel
theorem dX2_inParts_9 : decode cX2_inParts 9 = .ok (.getfield 22, 3) := by decide +kernel
theorem dX2_inParts_12 : decode cX2_inParts 12 = .ok (.i2l, 1) := by decide +kernel
theorem dX2_inParts_13 : decode cX2_inParts 13 = .ok (.invokestatic 13, 3) := by decide +kernel
theorem dX2_inParts_16 : decode cX2_inParts 16 = .ok (.lmul, 1) := by decide +kernel
theorem dX2_inParts_17 : decode cX2_inParts 17 = .ok (.l2i, 1) := by decide +kernel
theorem dX2_inParts_18 : decode cX2_inParts 18 = .ok (.ireturn, 1) := by decide +kernel
