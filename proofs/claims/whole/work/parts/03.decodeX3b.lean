theorem dX3_writeInner_20 : decode cX3_writeInner 20 = .ok (.arraylength, 1) := by decide +kernel
theorem dX3_writeInner_21 : decode cX3_writeInner 21 = .ok (.if_icmp .ge 33, 3) := by decide +kernel
theorem dX3_writeInner_24 : decode cX3_writeInner 24 = .ok (.aload_n 0, 1) := by decide +kernel
theorem dX3_writeInner_25 : decode cX3_writeInner 25 = .ok (.getfield 21, 3) := by decide +kernel
theorem dX3_writeInner_28 : decode cX3_writeInner 28 = .ok (.iload_n 3, 1) := by decide +kernel
theorem dX3_writeInner_29 : decode cX3_writeInner 29 = .ok (.aload_n 1, 1) := by decide +kernel
theorem dX3_writeInner_30 : decode cX3_writeInner 30 = .ok (.iload_n 2, 1) := by decide +kernel
theorem dX3_writeInner_31 : decode cX3_writeInner 31 = .ok (.aload_n 1, 1) := by decide +kernel
theorem dX3_writeInner_32 : decode cX3_writeInner 32 = .ok (.getfield 46, 3) := by decide +kernel
theorem dX3_writeInner_35 : decode cX3_writeInner 35 = .ok (.invokevirtual 82, 3) := by decide +kernel
theorem dX3_writeInner_38 : decode cX3_writeInner 38 = .ok (.iastore, 1) := by decide +kernel
theorem dX3_writeInner_39 : decode cX3_writeInner 39 = .ok (.iload_n 2, 1) := by decide +kernel
theorem dX3_writeInner_40 : decode cX3_writeInner 40 = .ok (.aload_n 1, 1) := by decide +kernel
theorem dX3_writeInner_41 : decode cX3_writeInner 41 = .ok (.getfield 46, 3) := by decide +kernel
theorem dX3_writeInner_44 : decode cX3_writeInner 44 = .ok (.invokestatic 215, 3) := by decide +kernel
theorem dX3_writeInner_47 : decode cX3_writeInner 47 = .ok (.istore_n 2, 1) := by decide +kernel
theorem dX3_writeInner_48 : decode cX3_writeInner 48 = .ok (.iinc 3 1, 3) := by decide +kernel
theorem dX3_writeInner_51 : decode cX3_writeInner 51 = .ok (.goto (-44), 3) := by decide +kernel
theorem dX3_writeInner_54 : decode cX3_writeInner 54 = .ok (.return_, 1) := by decide +kernel
theorem dX3_nextInAddress_0 : decode cX3_nextInAddress 0 = .ok (.iload_n 1, 1) := by decide +kernel
theorem dX3_nextInAddress_1 : decode cX3_nextInAddress 1 = .ok (.iconst 1, 1) := by decide +kernel
theorem dX3_nextInAddress_2 : decode cX3_nextInAddress 2 = .ok (.iadd, 1) := by decide +kernel
theorem dX3_nextInAddress_3 : decode cX3_nextInAddress 3 = .ok (.istore_n 3, 1) := by decide +kernel
theorem dX3_nextInAddress_4 : decode cX3_nextInAddress 4 = .ok (.iload_n 3, 1) := by decide +kernel
theorem dX3_nextInAddress_5 : decode cX3_nextInAddress 5 = .ok (.iload_n 2, 1) := by decide +kernel
theorem dX3_nextInAddress_6 : decode cX3_nextInAddress 6 = .ok (.if_icmp .ge 41, 3) := by decide +kernel
theorem dX3_nextInAddress_9 : decode cX3_nextInAddress 9 = .ok (.iload_n 3, 1) := by decide +kernel
theorem dX3_nextInAddress_10 : decode cX3_nextInAddress 10 = .ok (.aload_n 0, 1) := by decide +kernel
theorem dX3_nextInAddress_11 : decode cX3_nextInAddress 11 = .ok (.getfield 21, 3) := by decide +kernel
theorem dX3_nextInAddress_14 : decode cX3_nextInAddress 14 = .ok (.arraylength, 1) := by decide +kernel
theorem dX3_nextInAddress_15 : decode cX3_nextInAddress 15 = .ok (.if_icmp .gt 32, 3) := by decide +kernel
theorem dX3_nextInAddress_18 : decode cX3_nextInAddress 18 = .ok (.aload_n 0, 1) := by decide +kernel
theorem dX3_nextInAddress_19 : decode cX3_nextInAddress 19 = .ok (.getfield 21, 3) := by decide +kernel
theorem dX3_nextInAddress_22 : decode cX3_nextInAddress 22 = .ok (.iload_n 3, 1) := by decide +kernel
theorem dX3_nextInAddress_23 : decode cX3_nextInAddress 23 = .ok (.iconst 1, 1) := by decide +kernel
theorem dX3_nextInAddress_24 : decode cX3_nextInAddress 24 = .ok (.isub, 1) := by decide +kernel
theorem dX3_nextInAddress_25 : decode cX3_nextInAddress 25 = .ok (.iaload, 1) := by decide +kernel
theorem dX3_nextInAddress_26 : decode cX3_nextInAddress 26 = .ok (.aload_n 0, 1) := by decide +kernel
theorem dX3_nextInAddress_27 : decode cX3_nextInAddress 27 = .ok (.getfield 21, 3) := by decide +kernel
theorem dX3_nextInAddress_30 : decode cX3_nextInAddress 30 = .ok (.iload_n 3, 1) := by decide +kernel
theorem dX3_nextInAddress_31 : decode cX3_nextInAddress 31 = .ok (.iconst 1, 1) := by decide +kernel
theorem dX3_nextInAddress_32 : decode cX3_nextInAddress 32 = .ok (.isub, 1) := by decide +kernel
theorem dX3_nextInAddress_33 : decode cX3_nextInAddress 33 = .ok (.iload_n 1, 1) := by decide +kernel
theorem dX3_nextInAddress_34 : decode cX3_nextInAddress 34 = .ok (.isub, 1) := by decide +kernel
theorem dX3_nextInAddress_35 : decode cX3_nextInAddress 35 = .ok (.iaload, 1) := by decide +kernel
theorem dX3_nextInAddress_36 : decode cX3_nextInAddress 36 = .ok (.if_icmp .eq 5, 3) := by decide +kernel
theorem dX3_nextInAddress_39 : decode cX3_nextInAddress 39 = .ok (.iload_n 3, 1) := by decide +kernel
theorem dX3_nextInAddress_40 : decode cX3_nextInAddress 40 = .ok (.ireturn, 1) := by decide +kernel
theorem dX3_nextInAddress_41 : decode cX3_nextInAddress 41 = .ok (.iinc 3 1, 3) := by decide +kernel
theorem dX3_nextInAddress_44 : decode cX3_nextInAddress 44 = .ok (.goto (-40), 3) := by decide +kernel
theorem dX3_nextInAddress_47 : decode cX3_nextInAddress 47 = .ok (.iload_n 2, 1) := by decide +kernel
theorem dX3_nextInAddress_48 : decode cX3_nextInAddress 48 = .ok (.ireturn, 1) := by decide +kernel
theorem dX3_agree_0 : decode cX3_agree 0 = .ok (.iload_n 0, 1) := by decide +kernel
theorem dX3_agree_1 : decode cX3_agree 1 = .ok (.iload_n 1, 1) := by decide +kernel
theorem dX3_agree_2 : decode cX3_agree 2 = .ok (.if_icmp .eq 13, 3) := by decide +kernel
theorem dX3_agree_5 : decode cX3_agree 5 = .ok (.iload_n 0, 1) := by decide +kernel
theorem dX3_agree_6 : decode cX3_agree 6 = .ok (.iconst 2, 1) := by decide +kernel
theorem dX3_agree_7 : decode cX3_agree 7 = .ok (.if_icmp .eq 8, 3) := by decide +kernel
theorem dX3_agree_10 : decode cX3_agree 10 = .ok (.iload_n 1, 1) := by decide +kernel
theorem dX3_agree_11 : decode cX3_agree 11 = .ok (.iconst 2, 1) := by decide +kernel
theorem dX3_agree_12 : decode cX3_agree 12 = .ok (.if_icmp .ne 7, 3) := by decide +kernel
theorem dX3_agree_15 : decode cX3_agree 15 = .ok (.iconst 1, 1) := by decide +kernel
theorem dX3_agree_16 : decode cX3_agree 16 = .ok (.goto 4, 3) := by decide +kernel
theorem dX3_agree_19 : decode cX3_agree 19 = .ok (.iconst 0, 1) := by decide +kernel
theorem dX3_agree_20 : decode cX3_agree 20 = .ok (.ireturn, 1) := by decide +kernel
theorem dX3_agreeAhead_0 : decode cX3_agreeAhead 0 = .ok (.aload_n 0, 1) := by decide +kernel
theorem dX3_agreeAhead_1 : decode cX3_agreeAhead 1 = .ok (.getfield 43, 3) := by decide +kernel
theorem dX3_agreeAhead_4 : decode cX3_agreeAhead 4 = .ok (.istore 4, 2) := by decide +kernel
theorem dX3_agreeAhead_6 : decode cX3_agreeAhead 6 = .ok (.aload_n 1, 1) := by decide +kernel
theorem dX3_agreeAhead_7 : decode cX3_agreeAhead 7 = .ok (.getfield 43, 3) := by decide +kernel
theorem dX3_agreeAhead_10 : decode cX3_agreeAhead 10 = .ok (.istore 5, 2) := by decide +kernel
theorem dX3_agreeAhead_12 : decode cX3_agreeAhead 12 = .ok (.iconst 0, 1) := by decide +kernel
theorem dX3_agreeAhead_13 : decode cX3_agreeAhead 13 = .ok (.istore 6, 2) := by decide +kernel
theorem dX3_agreeAhead_15 : decode cX3_agreeAhead 15 = .ok (.iload 6, 2) := by decide +kernel
theorem dX3_agreeAhead_17 : decode cX3_agreeAhead 17 = .ok (.iload_n 3, 1) := by decide +kernel
theorem dX3_agreeAhead_18 : decode cX3_agreeAhead 18 = .ok (.if_icmp .ge 59, 3) := by decide +kernel
theorem dX3_agreeAhead_21 : decode cX3_agreeAhead 21 = .ok (.aload_n 2, 1) := by decide +kernel
theorem dX3_agreeAhead_22 : decode cX3_agreeAhead 22 = .ok (.iload 4, 2) := by decide +kernel
theorem dX3_agreeAhead_24 : decode cX3_agreeAhead 24 = .ok (.aload_n 0, 1) := by decide +kernel
theorem dX3_agreeAhead_25 : decode cX3_agreeAhead 25 = .ok (.getfield 46, 3) := by decide +kernel
theorem dX3_agreeAhead_28 : decode cX3_agreeAhead 28 = .ok (.invokevirtual 82, 3) := by decide +kernel
theorem dX3_agreeAhead_31 : decode cX3_agreeAhead 31 = .ok (.aload_n 2, 1) := by decide +kernel
theorem dX3_agreeAhead_32 : decode cX3_agreeAhead 32 = .ok (.iload 5, 2) := by decide +kernel
theorem dX3_agreeAhead_34 : decode cX3_agreeAhead 34 = .ok (.aload_n 1, 1) := by decide +kernel
theorem dX3_agreeAhead_35 : decode cX3_agreeAhead 35 = .ok (.getfield 46, 3) := by decide +kernel
theorem dX3_agreeAhead_38 : decode cX3_agreeAhead 38 = .ok (.invokevirtual 82, 3) := by decide +kernel
theorem dX3_agreeAhead_41 : decode cX3_agreeAhead 41 = .ok (.invokestatic 218, 3) := by decide +kernel
theorem dX3_agreeAhead_44 : decode cX3_agreeAhead 44 = .ok (.ifCond .ne 5, 3) := by decide +kernel
theorem dX3_agreeAhead_47 : decode cX3_agreeAhead 47 = .ok (.iconst 0, 1) := by decide +kernel
theorem dX3_agreeAhead_48 : decode cX3_agreeAhead 48 = .ok (.ireturn, 1) := by decide +kernel
theorem dX3_agreeAhead_49 : decode cX3_agreeAhead 49 = .ok (.iload 4, 2) := by decide +kernel
theorem dX3_agreeAhead_51 : decode cX3_agreeAhead 51 = .ok (.aload_n 0, 1) := by decide +kernel
theorem dX3_agreeAhead_52 : decode cX3_agreeAhead 52 = .ok (.getfield 46, 3) := by decide +kernel
theorem dX3_agreeAhead_55 : decode cX3_agreeAhead 55 = .ok (.invokestatic 215, 3) := by decide +kernel
theorem dX3_agreeAhead_58 : decode cX3_agreeAhead 58 = .ok (.istore 4, 2) := by decide +kernel
theorem dX3_agreeAhead_60 : decode cX3_agreeAhead 60 = .ok (.iload 5, 2) := by decide +kernel
theorem dX3_agreeAhead_62 : decode cX3_agreeAhead 62 = .ok (.aload_n 1, 1) := by decide +kernel
theorem dX3_agreeAhead_63 : decode cX3_agreeAhead 63 = .ok (.getfield 46, 3) := by decide +kernel
theorem dX3_agreeAhead_66 : decode cX3_agreeAhead 66 = .ok (.invokestatic 215, 3) := by decide +kernel
theorem dX3_agreeAhead_69 : decode cX3_agreeAhead 69 = .ok (.istore 5, 2) := by decide +kernel
theorem dX3_agreeAhead_71 : decode cX3_agreeAhead 71 = .ok (.iinc 6 1, 3) := by decide +kernel
theorem dX3_agreeAhead_74 : decode cX3_agreeAhead 74 = .ok (.goto (-59), 3) := by decide +kernel
theorem dX3_agreeAhead_77 : decode cX3_agreeAhead 77 = .ok (.iconst 1, 1) := by decide +kernel
theorem dX3_agreeAhead_78 : decode cX3_agreeAhead 78 = .ok (.ireturn, 1) := by decide +kernel
theorem dX3_agreeInRings_0 : decode cX3_agreeInRings 0 = .ok (.aload_n 1, 1) := by decide +kernel
theorem dX3_agreeInRings_1 : decode cX3_agreeInRings 1 = .ok (.getfield 52, 3) := by decide +kernel
theorem dX3_agreeInRings_4 : decode cX3_agreeInRings 4 = .ok (.i2l, 1) := by decide +kernel
theorem dX3_agreeInRings_5 : decode cX3_agreeInRings 5 = .ok (.aload_n 2, 1) := by decide +kernel
theorem dX3_agreeInRings_6 : decode cX3_agreeInRings 6 = .ok (.getfield 52, 3) := by decide +kernel
theorem dX3_agreeInRings_9 : decode cX3_agreeInRings 9 = .ok (.i2l, 1) := by decide +kernel
theorem dX3_agreeInRings_10 : decode cX3_agreeInRings 10 = .ok (.invokestatic 66, 3) := by decide +kernel
theorem dX3_agreeInRings_13 : decode cX3_agreeInRings 13 = .ok (.l2i, 1) := by decide +kernel
theorem dX3_agreeInRings_14 : decode cX3_agreeInRings 14 = .ok (.istore 5, 2) := by decide +kernel
theorem dX3_agreeInRings_16 : decode cX3_agreeInRings 16 = .ok (.iconst 0, 1) := by decide +kernel
theorem dX3_agreeInRings_17 : decode cX3_agreeInRings 17 = .ok (.istore 6, 2) := by decide +kernel
theorem dX3_agreeInRings_19 : decode cX3_agreeInRings 19 = .ok (.iload 6, 2) := by decide +kernel
theorem dX3_agreeInRings_21 : decode cX3_agreeInRings 21 = .ok (.iload 5, 2) := by decide +kernel
theorem dX3_agreeInRings_23 : decode cX3_agreeInRings 23 = .ok (.if_icmp .ge 27, 3) := by decide +kernel
theorem dX3_agreeInRings_26 : decode cX3_agreeInRings 26 = .ok (.iload 6, 2) := by decide +kernel
theorem dX3_agreeInRings_28 : decode cX3_agreeInRings 28 = .ok (.aload_n 0, 1) := by decide +kernel
theorem dX3_agreeInRings_29 : decode cX3_agreeInRings 29 = .ok (.getfield 21, 3) := by decide +kernel
theorem dX3_agreeInRings_32 : decode cX3_agreeInRings 32 = .ok (.arraylength, 1) := by decide +kernel
theorem dX3_agreeInRings_33 : decode cX3_agreeInRings 33 = .ok (.if_icmp .ge 17, 3) := by decide +kernel
theorem dX3_agreeInRings_36 : decode cX3_agreeInRings 36 = .ok (.aload_n 0, 1) := by decide +kernel
theorem dX3_agreeInRings_37 : decode cX3_agreeInRings 37 = .ok (.getfield 21, 3) := by decide +kernel
theorem dX3_agreeInRings_40 : decode cX3_agreeInRings 40 = .ok (.iload 6, 2) := by decide +kernel
theorem dX3_agreeInRings_42 : decode cX3_agreeInRings 42 = .ok (.iconst 0, 1) := by decide +kernel
theorem dX3_agreeInRings_43 : decode cX3_agreeInRings 43 = .ok (.iastore, 1) := by decide +kernel
theorem dX3_agreeInRings_44 : decode cX3_agreeInRings 44 = .ok (.iinc 6 1, 3) := by decide +kernel
theorem dX3_agreeInRings_47 : decode cX3_agreeInRings 47 = .ok (.goto (-28), 3) := by decide +kernel
theorem dX3_agreeInRings_50 : decode cX3_agreeInRings 50 = .ok (.aload_n 1, 1) := by decide +kernel
theorem dX3_agreeInRings_51 : decode cX3_agreeInRings 51 = .ok (.iload 4, 2) := by decide +kernel
theorem dX3_agreeInRings_53 : decode cX3_agreeInRings 53 = .ok (.invokevirtual 62, 3) := by decide +kernel
theorem dX3_agreeInRings_56 : decode cX3_agreeInRings 56 = .ok (.istore 6, 2) := by decide +kernel
theorem dX3_agreeInRings_58 : decode cX3_agreeInRings 58 = .ok (.iconst 0, 1) := by decide +kernel
theorem dX3_agreeInRings_59 : decode cX3_agreeInRings 59 = .ok (.istore 7, 2) := by decide +kernel
theorem dX3_agreeInRings_61 : decode cX3_agreeInRings 61 = .ok (.iconst 0, 1) := by decide +kernel
theorem dX3_agreeInRings_62 : decode cX3_agreeInRings 62 = .ok (.istore 8, 2) := by decide +kernel
theorem dX3_agreeInRings_64 : decode cX3_agreeInRings 64 = .ok (.iload 8, 2) := by decide +kernel
theorem dX3_agreeInRings_66 : decode cX3_agreeInRings 66 = .ok (.aload_n 1, 1) := by decide +kernel
theorem dX3_agreeInRings_67 : decode cX3_agreeInRings 67 = .ok (.getfield 52, 3) := by decide +kernel
theorem dX3_agreeInRings_70 : decode cX3_agreeInRings 70 = .ok (.if_icmp .ge 71, 3) := by decide +kernel
theorem dX3_agreeInRings_73 : decode cX3_agreeInRings 73 = .ok (.iload 7, 2) := by decide +kernel
theorem dX3_agreeInRings_75 : decode cX3_agreeInRings 75 = .ok (.aload_n 0, 1) := by decide +kernel
theorem dX3_agreeInRings_76 : decode cX3_agreeInRings 76 = .ok (.getfield 21, 3) := by decide +kernel
theorem dX3_agreeInRings_79 : decode cX3_agreeInRings 79 = .ok (.arraylength, 1) := by decide +kernel
theorem dX3_agreeInRings_80 : decode cX3_agreeInRings 80 = .ok (.if_icmp .ge 61, 3) := by decide +kernel
theorem dX3_agreeInRings_83 : decode cX3_agreeInRings 83 = .ok (.aload_n 0, 1) := by decide +kernel
theorem dX3_agreeInRings_84 : decode cX3_agreeInRings 84 = .ok (.getfield 21, 3) := by decide +kernel
theorem dX3_agreeInRings_87 : decode cX3_agreeInRings 87 = .ok (.iload 7, 2) := by decide +kernel
theorem dX3_agreeInRings_89 : decode cX3_agreeInRings 89 = .ok (.dup2, 1) := by decide +kernel
theorem dX3_agreeInRings_90 : decode cX3_agreeInRings 90 = .ok (.iaload, 1) := by decide +kernel
theorem dX3_agreeInRings_91 : decode cX3_agreeInRings 91 = .ok (.iconst 1, 1) := by decide +kernel
theorem dX3_agreeInRings_92 : decode cX3_agreeInRings 92 = .ok (.aload_n 3, 1) := by decide +kernel
theorem dX3_agreeInRings_93 : decode cX3_agreeInRings 93 = .ok (.iload 6, 2) := by decide +kernel
theorem dX3_agreeInRings_95 : decode cX3_agreeInRings 95 = .ok (.aload_n 1, 1) := by decide +kernel
theorem dX3_agreeInRings_96 : decode cX3_agreeInRings 96 = .ok (.getfield 46, 3) := by decide +kernel
theorem dX3_agreeInRings_99 : decode cX3_agreeInRings 99 = .ok (.invokevirtual 82, 3) := by decide +kernel
theorem dX3_agreeInRings_102 : decode cX3_agreeInRings 102 = .ok (.ishl, 1) := by decide +kernel
theorem dX3_agreeInRings_103 : decode cX3_agreeInRings 103 = .ok (.ior, 1) := by decide +kernel
theorem dX3_agreeInRings_104 : decode cX3_agreeInRings 104 = .ok (.iastore, 1) := by decide +kernel
theorem dX3_agreeInRings_105 : decode cX3_agreeInRings 105 = .ok (.iload 6, 2) := by decide +kernel
theorem dX3_agreeInRings_107 : decode cX3_agreeInRings 107 = .ok (.aload_n 1, 1) := by decide +kernel
theorem dX3_agreeInRings_108 : decode cX3_agreeInRings 108 = .ok (.getfield 46, 3) := by decide +kernel
theorem dX3_agreeInRings_111 : decode cX3_agreeInRings 111 = .ok (.invokestatic 215, 3) := by decide +kernel
theorem dX3_agreeInRings_114 : decode cX3_agreeInRings 114 = .ok (.istore 6, 2) := by decide +kernel
theorem dX3_agreeInRings_116 : decode cX3_agreeInRings 116 = .ok (.iload 7, 2) := by decide +kernel
theorem dX3_agreeInRings_118 : decode cX3_agreeInRings 118 = .ok (.iconst 1, 1) := by decide +kernel
theorem dX3_agreeInRings_119 : decode cX3_agreeInRings 119 = .ok (.iadd, 1) := by decide +kernel
theorem dX3_agreeInRings_120 : decode cX3_agreeInRings 120 = .ok (.iload 5, 2) := by decide +kernel
theorem dX3_agreeInRings_122 : decode cX3_agreeInRings 122 = .ok (.if_icmp .ge 10, 3) := by decide +kernel
theorem dX3_agreeInRings_125 : decode cX3_agreeInRings 125 = .ok (.iload 7, 2) := by decide +kernel
theorem dX3_agreeInRings_127 : decode cX3_agreeInRings 127 = .ok (.iconst 1, 1) := by decide +kernel
theorem dX3_agreeInRings_128 : decode cX3_agreeInRings 128 = .ok (.iadd, 1) := by decide +kernel
theorem dX3_agreeInRings_129 : decode cX3_agreeInRings 129 = .ok (.goto 4, 3) := by decide +kernel
theorem dX3_agreeInRings_132 : decode cX3_agreeInRings 132 = .ok (.iconst 0, 1) := by decide +kernel
theorem dX3_agreeInRings_133 : decode cX3_agreeInRings 133 = .ok (.istore 7, 2) := by decide +kernel
theorem dX3_agreeInRings_135 : decode cX3_agreeInRings 135 = .ok (.iinc 8 1, 3) := by decide +kernel
theorem dX3_agreeInRings_138 : decode cX3_agreeInRings 138 = .ok (.goto (-74), 3) := by decide +kernel
theorem dX3_agreeInRings_141 : decode cX3_agreeInRings 141 = .ok (.aload_n 2, 1) := by decide +kernel
theorem dX3_agreeInRings_142 : decode cX3_agreeInRings 142 = .ok (.iload 4, 2) := by decide +kernel
theorem dX3_agreeInRings_144 : decode cX3_agreeInRings 144 = .ok (.invokevirtual 62, 3) := by decide +kernel
theorem dX3_agreeInRings_147 : decode cX3_agreeInRings 147 = .ok (.istore 6, 2) := by decide +kernel
theorem dX3_agreeInRings_149 : decode cX3_agreeInRings 149 = .ok (.iconst 0, 1) := by decide +kernel
theorem dX3_agreeInRings_150 : decode cX3_agreeInRings 150 = .ok (.istore 7, 2) := by decide +kernel
theorem dX3_agreeInRings_152 : decode cX3_agreeInRings 152 = .ok (.iconst 0, 1) := by decide +kernel
theorem dX3_agreeInRings_153 : decode cX3_agreeInRings 153 = .ok (.istore 8, 2) := by decide +kernel
theorem dX3_agreeInRings_155 : decode cX3_agreeInRings 155 = .ok (.iload 8, 2) := by decide +kernel
theorem dX3_agreeInRings_157 : decode cX3_agreeInRings 157 = .ok (.aload_n 2, 1) := by decide +kernel
theorem dX3_agreeInRings_158 : decode cX3_agreeInRings 158 = .ok (.getfield 52, 3) := by decide +kernel
theorem dX3_agreeInRings_161 : decode cX3_agreeInRings 161 = .ok (.if_icmp .ge 86, 3) := by decide +kernel
theorem dX3_agreeInRings_164 : decode cX3_agreeInRings 164 = .ok (.iload 7, 2) := by decide +kernel
theorem dX3_agreeInRings_166 : decode cX3_agreeInRings 166 = .ok (.aload_n 0, 1) := by decide +kernel
theorem dX3_agreeInRings_167 : decode cX3_agreeInRings 167 = .ok (.getfield 21, 3) := by decide +kernel
theorem dX3_agreeInRings_170 : decode cX3_agreeInRings 170 = .ok (.arraylength, 1) := by decide +kernel
theorem dX3_agreeInRings_171 : decode cX3_agreeInRings 171 = .ok (.if_icmp .ge 76, 3) := by decide +kernel
theorem dX3_agreeInRings_174 : decode cX3_agreeInRings 174 = .ok (.aload_n 3, 1) := by decide +kernel
theorem dX3_agreeInRings_175 : decode cX3_agreeInRings 175 = .ok (.iload 6, 2) := by decide +kernel
theorem dX3_agreeInRings_177 : decode cX3_agreeInRings 177 = .ok (.aload_n 2, 1) := by decide +kernel
theorem dX3_agreeInRings_178 : decode cX3_agreeInRings 178 = .ok (.getfield 46, 3) := by decide +kernel
theorem dX3_agreeInRings_181 : decode cX3_agreeInRings 181 = .ok (.invokevirtual 82, 3) := by decide +kernel
theorem dX3_agreeInRings_184 : decode cX3_agreeInRings 184 = .ok (.istore 9, 2) := by decide +kernel
theorem dX3_agreeInRings_186 : decode cX3_agreeInRings 186 = .ok (.iload 9, 2) := by decide +kernel
theorem dX3_agreeInRings_188 : decode cX3_agreeInRings 188 = .ok (.iconst 2, 1) := by decide +kernel
theorem dX3_agreeInRings_189 : decode cX3_agreeInRings 189 = .ok (.if_icmp .eq 22, 3) := by decide +kernel
theorem dX3_agreeInRings_192 : decode cX3_agreeInRings 192 = .ok (.aload_n 0, 1) := by decide +kernel
theorem dX3_agreeInRings_193 : decode cX3_agreeInRings 193 = .ok (.getfield 21, 3) := by decide +kernel
theorem dX3_agreeInRings_196 : decode cX3_agreeInRings 196 = .ok (.iload 7, 2) := by decide +kernel
theorem dX3_agreeInRings_198 : decode cX3_agreeInRings 198 = .ok (.iaload, 1) := by decide +kernel
theorem dX3_agreeInRings_199 : decode cX3_agreeInRings 199 = .ok (.iconst 1, 1) := by decide +kernel
theorem dX3_agreeInRings_200 : decode cX3_agreeInRings 200 = .ok (.iconst 1, 1) := by decide +kernel
theorem dX3_agreeInRings_201 : decode cX3_agreeInRings 201 = .ok (.iload 9, 2) := by decide +kernel
theorem dX3_agreeInRings_203 : decode cX3_agreeInRings 203 = .ok (.isub, 1) := by decide +kernel
theorem dX3_agreeInRings_204 : decode cX3_agreeInRings 204 = .ok (.ishl, 1) := by decide +kernel
theorem dX3_agreeInRings_205 : decode cX3_agreeInRings 205 = .ok (.iand, 1) := by decide +kernel
theorem dX3_agreeInRings_206 : decode cX3_agreeInRings 206 = .ok (.ifCond .eq 5, 3) := by decide +kernel
theorem dX3_agreeInRings_209 : decode cX3_agreeInRings 209 = .ok (.iconst 0, 1) := by decide +kernel
theorem dX3_agreeInRings_210 : decode cX3_agreeInRings 210 = .ok (.ireturn, 1) := by decide +kernel
theorem dX3_agreeInRings_211 : decode cX3_agreeInRings 211 = .ok (.iload 6, 2) := by decide +kernel
theorem dX3_agreeInRings_213 : decode cX3_agreeInRings 213 = .ok (.aload_n 2, 1) := by decide +kernel
theorem dX3_agreeInRings_214 : decode cX3_agreeInRings 214 = .ok (.getfield 46, 3) := by decide +kernel
theorem dX3_agreeInRings_217 : decode cX3_agreeInRings 217 = .ok (.invokestatic 215, 3) := by decide +kernel
theorem dX3_agreeInRings_220 : decode cX3_agreeInRings 220 = .ok (.istore 6, 2) := by decide +kernel
theorem dX3_agreeInRings_222 : decode cX3_agreeInRings 222 = .ok (.iload 7, 2) := by decide +kernel
theorem dX3_agreeInRings_224 : decode cX3_agreeInRings 224 = .ok (.iconst 1, 1) := by decide +kernel
theorem dX3_agreeInRings_225 : decode cX3_agreeInRings 225 = .ok (.iadd, 1) := by decide +kernel
theorem dX3_agreeInRings_226 : decode cX3_agreeInRings 226 = .ok (.iload 5, 2) := by decide +kernel
theorem dX3_agreeInRings_228 : decode cX3_agreeInRings 228 = .ok (.if_icmp .ge 10, 3) := by decide +kernel
theorem dX3_agreeInRings_231 : decode cX3_agreeInRings 231 = .ok (.iload 7, 2) := by decide +kernel
theorem dX3_agreeInRings_233 : decode cX3_agreeInRings 233 = .ok (.iconst 1, 1) := by decide +kernel
theorem dX3_agreeInRings_234 : decode cX3_agreeInRings 234 = .ok (.iadd, 1) := by decide +kernel
theorem dX3_agreeInRings_235 : decode cX3_agreeInRings 235 = .ok (.goto 4, 3) := by decide +kernel
theorem dX3_agreeInRings_238 : decode cX3_agreeInRings 238 = .ok (.iconst 0, 1) := by decide +kernel
theorem dX3_agreeInRings_239 : decode cX3_agreeInRings 239 = .ok (.istore 7, 2) := by decide +kernel
theorem dX3_agreeInRings_241 : decode cX3_agreeInRings 241 = .ok (.iinc 8 1, 3) := by decide +kernel
theorem dX3_agreeInRings_244 : decode cX3_agreeInRings 244 = .ok (.goto (-89), 3) := by decide +kernel
theorem dX3_agreeInRings_247 : decode cX3_agreeInRings 247 = .ok (.iconst 1, 1) := by decide +kernel
theorem dX3_agreeInRings_248 : decode cX3_agreeInRings 248 = .ok (.ireturn, 1) := by decide +kernel
theorem dX3_known_0 : decode cX3_known 0 = .ok (.aload_n 0, 1) := by decide +kernel
theorem dX3_known_1 : decode cX3_known 1 = .ok (.getfield 29, 3) := by decide +kernel
theorem dX3_known_4 : decode cX3_known 4 = .ok (.ifnonnull 14, 3) := by decide +kernel
theorem dX3_known_7 : decode cX3_known 7 = .ok (.aload_n 0, 1) := by decide +kernel
theorem dX3_known_8 : decode cX3_known 8 = .ok (.new 125, 3) := by decide +kernel
theorem dX3_known_11 : decode cX3_known 11 = .ok (.dup, 1) := by decide +kernel
theorem dX3_known_12 : decode cX3_known 12 = .ok (.invokespecial 221, 3) := by decide +kernel
theorem dX3_known_15 : decode cX3_known 15 = .ok (.putfield 29, 3) := by decide +kernel
theorem dX3_known_18 : decode cX3_known 18 = .ok (.aload_n 0, 1) := by decide +kernel
theorem dX3_known_19 : decode cX3_known 19 = .ok (.getfield 29, 3) := by decide +kernel
theorem dX3_known_22 : decode cX3_known 22 = .ok (.areturn, 1) := by decide +kernel
theorem dX3_pairOf_0 : decode cX3_pairOf 0 = .ok (.aload_n 1, 1) := by decide +kernel
theorem dX3_pairOf_1 : decode cX3_pairOf 1 = .ok (.invokevirtual 86, 3) := by decide +kernel
theorem dX3_pairOf_4 : decode cX3_pairOf 4 = .ok (.ifCond .eq 27, 3) := by decide +kernel
theorem dX3_pairOf_7 : decode cX3_pairOf 7 = .ok (.aload_n 1, 1) := by decide +kernel
theorem dX3_pairOf_8 : decode cX3_pairOf 8 = .ok (.getfield 52, 3) := by decide +kernel
theorem dX3_pairOf_11 : decode cX3_pairOf 11 = .ok (.invokestatic 117, 3) := by decide +kernel
theorem dX3_pairOf_14 : decode cX3_pairOf 14 = .ok (.ifCond .eq 17, 3) := by decide +kernel
theorem dX3_pairOf_17 : decode cX3_pairOf 17 = .ok (.aload_n 0, 1) := by decide +kernel
theorem dX3_pairOf_18 : decode cX3_pairOf 18 = .ok (.invokevirtual 120, 3) := by decide +kernel
theorem dX3_pairOf_21 : decode cX3_pairOf 21 = .ok (.aload_n 1, 1) := by decide +kernel
theorem dX3_pairOf_22 : decode cX3_pairOf 22 = .ok (.invokevirtual 139, 3) := by decide +kernel
theorem dX3_pairOf_25 : decode cX3_pairOf 25 = .ok (.invokevirtual 222, 3) := by decide +kernel
theorem dX3_pairOf_28 : decode cX3_pairOf 28 = .ok (.goto 4, 3) := by decide +kernel
theorem dX3_pairOf_31 : decode cX3_pairOf 31 = .ok (.iconst (-1), 1) := by decide +kernel
theorem dX3_pairOf_32 : decode cX3_pairOf 32 = .ok (.ireturn, 1) := by decide +kernel
theorem dX3_pairForPutting_0 : decode cX3_pairForPutting 0 = .ok (.aload_n 2, 1) := by decide +kernel
theorem dX3_pairForPutting_1 : decode cX3_pairForPutting 1 = .ok (.invokevirtual 86, 3) := by decide +kernel
theorem dX3_pairForPutting_4 : decode cX3_pairForPutting 4 = .ok (.ifCond .eq 18, 3) := by decide +kernel
theorem dX3_pairForPutting_7 : decode cX3_pairForPutting 7 = .ok (.aload_n 1, 1) := by decide +kernel
theorem dX3_pairForPutting_8 : decode cX3_pairForPutting 8 = .ok (.getfield 43, 3) := by decide +kernel
theorem dX3_pairForPutting_11 : decode cX3_pairForPutting 11 = .ok (.ifCond .eq 11, 3) := by decide +kernel
theorem dX3_pairForPutting_14 : decode cX3_pairForPutting 14 = .ok (.aload_n 0, 1) := by decide +kernel
theorem dX3_pairForPutting_15 : decode cX3_pairForPutting 15 = .ok (.aload_n 1, 1) := by decide +kernel
theorem dX3_pairForPutting_16 : decode cX3_pairForPutting 16 = .ok (.invokevirtual 136, 3) := by decide +kernel
theorem dX3_pairForPutting_19 : decode cX3_pairForPutting 19 = .ok (.goto 4, 3) := by decide +kernel
theorem dX3_pairForPutting_22 : decode cX3_pairForPutting 22 = .ok (.iconst (-1), 1) := by decide +kernel
theorem dX3_pairForPutting_23 : decode cX3_pairForPutting 23 = .ok (.ireturn, 1) := by decide +kernel
theorem dX3_digitsTakenOut_0 : decode cX3_digitsTakenOut 0 = .ok (.aload_n 0, 1) := by decide +kernel
theorem dX3_digitsTakenOut_1 : decode cX3_digitsTakenOut 1 = .ok (.invokevirtual 120, 3) := by decide +kernel
theorem dX3_digitsTakenOut_4 : decode cX3_digitsTakenOut 4 = .ok (.iload_n 1, 1) := by decide +kernel
theorem dX3_digitsTakenOut_5 : decode cX3_digitsTakenOut 5 = .ok (.iconst 0, 1) := by decide +kernel
theorem dX3_digitsTakenOut_6 : decode cX3_digitsTakenOut 6 = .ok (.iload_n 2, 1) := by decide +kernel
theorem dX3_digitsTakenOut_7 : decode cX3_digitsTakenOut 7 = .ok (.invokevirtual 132, 3) := by decide +kernel
theorem dX3_digitsTakenOut_10 : decode cX3_digitsTakenOut 10 = .ok (.istore 5, 2) := by decide +kernel
theorem dX3_digitsTakenOut_12 : decode cX3_digitsTakenOut 12 = .ok (.aload_n 0, 1) := by decide +kernel
theorem dX3_digitsTakenOut_13 : decode cX3_digitsTakenOut 13 = .ok (.invokevirtual 120, 3) := by decide +kernel
theorem dX3_digitsTakenOut_16 : decode cX3_digitsTakenOut 16 = .ok (.iload_n 1, 1) := by decide +kernel
theorem dX3_digitsTakenOut_17 : decode cX3_digitsTakenOut 17 = .ok (.iconst 1, 1) := by decide +kernel
theorem dX3_digitsTakenOut_18 : decode cX3_digitsTakenOut 18 = .ok (.iload_n 2, 1) := by decide +kernel
theorem dX3_digitsTakenOut_19 : decode cX3_digitsTakenOut 19 = .ok (.invokevirtual 132, 3) := by decide +kernel
theorem dX3_digitsTakenOut_22 : decode cX3_digitsTakenOut 22 = .ok (.istore 6, 2) := by decide +kernel
theorem dX3_digitsTakenOut_24 : decode cX3_digitsTakenOut 24 = .ok (.lconst 0, 1) := by decide +kernel
theorem dX3_digitsTakenOut_25 : decode cX3_digitsTakenOut 25 = .ok (.lstore 7, 2) := by decide +kernel
theorem dX3_digitsTakenOut_27 : decode cX3_digitsTakenOut 27 = .ok (.aload_n 3, 1) := by decide +kernel
theorem dX3_digitsTakenOut_28 : decode cX3_digitsTakenOut 28 = .ok (.getfield 43, 3) := by decide +kernel
theorem dX3_digitsTakenOut_31 : decode cX3_digitsTakenOut 31 = .ok (.i2l, 1) := by decide +kernel
theorem dX3_digitsTakenOut_32 : decode cX3_digitsTakenOut 32 = .ok (.lstore 9, 2) := by decide +kernel
theorem dX3_digitsTakenOut_34 : decode cX3_digitsTakenOut 34 = .ok (.iconst 0, 1) := by decide +kernel
theorem dX3_digitsTakenOut_35 : decode cX3_digitsTakenOut 35 = .ok (.istore 11, 2) := by decide +kernel
theorem dX3_digitsTakenOut_37 : decode cX3_digitsTakenOut 37 = .ok (.iload 11, 2) := by decide +kernel
theorem dX3_digitsTakenOut_39 : decode cX3_digitsTakenOut 39 = .ok (.iload 4, 2) := by decide +kernel
theorem dX3_digitsTakenOut_41 : decode cX3_digitsTakenOut 41 = .ok (.if_icmp .ge 89, 3) := by decide +kernel
theorem dX3_digitsTakenOut_44 : decode cX3_digitsTakenOut 44 = .ok (.lload 9, 2) := by decide +kernel
theorem dX3_digitsTakenOut_46 : decode cX3_digitsTakenOut 46 = .ok (.iload_n 2, 1) := by decide +kernel
theorem dX3_digitsTakenOut_47 : decode cX3_digitsTakenOut 47 = .ok (.lshl, 1) := by decide +kernel
theorem dX3_digitsTakenOut_48 : decode cX3_digitsTakenOut 48 = .ok (.lstore 12, 2) := by decide +kernel
theorem dX3_digitsTakenOut_50 : decode cX3_digitsTakenOut 50 = .ok (.lload 12, 2) := by decide +kernel
theorem dX3_digitsTakenOut_52 : decode cX3_digitsTakenOut 52 = .ok (.aload_n 3, 1) := by decide +kernel
theorem dX3_digitsTakenOut_53 : decode cX3_digitsTakenOut 53 = .ok (.getfield 46, 3) := by decide +kernel
theorem dX3_digitsTakenOut_56 : decode cX3_digitsTakenOut 56 = .ok (.i2l, 1) := by decide +kernel
theorem dX3_digitsTakenOut_57 : decode cX3_digitsTakenOut 57 = .ok (.invokestatic 70, 3) := by decide +kernel
theorem dX3_digitsTakenOut_60 : decode cX3_digitsTakenOut 60 = .ok (.lstore 14, 2) := by decide +kernel
theorem dX3_digitsTakenOut_62 : decode cX3_digitsTakenOut 62 = .ok (.lload 14, 2) := by decide +kernel
theorem dX3_digitsTakenOut_64 : decode cX3_digitsTakenOut 64 = .ok (.iload 5, 2) := by decide +kernel
theorem dX3_digitsTakenOut_66 : decode cX3_digitsTakenOut 66 = .ok (.i2l, 1) := by decide +kernel
theorem dX3_digitsTakenOut_67 : decode cX3_digitsTakenOut 67 = .ok (.lcmp, 1) := by decide +kernel
theorem dX3_digitsTakenOut_68 : decode cX3_digitsTakenOut 68 = .ok (.ifCond .eq 16, 3) := by decide +kernel
theorem dX3_digitsTakenOut_71 : decode cX3_digitsTakenOut 71 = .ok (.lload 14, 2) := by decide +kernel
theorem dX3_digitsTakenOut_73 : decode cX3_digitsTakenOut 73 = .ok (.iload 6, 2) := by decide +kernel
theorem dX3_digitsTakenOut_75 : decode cX3_digitsTakenOut 75 = .ok (.i2l, 1) := by decide +kernel
theorem dX3_digitsTakenOut_76 : decode cX3_digitsTakenOut 76 = .ok (.lcmp, 1) := by decide +kernel
theorem dX3_digitsTakenOut_77 : decode cX3_digitsTakenOut 77 = .ok (.ifCond .eq 7, 3) := by decide +kernel
theorem dX3_digitsTakenOut_80 : decode cX3_digitsTakenOut 80 = .ok (.ldc2_w 225, 3) := by decide +kernel
theorem dX3_digitsTakenOut_83 : decode cX3_digitsTakenOut 83 = .ok (.lreturn, 1) := by decide +kernel
theorem dX3_digitsTakenOut_84 : decode cX3_digitsTakenOut 84 = .ok (.ldc2_w 197, 3) := by decide +kernel
theorem dX3_digitsTakenOut_87 : decode cX3_digitsTakenOut 87 = .ok (.lload 7, 2) := by decide +kernel
theorem dX3_digitsTakenOut_89 : decode cX3_digitsTakenOut 89 = .ok (.lmul, 1) := by decide +kernel
theorem dX3_digitsTakenOut_90 : decode cX3_digitsTakenOut 90 = .ok (.lload 14, 2) := by decide +kernel
theorem dX3_digitsTakenOut_92 : decode cX3_digitsTakenOut 92 = .ok (.iload 6, 2) := by decide +kernel
theorem dX3_digitsTakenOut_94 : decode cX3_digitsTakenOut 94 = .ok (.i2l, 1) := by decide +kernel
theorem dX3_digitsTakenOut_95 : decode cX3_digitsTakenOut 95 = .ok (.lcmp, 1) := by decide +kernel
theorem dX3_digitsTakenOut_96 : decode cX3_digitsTakenOut 96 = .ok (.ifCond .ne 7, 3) := by decide +kernel
theorem dX3_digitsTakenOut_99 : decode cX3_digitsTakenOut 99 = .ok (.iconst 1, 1) := by decide +kernel
theorem dX3_digitsTakenOut_100 : decode cX3_digitsTakenOut 100 = .ok (.goto 4, 3) := by decide +kernel
theorem dX3_digitsTakenOut_103 : decode cX3_digitsTakenOut 103 = .ok (.iconst 0, 1) := by decide +kernel
theorem dX3_digitsTakenOut_104 : decode cX3_digitsTakenOut 104 = .ok (.invokestatic 101, 3) := by decide +kernel
theorem dX3_digitsTakenOut_107 : decode cX3_digitsTakenOut 107 = .ok (.i2l, 1) := by decide +kernel
theorem dX3_digitsTakenOut_108 : decode cX3_digitsTakenOut 108 = .ok (.ladd, 1) := by decide +kernel
theorem dX3_digitsTakenOut_109 : decode cX3_digitsTakenOut 109 = .ok (.lstore 7, 2) := by decide +kernel
theorem dX3_digitsTakenOut_111 : decode cX3_digitsTakenOut 111 = .ok (.lload 12, 2) := by decide +kernel
theorem dX3_digitsTakenOut_113 : decode cX3_digitsTakenOut 113 = .ok (.lload 14, 2) := by decide +kernel
theorem dX3_digitsTakenOut_115 : decode cX3_digitsTakenOut 115 = .ok (.aload_n 3, 1) := by decide +kernel
theorem dX3_digitsTakenOut_116 : decode cX3_digitsTakenOut 116 = .ok (.getfield 46, 3) := by decide +kernel
theorem dX3_digitsTakenOut_119 : decode cX3_digitsTakenOut 119 = .ok (.i2l, 1) := by decide +kernel
theorem dX3_digitsTakenOut_120 : decode cX3_digitsTakenOut 120 = .ok (.lmul, 1) := by decide +kernel
theorem dX3_digitsTakenOut_121 : decode cX3_digitsTakenOut 121 = .ok (.lsub, 1) := by decide +kernel
theorem dX3_digitsTakenOut_122 : decode cX3_digitsTakenOut 122 = .ok (.lstore 9, 2) := by decide +kernel
theorem dX3_digitsTakenOut_124 : decode cX3_digitsTakenOut 124 = .ok (.iinc 11 1, 3) := by decide +kernel
theorem dX3_digitsTakenOut_127 : decode cX3_digitsTakenOut 127 = .ok (.goto (-90), 3) := by decide +kernel
theorem dX3_digitsTakenOut_130 : decode cX3_digitsTakenOut 130 = .ok (.lload 7, 2) := by decide +kernel
theorem dX3_digitsTakenOut_132 : decode cX3_digitsTakenOut 132 = .ok (.lreturn, 1) := by decide +kernel
theorem dX3_readAngle_0 : decode cX3_readAngle 0 = .ok (.aload_n 1, 1) := by decide +kernel
theorem dX3_readAngle_1 : decode cX3_readAngle 1 = .ok (.lload_n 2, 1) := by decide +kernel
theorem dX3_readAngle_2 : decode cX3_readAngle 2 = .ok (.invokevirtual 186, 3) := by decide +kernel
theorem dX3_readAngle_5 : decode cX3_readAngle 5 = .ok (.ifCond .eq 13, 3) := by decide +kernel
theorem dX3_readAngle_8 : decode cX3_readAngle 8 = .ok (.aload_n 1, 1) := by decide +kernel
theorem dX3_readAngle_9 : decode cX3_readAngle 9 = .ok (.lload_n 2, 1) := by decide +kernel
theorem dX3_readAngle_10 : decode cX3_readAngle 10 = .ok (.lconst 1, 1) := by decide +kernel
theorem dX3_readAngle_11 : decode cX3_readAngle 11 = .ok (.ladd, 1) := by decide +kernel
theorem dX3_readAngle_12 : decode cX3_readAngle 12 = .ok (.invokevirtual 186, 3) := by decide +kernel
theorem dX3_readAngle_15 : decode cX3_readAngle 15 = .ok (.ifCond .ne 6, 3) := by decide +kernel
theorem dX3_readAngle_18 : decode cX3_readAngle 18 = .ok (.bipush (-12), 2) := by decide +kernel
theorem dX3_readAngle_20 : decode cX3_readAngle 20 = .ok (.ireturn, 1) := by decide +kernel
theorem dX3_readAngle_21 : decode cX3_readAngle 21 = .ok (.aload_n 0, 1) := by decide +kernel
theorem dX3_readAngle_22 : decode cX3_readAngle 22 = .ok (.aload_n 1, 1) := by decide +kernel
theorem dX3_readAngle_23 : decode cX3_readAngle 23 = .ok (.getfield 190, 3) := by decide +kernel
theorem dX3_readAngle_26 : decode cX3_readAngle 26 = .ok (.lload_n 2, 1) := by decide +kernel
theorem dX3_readAngle_27 : decode cX3_readAngle 27 = .ok (.l2i, 1) := by decide +kernel
theorem dX3_readAngle_28 : decode cX3_readAngle 28 = .ok (.laload, 1) := by decide +kernel
theorem dX3_readAngle_29 : decode cX3_readAngle 29 = .ok (.aload_n 1, 1) := by decide +kernel
theorem dX3_readAngle_30 : decode cX3_readAngle 30 = .ok (.getfield 190, 3) := by decide +kernel
theorem dX3_readAngle_33 : decode cX3_readAngle 33 = .ok (.lload_n 2, 1) := by decide +kernel
theorem dX3_readAngle_34 : decode cX3_readAngle 34 = .ok (.l2i, 1) := by decide +kernel
theorem dX3_readAngle_35 : decode cX3_readAngle 35 = .ok (.iconst 1, 1) := by decide +kernel
theorem dX3_readAngle_36 : decode cX3_readAngle 36 = .ok (.iadd, 1) := by decide +kernel
theorem dX3_readAngle_37 : decode cX3_readAngle 37 = .ok (.laload, 1) := by decide +kernel
theorem dX3_readAngle_38 : decode cX3_readAngle 38 = .ok (.invokevirtual 227, 3) := by decide +kernel
theorem dX3_readAngle_41 : decode cX3_readAngle 41 = .ok (.istore 4, 2) := by decide +kernel
theorem dX3_readAngle_43 : decode cX3_readAngle 43 = .ok (.iload 4, 2) := by decide +kernel
theorem dX3_readAngle_45 : decode cX3_readAngle 45 = .ok (.ifCond .ge 11, 3) := by decide +kernel
theorem dX3_readAngle_48 : decode cX3_readAngle 48 = .ok (.bipush (-20), 2) := by decide +kernel
theorem dX3_readAngle_50 : decode cX3_readAngle 50 = .ok (.iload 4, 2) := by decide +kernel
theorem dX3_readAngle_52 : decode cX3_readAngle 52 = .ok (.iadd, 1) := by decide +kernel
theorem dX3_readAngle_53 : decode cX3_readAngle 53 = .ok (.goto 5, 3) := by decide +kernel
theorem dX3_readAngle_56 : decode cX3_readAngle 56 = .ok (.iload 4, 2) := by decide +kernel
theorem dX3_readAngle_58 : decode cX3_readAngle 58 = .ok (.ireturn, 1) := by decide +kernel
