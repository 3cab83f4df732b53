theorem dX4_init_0 : decode cX4_init 0 = .ok (.aload_n 0, 1) := by decide +kernel
theorem dX4_init_1 : decode cX4_init 1 = .ok (.invokespecial 1, 3) := by decide +kernel
theorem dX4_init_4 : decode cX4_init 4 = .ok (.aload_n 0, 1) := by decide +kernel
theorem dX4_init_5 : decode cX4_init 5 = .ok (.bipush 16, 2) := by decide +kernel
theorem dX4_init_7 : decode cX4_init 7 = .ok (.newarray .long, 2) := by decide +kernel
theorem dX4_init_9 : decode cX4_init 9 = .ok (.putfield 7, 3) := by decide +kernel
theorem dX4_init_12 : decode cX4_init 12 = .ok (.aload_n 0, 1) := by decide +kernel
theorem dX4_init_13 : decode cX4_init 13 = .ok (.bipush 16, 2) := by decide +kernel
theorem dX4_init_15 : decode cX4_init 15 = .ok (.newarray .long, 2) := by decide +kernel
theorem dX4_init_17 : decode cX4_init 17 = .ok (.putfield 13, 3) := by decide +kernel
theorem dX4_init_20 : decode cX4_init 20 = .ok (.aload_n 0, 1) := by decide +kernel
theorem dX4_init_21 : decode cX4_init 21 = .ok (.sipush 240, 3) := by decide +kernel
theorem dX4_init_24 : decode cX4_init 24 = .ok (.newarray .int, 2) := by decide +kernel
theorem dX4_init_26 : decode cX4_init 26 = .ok (.putfield 16, 3) := by decide +kernel
theorem dX4_init_29 : decode cX4_init 29 = .ok (.aload_n 0, 1) := by decide +kernel
theorem dX4_init_30 : decode cX4_init 30 = .ok (.sipush 240, 3) := by decide +kernel
theorem dX4_init_33 : decode cX4_init 33 = .ok (.newarray .long, 2) := by decide +kernel
theorem dX4_init_35 : decode cX4_init 35 = .ok (.putfield 20, 3) := by decide +kernel
theorem dX4_init_38 : decode cX4_init 38 = .ok (.aload_n 0, 1) := by decide +kernel
theorem dX4_init_39 : decode cX4_init 39 = .ok (.sipush 240, 3) := by decide +kernel
theorem dX4_init_42 : decode cX4_init 42 = .ok (.newarray .long, 2) := by decide +kernel
theorem dX4_init_44 : decode cX4_init 44 = .ok (.putfield 23, 3) := by decide +kernel
theorem dX4_init_47 : decode cX4_init 47 = .ok (.aload_n 0, 1) := by decide +kernel
theorem dX4_init_48 : decode cX4_init 48 = .ok (.sipush 256, 3) := by decide +kernel
theorem dX4_init_51 : decode cX4_init 51 = .ok (.newarray .boolean, 2) := by decide +kernel
theorem dX4_init_53 : decode cX4_init 53 = .ok (.putfield 26, 3) := by decide +kernel
theorem dX4_init_56 : decode cX4_init 56 = .ok (.aload_n 0, 1) := by decide +kernel
theorem dX4_init_57 : decode cX4_init 57 = .ok (.iconst 4, 1) := by decide +kernel
theorem dX4_init_58 : decode cX4_init 58 = .ok (.newarray .int, 2) := by decide +kernel
theorem dX4_init_60 : decode cX4_init 60 = .ok (.putfield 30, 3) := by decide +kernel
theorem dX4_init_63 : decode cX4_init 63 = .ok (.aload_n 0, 1) := by decide +kernel
theorem dX4_init_64 : decode cX4_init 64 = .ok (.iconst 4, 1) := by decide +kernel
theorem dX4_init_65 : decode cX4_init 65 = .ok (.newarray .int, 2) := by decide +kernel
theorem dX4_init_67 : decode cX4_init 67 = .ok (.putfield 33, 3) := by decide +kernel
theorem dX4_init_70 : decode cX4_init 70 = .ok (.aload_n 0, 1) := by decide +kernel
theorem dX4_init_71 : decode cX4_init 71 = .ok (.sipush 240, 3) := by decide +kernel
theorem dX4_init_74 : decode cX4_init 74 = .ok (.newarray .long, 2) := by decide +kernel
theorem dX4_init_76 : decode cX4_init 76 = .ok (.putfield 36, 3) := by decide +kernel
theorem dX4_init_79 : decode cX4_init 79 = .ok (.iconst 0, 1) := by decide +kernel
theorem dX4_init_80 : decode cX4_init 80 = .ok (.istore_n 1, 1) := by decide +kernel
theorem dX4_init_81 : decode cX4_init 81 = .ok (.iload_n 1, 1) := by decide +kernel
theorem dX4_init_82 : decode cX4_init 82 = .ok (.iconst 4, 1) := by decide +kernel
theorem dX4_init_83 : decode cX4_init 83 = .ok (.if_icmp .ge 17, 3) := by decide +kernel
theorem dX4_init_86 : decode cX4_init 86 = .ok (.aload_n 0, 1) := by decide +kernel
theorem dX4_init_87 : decode cX4_init 87 = .ok (.getfield 30, 3) := by decide +kernel
theorem dX4_init_90 : decode cX4_init 90 = .ok (.iload_n 1, 1) := by decide +kernel
theorem dX4_init_91 : decode cX4_init 91 = .ok (.bipush (-4), 2) := by decide +kernel
theorem dX4_init_93 : decode cX4_init 93 = .ok (.iastore, 1) := by decide +kernel
theorem dX4_init_94 : decode cX4_init 94 = .ok (.iinc 1 1, 3) := by decide +kernel
theorem dX4_init_97 : decode cX4_init 97 = .ok (.goto (-16), 3) := by decide +kernel
theorem dX4_init_100 : decode cX4_init 100 = .ok (.aload_n 0, 1) := by decide +kernel
theorem dX4_init_101 : decode cX4_init 101 = .ok (.invokevirtual 39, 3) := by decide +kernel
theorem dX4_init_104 : decode cX4_init 104 = .ok (.return_, 1) := by decide +kernel
theorem dX4_in_0 : decode cX4_in 0 = .ok (.lload_n 0, 1) := by decide +kernel
theorem dX4_in_1 : decode cX4_in 1 = .ok (.lload_n 2, 1) := by decide +kernel
theorem dX4_in_2 : decode cX4_in 2 = .ok (.lcmp, 1) := by decide +kernel
theorem dX4_in_3 : decode cX4_in 3 = .ok (.ifCond .lt 14, 3) := by decide +kernel
theorem dX4_in_6 : decode cX4_in 6 = .ok (.lload_n 0, 1) := by decide +kernel
theorem dX4_in_7 : decode cX4_in 7 = .ok (.lload 4, 2) := by decide +kernel
theorem dX4_in_9 : decode cX4_in 9 = .ok (.lcmp, 1) := by decide +kernel
theorem dX4_in_10 : decode cX4_in 10 = .ok (.ifCond .gt 7, 3) := by decide +kernel
theorem dX4_in_13 : decode cX4_in 13 = .ok (.iconst 1, 1) := by decide +kernel
theorem dX4_in_14 : decode cX4_in 14 = .ok (.goto 4, 3) := by decide +kernel
theorem dX4_in_17 : decode cX4_in 17 = .ok (.iconst 0, 1) := by decide +kernel
theorem dX4_in_18 : decode cX4_in 18 = .ok (.ireturn, 1) := by decide +kernel
theorem dX4_isAngle_0 : decode cX4_isAngle 0 = .ok (.iload_n 1, 1) := by decide +kernel
theorem dX4_isAngle_1 : decode cX4_isAngle 1 = .ok (.i2l, 1) := by decide +kernel
theorem dX4_isAngle_2 : decode cX4_isAngle 2 = .ok (.lconst 0, 1) := by decide +kernel
theorem dX4_isAngle_3 : decode cX4_isAngle 3 = .ok (.aload_n 0, 1) := by decide +kernel
theorem dX4_isAngle_4 : decode cX4_isAngle 4 = .ok (.getfield 42, 3) := by decide +kernel
theorem dX4_isAngle_7 : decode cX4_isAngle 7 = .ok (.iconst 1, 1) := by decide +kernel
theorem dX4_isAngle_8 : decode cX4_isAngle 8 = .ok (.isub, 1) := by decide +kernel
theorem dX4_isAngle_9 : decode cX4_isAngle 9 = .ok (.i2l, 1) := by decide +kernel
theorem dX4_isAngle_10 : decode cX4_isAngle 10 = .ok (.invokestatic 46, 3) := by decide +kernel
theorem dX4_isAngle_13 : decode cX4_isAngle 13 = .ok (.ireturn, 1) := by decide +kernel
theorem dX4_comes_0 : decode cX4_comes 0 = .ok (.aload_n 0, 1) := by decide +kernel
theorem dX4_comes_1 : decode cX4_comes 1 = .ok (.getfield 42, 3) := by decide +kernel
theorem dX4_comes_4 : decode cX4_comes 4 = .ok (.bipush 16, 2) := by decide +kernel
theorem dX4_comes_6 : decode cX4_comes 6 = .ok (.if_icmp .ne 6, 3) := by decide +kernel
theorem dX4_comes_9 : decode cX4_comes 9 = .ok (.bipush (-3), 2) := by decide +kernel
theorem dX4_comes_11 : decode cX4_comes 11 = .ok (.ireturn, 1) := by decide +kernel
theorem dX4_comes_12 : decode cX4_comes 12 = .ok (.lload_n 1, 1) := by decide +kernel
theorem dX4_comes_13 : decode cX4_comes 13 = .ok (.lstore 5, 2) := by decide +kernel
theorem dX4_comes_15 : decode cX4_comes 15 = .ok (.lload_n 3, 1) := by decide +kernel
theorem dX4_comes_16 : decode cX4_comes 16 = .ok (.lstore 7, 2) := by decide +kernel
theorem dX4_comes_18 : decode cX4_comes 18 = .ok (.lload 7, 2) := by decide +kernel
theorem dX4_comes_20 : decode cX4_comes 20 = .ok (.lconst 0, 1) := by decide +kernel
theorem dX4_comes_21 : decode cX4_comes 21 = .ok (.lcmp, 1) := by decide +kernel
theorem dX4_comes_22 : decode cX4_comes 22 = .ok (.ifCond .eq 21, 3) := by decide +kernel
theorem dX4_comes_25 : decode cX4_comes 25 = .ok (.lload 5, 2) := by decide +kernel
theorem dX4_comes_27 : decode cX4_comes 27 = .ok (.lload 7, 2) := by decide +kernel
theorem dX4_comes_29 : decode cX4_comes 29 = .ok (.lrem, 1) := by decide +kernel
theorem dX4_comes_30 : decode cX4_comes 30 = .ok (.lstore 9, 2) := by decide +kernel
theorem dX4_comes_32 : decode cX4_comes 32 = .ok (.lload 7, 2) := by decide +kernel
theorem dX4_comes_34 : decode cX4_comes 34 = .ok (.lstore 5, 2) := by decide +kernel
theorem dX4_comes_36 : decode cX4_comes 36 = .ok (.lload 9, 2) := by decide +kernel
theorem dX4_comes_38 : decode cX4_comes 38 = .ok (.lstore 7, 2) := by decide +kernel
theorem dX4_comes_40 : decode cX4_comes 40 = .ok (.goto (-22), 3) := by decide +kernel
theorem dX4_comes_43 : decode cX4_comes 43 = .ok (.aload_n 0, 1) := by decide +kernel
theorem dX4_comes_44 : decode cX4_comes 44 = .ok (.getfield 7, 3) := by decide +kernel
theorem dX4_comes_47 : decode cX4_comes 47 = .ok (.aload_n 0, 1) := by decide +kernel
theorem dX4_comes_48 : decode cX4_comes 48 = .ok (.getfield 42, 3) := by decide +kernel
theorem dX4_comes_51 : decode cX4_comes 51 = .ok (.lload_n 1, 1) := by decide +kernel
theorem dX4_comes_52 : decode cX4_comes 52 = .ok (.lload 5, 2) := by decide +kernel
theorem dX4_comes_54 : decode cX4_comes 54 = .ok (.ldiv, 1) := by decide +kernel
theorem dX4_comes_55 : decode cX4_comes 55 = .ok (.lastore, 1) := by decide +kernel
theorem dX4_comes_56 : decode cX4_comes 56 = .ok (.aload_n 0, 1) := by decide +kernel
theorem dX4_comes_57 : decode cX4_comes 57 = .ok (.getfield 13, 3) := by decide +kernel
theorem dX4_comes_60 : decode cX4_comes 60 = .ok (.aload_n 0, 1) := by decide +kernel
theorem dX4_comes_61 : decode cX4_comes 61 = .ok (.getfield 42, 3) := by decide +kernel
theorem dX4_comes_64 : decode cX4_comes 64 = .ok (.lload_n 3, 1) := by decide +kernel
theorem dX4_comes_65 : decode cX4_comes 65 = .ok (.lload 5, 2) := by decide +kernel
theorem dX4_comes_67 : decode cX4_comes 67 = .ok (.ldiv, 1) := by decide +kernel
theorem dX4_comes_68 : decode cX4_comes 68 = .ok (.lastore, 1) := by decide +kernel
theorem dX4_comes_69 : decode cX4_comes 69 = .ok (.aload_n 0, 1) := by decide +kernel
theorem dX4_comes_70 : decode cX4_comes 70 = .ok (.dup, 1) := by decide +kernel
theorem dX4_comes_71 : decode cX4_comes 71 = .ok (.getfield 42, 3) := by decide +kernel
theorem dX4_comes_74 : decode cX4_comes 74 = .ok (.iconst 1, 1) := by decide +kernel
theorem dX4_comes_75 : decode cX4_comes 75 = .ok (.iadd, 1) := by decide +kernel
theorem dX4_comes_76 : decode cX4_comes 76 = .ok (.putfield 42, 3) := by decide +kernel
theorem dX4_comes_79 : decode cX4_comes 79 = .ok (.aload_n 0, 1) := by decide +kernel
theorem dX4_comes_80 : decode cX4_comes 80 = .ok (.getfield 42, 3) := by decide +kernel
theorem dX4_comes_83 : decode cX4_comes 83 = .ok (.iconst 1, 1) := by decide +kernel
theorem dX4_comes_84 : decode cX4_comes 84 = .ok (.isub, 1) := by decide +kernel
theorem dX4_comes_85 : decode cX4_comes 85 = .ok (.ireturn, 1) := by decide +kernel
theorem dX4_angle_0 : decode cX4_angle 0 = .ok (.lload_n 3, 1) := by decide +kernel
theorem dX4_angle_1 : decode cX4_angle 1 = .ok (.lconst 1, 1) := by decide +kernel
theorem dX4_angle_2 : decode cX4_angle 2 = .ok (.ldc2_w 50, 3) := by decide +kernel
theorem dX4_angle_5 : decode cX4_angle 5 = .ok (.invokestatic 46, 3) := by decide +kernel
theorem dX4_angle_8 : decode cX4_angle 8 = .ok (.ifCond .eq 23, 3) := by decide +kernel
theorem dX4_angle_11 : decode cX4_angle 11 = .ok (.lload_n 1, 1) := by decide +kernel
theorem dX4_angle_12 : decode cX4_angle 12 = .ok (.lconst 0, 1) := by decide +kernel
theorem dX4_angle_13 : decode cX4_angle 13 = .ok (.lload_n 3, 1) := by decide +kernel
theorem dX4_angle_14 : decode cX4_angle 14 = .ok (.lconst 1, 1) := by decide +kernel
theorem dX4_angle_15 : decode cX4_angle 15 = .ok (.lsub, 1) := by decide +kernel
theorem dX4_angle_16 : decode cX4_angle 16 = .ok (.invokestatic 46, 3) := by decide +kernel
theorem dX4_angle_19 : decode cX4_angle 19 = .ok (.ifCond .eq 12, 3) := by decide +kernel
theorem dX4_angle_22 : decode cX4_angle 22 = .ok (.aload_n 0, 1) := by decide +kernel
theorem dX4_angle_23 : decode cX4_angle 23 = .ok (.lload_n 1, 1) := by decide +kernel
theorem dX4_angle_24 : decode cX4_angle 24 = .ok (.lload_n 3, 1) := by decide +kernel
theorem dX4_angle_25 : decode cX4_angle 25 = .ok (.invokevirtual 52, 3) := by decide +kernel
theorem dX4_angle_28 : decode cX4_angle 28 = .ok (.goto 4, 3) := by decide +kernel
theorem dX4_angle_31 : decode cX4_angle 31 = .ok (.iconst (-1), 1) := by decide +kernel
theorem dX4_angle_32 : decode cX4_angle 32 = .ok (.ireturn, 1) := by decide +kernel
theorem dX4_drop_0 : decode cX4_drop 0 = .ok (.aload_n 0, 1) := by decide +kernel
theorem dX4_drop_1 : decode cX4_drop 1 = .ok (.getfield 42, 3) := by decide +kernel
theorem dX4_drop_4 : decode cX4_drop 4 = .ok (.ifCond .ne 6, 3) := by decide +kernel
theorem dX4_drop_7 : decode cX4_drop 7 = .ok (.bipush (-4), 2) := by decide +kernel
theorem dX4_drop_9 : decode cX4_drop 9 = .ok (.ireturn, 1) := by decide +kernel
theorem dX4_drop_10 : decode cX4_drop 10 = .ok (.aload_n 0, 1) := by decide +kernel
theorem dX4_drop_11 : decode cX4_drop 11 = .ok (.dup, 1) := by decide +kernel
theorem dX4_drop_12 : decode cX4_drop 12 = .ok (.getfield 42, 3) := by decide +kernel
theorem dX4_drop_15 : decode cX4_drop 15 = .ok (.iconst 1, 1) := by decide +kernel
theorem dX4_drop_16 : decode cX4_drop 16 = .ok (.isub, 1) := by decide +kernel
theorem dX4_drop_17 : decode cX4_drop 17 = .ok (.putfield 42, 3) := by decide +kernel
theorem dX4_drop_20 : decode cX4_drop 20 = .ok (.aload_n 0, 1) := by decide +kernel
theorem dX4_drop_21 : decode cX4_drop 21 = .ok (.getfield 42, 3) := by decide +kernel
theorem dX4_drop_24 : decode cX4_drop 24 = .ok (.ireturn, 1) := by decide +kernel
theorem dX4_tailOf_0 : decode cX4_tailOf 0 = .ok (.iconst 0, 1) := by decide +kernel
theorem dX4_tailOf_1 : decode cX4_tailOf 1 = .ok (.istore_n 2, 1) := by decide +kernel
theorem dX4_tailOf_2 : decode cX4_tailOf 2 = .ok (.lload_n 0, 1) := by decide +kernel
theorem dX4_tailOf_3 : decode cX4_tailOf 3 = .ok (.lstore_n 3, 1) := by decide +kernel
theorem dX4_tailOf_4 : decode cX4_tailOf 4 = .ok (.lload_n 3, 1) := by decide +kernel
theorem dX4_tailOf_5 : decode cX4_tailOf 5 = .ok (.ldc2_w 56, 3) := by decide +kernel
theorem dX4_tailOf_8 : decode cX4_tailOf 8 = .ok (.lrem, 1) := by decide +kernel
theorem dX4_tailOf_9 : decode cX4_tailOf 9 = .ok (.lconst 0, 1) := by decide +kernel
theorem dX4_tailOf_10 : decode cX4_tailOf 10 = .ok (.lcmp, 1) := by decide +kernel
theorem dX4_tailOf_11 : decode cX4_tailOf 11 = .ok (.ifCond .ne 15, 3) := by decide +kernel
theorem dX4_tailOf_14 : decode cX4_tailOf 14 = .ok (.iinc 2 1, 3) := by decide +kernel
theorem dX4_tailOf_17 : decode cX4_tailOf 17 = .ok (.lload_n 3, 1) := by decide +kernel
theorem dX4_tailOf_18 : decode cX4_tailOf 18 = .ok (.ldc2_w 56, 3) := by decide +kernel
theorem dX4_tailOf_21 : decode cX4_tailOf 21 = .ok (.ldiv, 1) := by decide +kernel
theorem dX4_tailOf_22 : decode cX4_tailOf 22 = .ok (.lstore_n 3, 1) := by decide +kernel
theorem dX4_tailOf_23 : decode cX4_tailOf 23 = .ok (.goto (-19), 3) := by decide +kernel
theorem dX4_tailOf_26 : decode cX4_tailOf 26 = .ok (.iload_n 2, 1) := by decide +kernel
theorem dX4_tailOf_27 : decode cX4_tailOf 27 = .ok (.ireturn, 1) := by decide +kernel
theorem dX4_lengthOf_0 : decode cX4_lengthOf 0 = .ok (.lload_n 0, 1) := by decide +kernel
theorem dX4_lengthOf_1 : decode cX4_lengthOf 1 = .ok (.lstore_n 2, 1) := by decide +kernel
theorem dX4_lengthOf_2 : decode cX4_lengthOf 2 = .ok (.lload_n 2, 1) := by decide +kernel
theorem dX4_lengthOf_3 : decode cX4_lengthOf 3 = .ok (.ldc2_w 56, 3) := by decide +kernel
theorem dX4_lengthOf_6 : decode cX4_lengthOf 6 = .ok (.lrem, 1) := by decide +kernel
theorem dX4_lengthOf_7 : decode cX4_lengthOf 7 = .ok (.lconst 0, 1) := by decide +kernel
theorem dX4_lengthOf_8 : decode cX4_lengthOf 8 = .ok (.lcmp, 1) := by decide +kernel
theorem dX4_lengthOf_9 : decode cX4_lengthOf 9 = .ok (.ifCond .ne 12, 3) := by decide +kernel
theorem dX4_lengthOf_12 : decode cX4_lengthOf 12 = .ok (.lload_n 2, 1) := by decide +kernel
theorem dX4_lengthOf_13 : decode cX4_lengthOf 13 = .ok (.ldc2_w 56, 3) := by decide +kernel
theorem dX4_lengthOf_16 : decode cX4_lengthOf 16 = .ok (.ldiv, 1) := by decide +kernel
theorem dX4_lengthOf_17 : decode cX4_lengthOf 17 = .ok (.lstore_n 2, 1) := by decide +kernel
theorem dX4_lengthOf_18 : decode cX4_lengthOf 18 = .ok (.goto (-16), 3) := by decide +kernel
theorem dX4_lengthOf_21 : decode cX4_lengthOf 21 = .ok (.iconst 1, 1) := by decide +kernel
theorem dX4_lengthOf_22 : decode cX4_lengthOf 22 = .ok (.istore 4, 2) := by decide +kernel
theorem dX4_lengthOf_24 : decode cX4_lengthOf 24 = .ok (.ldc2_w 56, 3) := by decide +kernel
theorem dX4_lengthOf_27 : decode cX4_lengthOf 27 = .ok (.lload_n 2, 1) := by decide +kernel
theorem dX4_lengthOf_28 : decode cX4_lengthOf 28 = .ok (.lrem, 1) := by decide +kernel
theorem dX4_lengthOf_29 : decode cX4_lengthOf 29 = .ok (.lstore 5, 2) := by decide +kernel
theorem dX4_lengthOf_31 : decode cX4_lengthOf 31 = .ok (.lload 5, 2) := by decide +kernel
theorem dX4_lengthOf_33 : decode cX4_lengthOf 33 = .ok (.lconst 1, 1) := by decide +kernel
theorem dX4_lengthOf_34 : decode cX4_lengthOf 34 = .ok (.lload_n 2, 1) := by decide +kernel
theorem dX4_lengthOf_35 : decode cX4_lengthOf 35 = .ok (.lrem, 1) := by decide +kernel
theorem dX4_lengthOf_36 : decode cX4_lengthOf 36 = .ok (.lcmp, 1) := by decide +kernel
theorem dX4_lengthOf_37 : decode cX4_lengthOf 37 = .ok (.ifCond .eq 19, 3) := by decide +kernel
theorem dX4_lengthOf_40 : decode cX4_lengthOf 40 = .ok (.ldc2_w 56, 3) := by decide +kernel
theorem dX4_lengthOf_43 : decode cX4_lengthOf 43 = .ok (.lload 5, 2) := by decide +kernel
theorem dX4_lengthOf_45 : decode cX4_lengthOf 45 = .ok (.lmul, 1) := by decide +kernel
theorem dX4_lengthOf_46 : decode cX4_lengthOf 46 = .ok (.lload_n 2, 1) := by decide +kernel
theorem dX4_lengthOf_47 : decode cX4_lengthOf 47 = .ok (.lrem, 1) := by decide +kernel
theorem dX4_lengthOf_48 : decode cX4_lengthOf 48 = .ok (.lstore 5, 2) := by decide +kernel
theorem dX4_lengthOf_50 : decode cX4_lengthOf 50 = .ok (.iinc 4 1, 3) := by decide +kernel
theorem dX4_lengthOf_53 : decode cX4_lengthOf 53 = .ok (.goto (-22), 3) := by decide +kernel
theorem dX4_lengthOf_56 : decode cX4_lengthOf 56 = .ok (.iload 4, 2) := by decide +kernel
theorem dX4_lengthOf_58 : decode cX4_lengthOf 58 = .ok (.ireturn, 1) := by decide +kernel
theorem dX4_told_0 : decode cX4_told 0 = .ok (.aload_n 0, 1) := by decide +kernel
theorem dX4_told_1 : decode cX4_told 1 = .ok (.iload_n 1, 1) := by decide +kernel
theorem dX4_told_2 : decode cX4_told 2 = .ok (.invokevirtual 58, 3) := by decide +kernel
theorem dX4_told_5 : decode cX4_told 5 = .ok (.ifCond .eq 15, 3) := by decide +kernel
theorem dX4_told_8 : decode cX4_told 8 = .ok (.iload_n 2, 1) := by decide +kernel
theorem dX4_told_9 : decode cX4_told 9 = .ok (.i2l, 1) := by decide +kernel
theorem dX4_told_10 : decode cX4_told 10 = .ok (.lconst 0, 1) := by decide +kernel
theorem dX4_told_11 : decode cX4_told 11 = .ok (.ldc2_w 62, 3) := by decide +kernel
theorem dX4_told_14 : decode cX4_told 14 = .ok (.invokestatic 46, 3) := by decide +kernel
theorem dX4_told_17 : decode cX4_told 17 = .ok (.ifCond .ne 5, 3) := by decide +kernel
theorem dX4_told_20 : decode cX4_told 20 = .ok (.iconst (-1), 1) := by decide +kernel
theorem dX4_told_21 : decode cX4_told 21 = .ok (.ireturn, 1) := by decide +kernel
theorem dX4_told_22 : decode cX4_told 22 = .ok (.iload_n 2, 1) := by decide +kernel
theorem dX4_told_23 : decode cX4_told 23 = .ok (.ifCond .ne 13, 3) := by decide +kernel
theorem dX4_told_26 : decode cX4_told 26 = .ok (.aload_n 0, 1) := by decide +kernel
theorem dX4_told_27 : decode cX4_told 27 = .ok (.getfield 7, 3) := by decide +kernel
theorem dX4_told_30 : decode cX4_told 30 = .ok (.iload_n 1, 1) := by decide +kernel
theorem dX4_told_31 : decode cX4_told 31 = .ok (.laload, 1) := by decide +kernel
theorem dX4_told_32 : decode cX4_told 32 = .ok (.l2i, 1) := by decide +kernel
theorem dX4_told_33 : decode cX4_told 33 = .ok (.goto 44, 3) := by decide +kernel
theorem dX4_told_36 : decode cX4_told 36 = .ok (.iload_n 2, 1) := by decide +kernel
theorem dX4_told_37 : decode cX4_told 37 = .ok (.iconst 1, 1) := by decide +kernel
theorem dX4_told_38 : decode cX4_told 38 = .ok (.if_icmp .ne 13, 3) := by decide +kernel
theorem dX4_told_41 : decode cX4_told 41 = .ok (.aload_n 0, 1) := by decide +kernel
theorem dX4_told_42 : decode cX4_told 42 = .ok (.getfield 13, 3) := by decide +kernel
theorem dX4_told_45 : decode cX4_told 45 = .ok (.iload_n 1, 1) := by decide +kernel
theorem dX4_told_46 : decode cX4_told 46 = .ok (.laload, 1) := by decide +kernel
theorem dX4_told_47 : decode cX4_told 47 = .ok (.l2i, 1) := by decide +kernel
theorem dX4_told_48 : decode cX4_told 48 = .ok (.goto 29, 3) := by decide +kernel
theorem dX4_told_51 : decode cX4_told 51 = .ok (.iload_n 2, 1) := by decide +kernel
theorem dX4_told_52 : decode cX4_told 52 = .ok (.iconst 2, 1) := by decide +kernel
theorem dX4_told_53 : decode cX4_told 53 = .ok (.if_icmp .ne 15, 3) := by decide +kernel
theorem dX4_told_56 : decode cX4_told 56 = .ok (.aload_n 0, 1) := by decide +kernel
theorem dX4_told_57 : decode cX4_told 57 = .ok (.getfield 13, 3) := by decide +kernel
theorem dX4_told_60 : decode cX4_told 60 = .ok (.iload_n 1, 1) := by decide +kernel
theorem dX4_told_61 : decode cX4_told 61 = .ok (.laload, 1) := by decide +kernel
theorem dX4_told_62 : decode cX4_told 62 = .ok (.invokestatic 64, 3) := by decide +kernel
theorem dX4_told_65 : decode cX4_told 65 = .ok (.goto 12, 3) := by decide +kernel
theorem dX4_told_68 : decode cX4_told 68 = .ok (.aload_n 0, 1) := by decide +kernel
theorem dX4_told_69 : decode cX4_told 69 = .ok (.getfield 13, 3) := by decide +kernel
theorem dX4_told_72 : decode cX4_told 72 = .ok (.iload_n 1, 1) := by decide +kernel
theorem dX4_told_73 : decode cX4_told 73 = .ok (.laload, 1) := by decide +kernel
theorem dX4_told_74 : decode cX4_told 74 = .ok (.invokestatic 68, 3) := by decide +kernel
theorem dX4_told_77 : decode cX4_told 77 = .ok (.ireturn, 1) := by decide +kernel
theorem dX4_after_0 : decode cX4_after 0 = .ok (.lload_n 0, 1) := by decide +kernel
theorem dX4_after_1 : decode cX4_after 1 = .ok (.lstore 5, 2) := by decide +kernel
theorem dX4_after_3 : decode cX4_after 3 = .ok (.iconst 0, 1) := by decide +kernel
theorem dX4_after_4 : decode cX4_after 4 = .ok (.istore 7, 2) := by decide +kernel
theorem dX4_after_6 : decode cX4_after 6 = .ok (.iload 7, 2) := by decide +kernel
theorem dX4_after_8 : decode cX4_after 8 = .ok (.iload 4, 2) := by decide +kernel
theorem dX4_after_10 : decode cX4_after 10 = .ok (.if_icmp .ge 19, 3) := by decide +kernel
theorem dX4_after_13 : decode cX4_after 13 = .ok (.ldc2_w 56, 3) := by decide +kernel
theorem dX4_after_16 : decode cX4_after 16 = .ok (.lload 5, 2) := by decide +kernel
theorem dX4_after_18 : decode cX4_after 18 = .ok (.lmul, 1) := by decide +kernel
theorem dX4_after_19 : decode cX4_after 19 = .ok (.lload_n 2, 1) := by decide +kernel
theorem dX4_after_20 : decode cX4_after 20 = .ok (.lrem, 1) := by decide +kernel
theorem dX4_after_21 : decode cX4_after 21 = .ok (.lstore 5, 2) := by decide +kernel
theorem dX4_after_23 : decode cX4_after 23 = .ok (.iinc 7 1, 3) := by decide +kernel
theorem dX4_after_26 : decode cX4_after 26 = .ok (.goto (-20), 3) := by decide +kernel
theorem dX4_after_29 : decode cX4_after 29 = .ok (.lload 5, 2) := by decide +kernel
theorem dX4_after_31 : decode cX4_after 31 = .ok (.lreturn, 1) := by decide +kernel
theorem dX4_divisor_0 : decode cX4_divisor 0 = .ok (.lload_n 0, 1) := by decide +kernel
theorem dX4_divisor_1 : decode cX4_divisor 1 = .ok (.lstore 4, 2) := by decide +kernel
theorem dX4_divisor_3 : decode cX4_divisor 3 = .ok (.lload_n 2, 1) := by decide +kernel
theorem dX4_divisor_4 : decode cX4_divisor 4 = .ok (.lstore 6, 2) := by decide +kernel
theorem dX4_divisor_6 : decode cX4_divisor 6 = .ok (.lload 6, 2) := by decide +kernel
theorem dX4_divisor_8 : decode cX4_divisor 8 = .ok (.lconst 0, 1) := by decide +kernel
theorem dX4_divisor_9 : decode cX4_divisor 9 = .ok (.lcmp, 1) := by decide +kernel
theorem dX4_divisor_10 : decode cX4_divisor 10 = .ok (.ifCond .eq 21, 3) := by decide +kernel
theorem dX4_divisor_13 : decode cX4_divisor 13 = .ok (.lload 4, 2) := by decide +kernel
theorem dX4_divisor_15 : decode cX4_divisor 15 = .ok (.lload 6, 2) := by decide +kernel
theorem dX4_divisor_17 : decode cX4_divisor 17 = .ok (.lrem, 1) := by decide +kernel
theorem dX4_divisor_18 : decode cX4_divisor 18 = .ok (.lstore 8, 2) := by decide +kernel
theorem dX4_divisor_20 : decode cX4_divisor 20 = .ok (.lload 6, 2) := by decide +kernel
theorem dX4_divisor_22 : decode cX4_divisor 22 = .ok (.lstore 4, 2) := by decide +kernel
theorem dX4_divisor_24 : decode cX4_divisor 24 = .ok (.lload 8, 2) := by decide +kernel
theorem dX4_divisor_26 : decode cX4_divisor 26 = .ok (.lstore 6, 2) := by decide +kernel
theorem dX4_divisor_28 : decode cX4_divisor 28 = .ok (.goto (-22), 3) := by decide +kernel
theorem dX4_divisor_31 : decode cX4_divisor 31 = .ok (.lload 4, 2) := by decide +kernel
theorem dX4_divisor_33 : decode cX4_divisor 33 = .ok (.lreturn, 1) := by decide +kernel
theorem dX4_doubled_0 : decode cX4_doubled 0 = .ok (.aload_n 0, 1) := by decide +kernel
theorem dX4_doubled_1 : decode cX4_doubled 1 = .ok (.iload_n 1, 1) := by decide +kernel
theorem dX4_doubled_2 : decode cX4_doubled 2 = .ok (.invokevirtual 58, 3) := by decide +kernel
theorem dX4_doubled_5 : decode cX4_doubled 5 = .ok (.ifCond .eq 25, 3) := by decide +kernel
theorem dX4_doubled_8 : decode cX4_doubled 8 = .ok (.iload_n 2, 1) := by decide +kernel
theorem dX4_doubled_9 : decode cX4_doubled 9 = .ok (.i2l, 1) := by decide +kernel
theorem dX4_doubled_10 : decode cX4_doubled 10 = .ok (.lconst 0, 1) := by decide +kernel
theorem dX4_doubled_11 : decode cX4_doubled 11 = .ok (.ldc2_w 71, 3) := by decide +kernel
theorem dX4_doubled_14 : decode cX4_doubled 14 = .ok (.invokestatic 46, 3) := by decide +kernel
theorem dX4_doubled_17 : decode cX4_doubled 17 = .ok (.ifCond .eq 13, 3) := by decide +kernel
theorem dX4_doubled_20 : decode cX4_doubled 20 = .ok (.iload_n 3, 1) := by decide +kernel
theorem dX4_doubled_21 : decode cX4_doubled 21 = .ok (.i2l, 1) := by decide +kernel
theorem dX4_doubled_22 : decode cX4_doubled 22 = .ok (.lconst 0, 1) := by decide +kernel
theorem dX4_doubled_23 : decode cX4_doubled 23 = .ok (.lconst 1, 1) := by decide +kernel
theorem dX4_doubled_24 : decode cX4_doubled 24 = .ok (.invokestatic 46, 3) := by decide +kernel
theorem dX4_doubled_27 : decode cX4_doubled 27 = .ok (.ifCond .ne 5, 3) := by decide +kernel
theorem dX4_doubled_30 : decode cX4_doubled 30 = .ok (.iconst (-1), 1) := by decide +kernel
theorem dX4_doubled_31 : decode cX4_doubled 31 = .ok (.ireturn, 1) := by decide +kernel
theorem dX4_doubled_32 : decode cX4_doubled 32 = .ok (.aload_n 0, 1) := by decide +kernel
theorem dX4_doubled_33 : decode cX4_doubled 33 = .ok (.getfield 7, 3) := by decide +kernel
theorem dX4_doubled_36 : decode cX4_doubled 36 = .ok (.iload_n 1, 1) := by decide +kernel
theorem dX4_doubled_37 : decode cX4_doubled 37 = .ok (.laload, 1) := by decide +kernel
theorem dX4_doubled_38 : decode cX4_doubled 38 = .ok (.aload_n 0, 1) := by decide +kernel
theorem dX4_doubled_39 : decode cX4_doubled 39 = .ok (.getfield 13, 3) := by decide +kernel
theorem dX4_doubled_42 : decode cX4_doubled 42 = .ok (.iload_n 1, 1) := by decide +kernel
theorem dX4_doubled_43 : decode cX4_doubled 43 = .ok (.laload, 1) := by decide +kernel
theorem dX4_doubled_44 : decode cX4_doubled 44 = .ok (.iload_n 2, 1) := by decide +kernel
theorem dX4_doubled_45 : decode cX4_doubled 45 = .ok (.invokestatic 73, 3) := by decide +kernel
theorem dX4_doubled_48 : decode cX4_doubled 48 = .ok (.lstore 4, 2) := by decide +kernel
theorem dX4_doubled_50 : decode cX4_doubled 50 = .ok (.lload 4, 2) := by decide +kernel
theorem dX4_doubled_52 : decode cX4_doubled 52 = .ok (.aload_n 0, 1) := by decide +kernel
theorem dX4_doubled_53 : decode cX4_doubled 53 = .ok (.getfield 13, 3) := by decide +kernel
theorem dX4_doubled_56 : decode cX4_doubled 56 = .ok (.iload_n 1, 1) := by decide +kernel
theorem dX4_doubled_57 : decode cX4_doubled 57 = .ok (.laload, 1) := by decide +kernel
theorem dX4_doubled_58 : decode cX4_doubled 58 = .ok (.invokestatic 77, 3) := by decide +kernel
theorem dX4_doubled_61 : decode cX4_doubled 61 = .ok (.lstore 6, 2) := by decide +kernel
theorem dX4_doubled_63 : decode cX4_doubled 63 = .ok (.iload_n 3, 1) := by decide +kernel
theorem dX4_doubled_64 : decode cX4_doubled 64 = .ok (.ifCond .ne 11, 3) := by decide +kernel
theorem dX4_doubled_67 : decode cX4_doubled 67 = .ok (.lload 4, 2) := by decide +kernel
theorem dX4_doubled_69 : decode cX4_doubled 69 = .ok (.lload 6, 2) := by decide +kernel
theorem dX4_doubled_71 : decode cX4_doubled 71 = .ok (.ldiv, 1) := by decide +kernel
theorem dX4_doubled_72 : decode cX4_doubled 72 = .ok (.goto 12, 3) := by decide +kernel
theorem dX4_doubled_75 : decode cX4_doubled 75 = .ok (.aload_n 0, 1) := by decide +kernel
theorem dX4_doubled_76 : decode cX4_doubled 76 = .ok (.getfield 13, 3) := by decide +kernel
theorem dX4_doubled_79 : decode cX4_doubled 79 = .ok (.iload_n 1, 1) := by decide +kernel
theorem dX4_doubled_80 : decode cX4_doubled 80 = .ok (.laload, 1) := by decide +kernel
theorem dX4_doubled_81 : decode cX4_doubled 81 = .ok (.lload 6, 2) := by decide +kernel
theorem dX4_doubled_83 : decode cX4_doubled 83 = .ok (.ldiv, 1) := by decide +kernel
theorem dX4_doubled_84 : decode cX4_doubled 84 = .ok (.l2i, 1) := by decide +kernel
theorem dX4_doubled_85 : decode cX4_doubled 85 = .ok (.ireturn, 1) := by decide +kernel
theorem dX4_moebius_0 : decode cX4_moebius 0 = .ok (.iconst 1, 1) := by decide +kernel
theorem dX4_moebius_1 : decode cX4_moebius 1 = .ok (.istore_n 1, 1) := by decide +kernel
theorem dX4_moebius_2 : decode cX4_moebius 2 = .ok (.iload_n 0, 1) := by decide +kernel
theorem dX4_moebius_3 : decode cX4_moebius 3 = .ok (.istore_n 2, 1) := by decide +kernel
theorem dX4_moebius_4 : decode cX4_moebius 4 = .ok (.iconst 2, 1) := by decide +kernel
theorem dX4_moebius_5 : decode cX4_moebius 5 = .ok (.istore_n 3, 1) := by decide +kernel
theorem dX4_moebius_6 : decode cX4_moebius 6 = .ok (.iload_n 3, 1) := by decide +kernel
theorem dX4_moebius_7 : decode cX4_moebius 7 = .ok (.iload_n 2, 1) := by decide +kernel
theorem dX4_moebius_8 : decode cX4_moebius 8 = .ok (.if_icmp .gt 32, 3) := by decide +kernel
theorem dX4_moebius_11 : decode cX4_moebius 11 = .ok (.iload_n 2, 1) := by decide +kernel
theorem dX4_moebius_12 : decode cX4_moebius 12 = .ok (.iload_n 3, 1) := by decide +kernel
theorem dX4_moebius_13 : decode cX4_moebius 13 = .ok (.irem, 1) := by decide +kernel
theorem dX4_moebius_14 : decode cX4_moebius 14 = .ok (.ifCond .ne 20, 3) := by decide +kernel
theorem dX4_moebius_17 : decode cX4_moebius 17 = .ok (.iload_n 2, 1) := by decide +kernel
theorem dX4_moebius_18 : decode cX4_moebius 18 = .ok (.iload_n 3, 1) := by decide +kernel
theorem dX4_moebius_19 : decode cX4_moebius 19 = .ok (.idiv, 1) := by decide +kernel
theorem dX4_moebius_20 : decode cX4_moebius 20 = .ok (.istore_n 2, 1) := by decide +kernel
theorem dX4_moebius_21 : decode cX4_moebius 21 = .ok (.iload_n 2, 1) := by decide +kernel
theorem dX4_moebius_22 : decode cX4_moebius 22 = .ok (.iload_n 3, 1) := by decide +kernel
theorem dX4_moebius_23 : decode cX4_moebius 23 = .ok (.irem, 1) := by decide +kernel
theorem dX4_moebius_24 : decode cX4_moebius 24 = .ok (.ifCond .ne 7, 3) := by decide +kernel
theorem dX4_moebius_27 : decode cX4_moebius 27 = .ok (.iconst 0, 1) := by decide +kernel
theorem dX4_moebius_28 : decode cX4_moebius 28 = .ok (.goto 5, 3) := by decide +kernel
theorem dX4_moebius_31 : decode cX4_moebius 31 = .ok (.iload_n 1, 1) := by decide +kernel
theorem dX4_moebius_32 : decode cX4_moebius 32 = .ok (.ineg, 1) := by decide +kernel
theorem dX4_moebius_33 : decode cX4_moebius 33 = .ok (.istore_n 1, 1) := by decide +kernel
theorem dX4_moebius_34 : decode cX4_moebius 34 = .ok (.iinc 3 1, 3) := by decide +kernel
theorem dX4_moebius_37 : decode cX4_moebius 37 = .ok (.goto (-31), 3) := by decide +kernel
theorem dX4_moebius_40 : decode cX4_moebius 40 = .ok (.iload_n 1, 1) := by decide +kernel
theorem dX4_moebius_41 : decode cX4_moebius 41 = .ok (.ireturn, 1) := by decide +kernel
theorem dX4_all_0 : decode cX4_all 0 = .ok (.iload_n 1, 1) := by decide +kernel
theorem dX4_all_1 : decode cX4_all 1 = .ok (.i2l, 1) := by decide +kernel
theorem dX4_all_2 : decode cX4_all 2 = .ok (.lconst 1, 1) := by decide +kernel
theorem dX4_all_3 : decode cX4_all 3 = .ok (.ldc2_w 81, 3) := by decide +kernel
theorem dX4_all_6 : decode cX4_all 6 = .ok (.invokestatic 46, 3) := by decide +kernel
theorem dX4_all_9 : decode cX4_all 9 = .ok (.ifCond .ne 5, 3) := by decide +kernel
theorem dX4_all_12 : decode cX4_all 12 = .ok (.iconst (-1), 1) := by decide +kernel
theorem dX4_all_13 : decode cX4_all 13 = .ok (.ireturn, 1) := by decide +kernel
theorem dX4_all_14 : decode cX4_all 14 = .ok (.iconst 0, 1) := by decide +kernel
theorem dX4_all_15 : decode cX4_all 15 = .ok (.istore_n 2, 1) := by decide +kernel
theorem dX4_all_16 : decode cX4_all 16 = .ok (.iconst 1, 1) := by decide +kernel
theorem dX4_all_17 : decode cX4_all 17 = .ok (.istore_n 3, 1) := by decide +kernel
theorem dX4_all_18 : decode cX4_all 18 = .ok (.iload_n 3, 1) := by decide +kernel
theorem dX4_all_19 : decode cX4_all 19 = .ok (.iload_n 1, 1) := by decide +kernel
theorem dX4_all_20 : decode cX4_all 20 = .ok (.if_icmp .gt 34, 3) := by decide +kernel
theorem dX4_all_23 : decode cX4_all 23 = .ok (.iload_n 2, 1) := by decide +kernel
theorem dX4_all_24 : decode cX4_all 24 = .ok (.iload_n 1, 1) := by decide +kernel
theorem dX4_all_25 : decode cX4_all 25 = .ok (.iload_n 3, 1) := by decide +kernel
theorem dX4_all_26 : decode cX4_all 26 = .ok (.irem, 1) := by decide +kernel
theorem dX4_all_27 : decode cX4_all 27 = .ok (.ifCond .ne 18, 3) := by decide +kernel
theorem dX4_all_30 : decode cX4_all 30 = .ok (.iload_n 1, 1) := by decide +kernel
theorem dX4_all_31 : decode cX4_all 31 = .ok (.iload_n 3, 1) := by decide +kernel
theorem dX4_all_32 : decode cX4_all 32 = .ok (.idiv, 1) := by decide +kernel
theorem dX4_all_33 : decode cX4_all 33 = .ok (.invokestatic 83, 3) := by decide +kernel
theorem dX4_all_36 : decode cX4_all 36 = .ok (.iconst 1, 1) := by decide +kernel
theorem dX4_all_37 : decode cX4_all 37 = .ok (.iload_n 3, 1) := by decide +kernel
theorem dX4_all_38 : decode cX4_all 38 = .ok (.ishl, 1) := by decide +kernel
theorem dX4_all_39 : decode cX4_all 39 = .ok (.iconst 1, 1) := by decide +kernel
theorem dX4_all_40 : decode cX4_all 40 = .ok (.isub, 1) := by decide +kernel
theorem dX4_all_41 : decode cX4_all 41 = .ok (.imul, 1) := by decide +kernel
theorem dX4_all_42 : decode cX4_all 42 = .ok (.goto 4, 3) := by decide +kernel
theorem dX4_all_45 : decode cX4_all 45 = .ok (.iconst 0, 1) := by decide +kernel
theorem dX4_all_46 : decode cX4_all 46 = .ok (.iadd, 1) := by decide +kernel
theorem dX4_all_47 : decode cX4_all 47 = .ok (.istore_n 2, 1) := by decide +kernel
theorem dX4_all_48 : decode cX4_all 48 = .ok (.iinc 3 1, 3) := by decide +kernel
theorem dX4_all_51 : decode cX4_all 51 = .ok (.goto (-33), 3) := by decide +kernel
theorem dX4_all_54 : decode cX4_all 54 = .ok (.iload_n 2, 1) := by decide +kernel
theorem dX4_all_55 : decode cX4_all 55 = .ok (.ireturn, 1) := by decide +kernel
theorem dX4_side_0 : decode cX4_side 0 = .ok (.ldc2_w 56, 3) := by decide +kernel
theorem dX4_side_3 : decode cX4_side 3 = .ok (.lload_n 0, 1) := by decide +kernel
theorem dX4_side_4 : decode cX4_side 4 = .ok (.lmul, 1) := by decide +kernel
theorem dX4_side_5 : decode cX4_side 5 = .ok (.lload 6, 2) := by decide +kernel
theorem dX4_side_7 : decode cX4_side 7 = .ok (.lmul, 1) := by decide +kernel
theorem dX4_side_8 : decode cX4_side 8 = .ok (.lstore 8, 2) := by decide +kernel
theorem dX4_side_10 : decode cX4_side 10 = .ok (.lload 4, 2) := by decide +kernel
theorem dX4_side_12 : decode cX4_side 12 = .ok (.lload_n 2, 1) := by decide +kernel
theorem dX4_side_13 : decode cX4_side 13 = .ok (.lmul, 1) := by decide +kernel
theorem dX4_side_14 : decode cX4_side 14 = .ok (.lstore 10, 2) := by decide +kernel
theorem dX4_side_16 : decode cX4_side 16 = .ok (.lload 4, 2) := by decide +kernel
theorem dX4_side_18 : decode cX4_side 18 = .ok (.lload 6, 2) := by decide +kernel
theorem dX4_side_20 : decode cX4_side 20 = .ok (.ladd, 1) := by decide +kernel
theorem dX4_side_21 : decode cX4_side 21 = .ok (.lload_n 2, 1) := by decide +kernel
theorem dX4_side_22 : decode cX4_side 22 = .ok (.lmul, 1) := by decide +kernel
theorem dX4_side_23 : decode cX4_side 23 = .ok (.lstore 12, 2) := by decide +kernel
theorem dX4_side_25 : decode cX4_side 25 = .ok (.lload 8, 2) := by decide +kernel
theorem dX4_side_27 : decode cX4_side 27 = .ok (.lload 10, 2) := by decide +kernel
theorem dX4_side_29 : decode cX4_side 29 = .ok (.lcmp, 1) := by decide +kernel
theorem dX4_side_30 : decode cX4_side 30 = .ok (.ifCond .eq 11, 3) := by decide +kernel
theorem dX4_side_33 : decode cX4_side 33 = .ok (.lload 8, 2) := by decide +kernel
theorem dX4_side_35 : decode cX4_side 35 = .ok (.lload 12, 2) := by decide +kernel
theorem dX4_side_37 : decode cX4_side 37 = .ok (.lcmp, 1) := by decide +kernel
theorem dX4_side_38 : decode cX4_side 38 = .ok (.ifCond .ne 7, 3) := by decide +kernel
theorem dX4_side_41 : decode cX4_side 41 = .ok (.iconst 2, 1) := by decide +kernel
theorem dX4_side_42 : decode cX4_side 42 = .ok (.goto 24, 3) := by decide +kernel
theorem dX4_side_45 : decode cX4_side 45 = .ok (.lload 8, 2) := by decide +kernel
theorem dX4_side_47 : decode cX4_side 47 = .ok (.lload 10, 2) := by decide +kernel
theorem dX4_side_49 : decode cX4_side 49 = .ok (.lcmp, 1) := by decide +kernel
theorem dX4_side_50 : decode cX4_side 50 = .ok (.ifCond .le 15, 3) := by decide +kernel
theorem dX4_side_53 : decode cX4_side 53 = .ok (.lload 8, 2) := by decide +kernel
theorem dX4_side_55 : decode cX4_side 55 = .ok (.lload 12, 2) := by decide +kernel
theorem dX4_side_57 : decode cX4_side 57 = .ok (.lcmp, 1) := by decide +kernel
theorem dX4_side_58 : decode cX4_side 58 = .ok (.ifCond .ge 7, 3) := by decide +kernel
theorem dX4_side_61 : decode cX4_side 61 = .ok (.iconst 1, 1) := by decide +kernel
theorem dX4_side_62 : decode cX4_side 62 = .ok (.goto 4, 3) := by decide +kernel
theorem dX4_side_65 : decode cX4_side 65 = .ok (.iconst 0, 1) := by decide +kernel
theorem dX4_side_66 : decode cX4_side 66 = .ok (.ireturn, 1) := by decide +kernel
theorem dX4_letterOf_0 : decode cX4_letterOf 0 = .ok (.aload_n 0, 1) := by decide +kernel
theorem dX4_letterOf_1 : decode cX4_letterOf 1 = .ok (.getfield 7, 3) := by decide +kernel
theorem dX4_letterOf_4 : decode cX4_letterOf 4 = .ok (.iload_n 1, 1) := by decide +kernel
theorem dX4_letterOf_5 : decode cX4_letterOf 5 = .ok (.laload, 1) := by decide +kernel
theorem dX4_letterOf_6 : decode cX4_letterOf 6 = .ok (.aload_n 0, 1) := by decide +kernel
theorem dX4_letterOf_7 : decode cX4_letterOf 7 = .ok (.getfield 13, 3) := by decide +kernel
theorem dX4_letterOf_10 : decode cX4_letterOf 10 = .ok (.iload_n 1, 1) := by decide +kernel
theorem dX4_letterOf_11 : decode cX4_letterOf 11 = .ok (.laload, 1) := by decide +kernel
theorem dX4_letterOf_12 : decode cX4_letterOf 12 = .ok (.iload_n 3, 1) := by decide +kernel
theorem dX4_letterOf_13 : decode cX4_letterOf 13 = .ok (.invokestatic 73, 3) := by decide +kernel
theorem dX4_letterOf_16 : decode cX4_letterOf 16 = .ok (.aload_n 0, 1) := by decide +kernel
theorem dX4_letterOf_17 : decode cX4_letterOf 17 = .ok (.getfield 13, 3) := by decide +kernel
theorem dX4_letterOf_20 : decode cX4_letterOf 20 = .ok (.iload_n 1, 1) := by decide +kernel
theorem dX4_letterOf_21 : decode cX4_letterOf 21 = .ok (.laload, 1) := by decide +kernel
theorem dX4_letterOf_22 : decode cX4_letterOf 22 = .ok (.aload_n 0, 1) := by decide +kernel
theorem dX4_letterOf_23 : decode cX4_letterOf 23 = .ok (.getfield 7, 3) := by decide +kernel
theorem dX4_letterOf_26 : decode cX4_letterOf 26 = .ok (.iload_n 2, 1) := by decide +kernel
theorem dX4_letterOf_27 : decode cX4_letterOf 27 = .ok (.laload, 1) := by decide +kernel
theorem dX4_letterOf_28 : decode cX4_letterOf 28 = .ok (.aload_n 0, 1) := by decide +kernel
theorem dX4_letterOf_29 : decode cX4_letterOf 29 = .ok (.getfield 13, 3) := by decide +kernel
theorem dX4_letterOf_32 : decode cX4_letterOf 32 = .ok (.iload_n 2, 1) := by decide +kernel
theorem dX4_letterOf_33 : decode cX4_letterOf 33 = .ok (.laload, 1) := by decide +kernel
theorem dX4_letterOf_34 : decode cX4_letterOf 34 = .ok (.invokestatic 87, 3) := by decide +kernel
theorem dX4_letterOf_37 : decode cX4_letterOf 37 = .ok (.ireturn, 1) := by decide +kernel
theorem dX4_letter_0 : decode cX4_letter 0 = .ok (.aload_n 0, 1) := by decide +kernel
theorem dX4_letter_1 : decode cX4_letter 1 = .ok (.iload_n 1, 1) := by decide +kernel
theorem dX4_letter_2 : decode cX4_letter 2 = .ok (.invokevirtual 58, 3) := by decide +kernel
theorem dX4_letter_5 : decode cX4_letter 5 = .ok (.ifCond .eq 33, 3) := by decide +kernel
theorem dX4_letter_8 : decode cX4_letter 8 = .ok (.aload_n 0, 1) := by decide +kernel
theorem dX4_letter_9 : decode cX4_letter 9 = .ok (.iload_n 2, 1) := by decide +kernel
theorem dX4_letter_10 : decode cX4_letter 10 = .ok (.invokevirtual 58, 3) := by decide +kernel
theorem dX4_letter_13 : decode cX4_letter 13 = .ok (.ifCond .eq 25, 3) := by decide +kernel
theorem dX4_letter_16 : decode cX4_letter 16 = .ok (.iload_n 3, 1) := by decide +kernel
theorem dX4_letter_17 : decode cX4_letter 17 = .ok (.i2l, 1) := by decide +kernel
theorem dX4_letter_18 : decode cX4_letter 18 = .ok (.lconst 0, 1) := by decide +kernel
theorem dX4_letter_19 : decode cX4_letter 19 = .ok (.ldc2_w 71, 3) := by decide +kernel
theorem dX4_letter_22 : decode cX4_letter 22 = .ok (.invokestatic 46, 3) := by decide +kernel
theorem dX4_letter_25 : decode cX4_letter 25 = .ok (.ifCond .eq 13, 3) := by decide +kernel
theorem dX4_letter_28 : decode cX4_letter 28 = .ok (.aload_n 0, 1) := by decide +kernel
theorem dX4_letter_29 : decode cX4_letter 29 = .ok (.iload_n 1, 1) := by decide +kernel
theorem dX4_letter_30 : decode cX4_letter 30 = .ok (.iload_n 2, 1) := by decide +kernel
theorem dX4_letter_31 : decode cX4_letter 31 = .ok (.iload_n 3, 1) := by decide +kernel
theorem dX4_letter_32 : decode cX4_letter 32 = .ok (.invokevirtual 91, 3) := by decide +kernel
theorem dX4_letter_35 : decode cX4_letter 35 = .ok (.goto 4, 3) := by decide +kernel
theorem dX4_letter_38 : decode cX4_letter 38 = .ok (.iconst (-1), 1) := by decide +kernel
theorem dX4_letter_39 : decode cX4_letter 39 = .ok (.ireturn, 1) := by decide +kernel
theorem dX4_isBack_0 : decode cX4_isBack 0 = .ok (.aload_n 0, 1) := by decide +kernel
theorem dX4_isBack_1 : decode cX4_isBack 1 = .ok (.getfield 13, 3) := by decide +kernel
theorem dX4_isBack_4 : decode cX4_isBack 4 = .ok (.iload_n 1, 1) := by decide +kernel
theorem dX4_isBack_5 : decode cX4_isBack 5 = .ok (.laload, 1) := by decide +kernel
theorem dX4_isBack_6 : decode cX4_isBack 6 = .ok (.ldc2_w 56, 3) := by decide +kernel
theorem dX4_isBack_9 : decode cX4_isBack 9 = .ok (.lrem, 1) := by decide +kernel
theorem dX4_isBack_10 : decode cX4_isBack 10 = .ok (.lconst 1, 1) := by decide +kernel
theorem dX4_isBack_11 : decode cX4_isBack 11 = .ok (.lcmp, 1) := by decide +kernel
theorem dX4_isBack_12 : decode cX4_isBack 12 = .ok (.ifCond .ne 7, 3) := by decide +kernel
theorem dX4_isBack_15 : decode cX4_isBack 15 = .ok (.iconst 1, 1) := by decide +kernel
theorem dX4_isBack_16 : decode cX4_isBack 16 = .ok (.goto 4, 3) := by decide +kernel
theorem dX4_isBack_19 : decode cX4_isBack 19 = .ok (.iconst 0, 1) := by decide +kernel
theorem dX4_isBack_20 : decode cX4_isBack 20 = .ok (.ireturn, 1) := by decide +kernel
theorem dX4_address_0 : decode cX4_address 0 = .ok (.aload_n 0, 1) := by decide +kernel
theorem dX4_address_1 : decode cX4_address 1 = .ok (.iload_n 1, 1) := by decide +kernel
theorem dX4_address_2 : decode cX4_address 2 = .ok (.invokevirtual 58, 3) := by decide +kernel
theorem dX4_address_5 : decode cX4_address 5 = .ok (.ifCond .eq 7, 3) := by decide +kernel
theorem dX4_address_8 : decode cX4_address 8 = .ok (.iload_n 2, 1) := by decide +kernel
theorem dX4_address_9 : decode cX4_address 9 = .ok (.ifCond .ge 5, 3) := by decide +kernel
theorem dX4_address_12 : decode cX4_address 12 = .ok (.iconst (-1), 1) := by decide +kernel
theorem dX4_address_13 : decode cX4_address 13 = .ok (.ireturn, 1) := by decide +kernel
theorem dX4_address_14 : decode cX4_address 14 = .ok (.aload_n 0, 1) := by decide +kernel
theorem dX4_address_15 : decode cX4_address 15 = .ok (.iload_n 1, 1) := by decide +kernel
theorem dX4_address_16 : decode cX4_address 16 = .ok (.invokevirtual 95, 3) := by decide +kernel
theorem dX4_address_19 : decode cX4_address 19 = .ok (.ifCond .ne 6, 3) := by decide +kernel
theorem dX4_address_22 : decode cX4_address 22 = .ok (.bipush (-2), 2) := by decide +kernel
theorem dX4_address_24 : decode cX4_address 24 = .ok (.ireturn, 1) := by decide +kernel
theorem dX4_address_25 : decode cX4_address 25 = .ok (.aload_n 0, 1) := by decide +kernel
theorem dX4_address_26 : decode cX4_address 26 = .ok (.getfield 13, 3) := by decide +kernel
theorem dX4_address_29 : decode cX4_address 29 = .ok (.iload_n 1, 1) := by decide +kernel
theorem dX4_address_30 : decode cX4_address 30 = .ok (.laload, 1) := by decide +kernel
theorem dX4_address_31 : decode cX4_address 31 = .ok (.invokestatic 68, 3) := by decide +kernel
theorem dX4_address_34 : decode cX4_address 34 = .ok (.istore_n 3, 1) := by decide +kernel
theorem dX4_address_35 : decode cX4_address 35 = .ok (.iconst 1, 1) := by decide +kernel
theorem dX4_address_36 : decode cX4_address 36 = .ok (.istore 4, 2) := by decide +kernel
theorem dX4_address_38 : decode cX4_address 38 = .ok (.iconst 0, 1) := by decide +kernel
theorem dX4_address_39 : decode cX4_address 39 = .ok (.istore 5, 2) := by decide +kernel
theorem dX4_address_41 : decode cX4_address 41 = .ok (.iload 5, 2) := by decide +kernel
theorem dX4_address_43 : decode cX4_address 43 = .ok (.iload_n 2, 1) := by decide +kernel
theorem dX4_address_44 : decode cX4_address 44 = .ok (.if_icmp .ge 60, 3) := by decide +kernel
theorem dX4_address_47 : decode cX4_address 47 = .ok (.iload 4, 2) := by decide +kernel
theorem dX4_address_49 : decode cX4_address 49 = .ok (.iload_n 3, 1) := by decide +kernel
theorem dX4_address_50 : decode cX4_address 50 = .ok (.if_icmp .ne 6, 3) := by decide +kernel
theorem dX4_address_53 : decode cX4_address 53 = .ok (.bipush (-4), 2) := by decide +kernel
theorem dX4_address_55 : decode cX4_address 55 = .ok (.ireturn, 1) := by decide +kernel
theorem dX4_address_56 : decode cX4_address 56 = .ok (.iload 4, 2) := by decide +kernel
theorem dX4_address_58 : decode cX4_address 58 = .ok (.iconst 1, 1) := by decide +kernel
theorem dX4_address_59 : decode cX4_address 59 = .ok (.iadd, 1) := by decide +kernel
theorem dX4_address_60 : decode cX4_address 60 = .ok (.istore 6, 2) := by decide +kernel
theorem dX4_address_62 : decode cX4_address 62 = .ok (.aload_n 0, 1) := by decide +kernel
theorem dX4_address_63 : decode cX4_address 63 = .ok (.iload_n 1, 1) := by decide +kernel
theorem dX4_address_64 : decode cX4_address 64 = .ok (.iload_n 1, 1) := by decide +kernel
theorem dX4_address_65 : decode cX4_address 65 = .ok (.iload 6, 2) := by decide +kernel
theorem dX4_address_67 : decode cX4_address 67 = .ok (.iconst 1, 1) := by decide +kernel
theorem dX4_address_68 : decode cX4_address 68 = .ok (.isub, 1) := by decide +kernel
theorem dX4_address_69 : decode cX4_address 69 = .ok (.invokevirtual 91, 3) := by decide +kernel
theorem dX4_address_72 : decode cX4_address 72 = .ok (.aload_n 0, 1) := by decide +kernel
theorem dX4_address_73 : decode cX4_address 73 = .ok (.iload_n 1, 1) := by decide +kernel
theorem dX4_address_74 : decode cX4_address 74 = .ok (.iload_n 1, 1) := by decide +kernel
theorem dX4_address_75 : decode cX4_address 75 = .ok (.iload 6, 2) := by decide +kernel
theorem dX4_address_77 : decode cX4_address 77 = .ok (.iconst 1, 1) := by decide +kernel
theorem dX4_address_78 : decode cX4_address 78 = .ok (.isub, 1) := by decide +kernel
theorem dX4_address_79 : decode cX4_address 79 = .ok (.iload 4, 2) := by decide +kernel
theorem dX4_address_81 : decode cX4_address 81 = .ok (.isub, 1) := by decide +kernel
theorem dX4_address_82 : decode cX4_address 82 = .ok (.invokevirtual 91, 3) := by decide +kernel
theorem dX4_address_85 : decode cX4_address 85 = .ok (.if_icmp .ne 9, 3) := by decide +kernel
theorem dX4_address_88 : decode cX4_address 88 = .ok (.iinc 6 1, 3) := by decide +kernel
theorem dX4_address_91 : decode cX4_address 91 = .ok (.goto (-29), 3) := by decide +kernel
theorem dX4_address_94 : decode cX4_address 94 = .ok (.iload 6, 2) := by decide +kernel
theorem dX4_address_96 : decode cX4_address 96 = .ok (.istore 4, 2) := by decide +kernel
theorem dX4_address_98 : decode cX4_address 98 = .ok (.iinc 5 1, 3) := by decide +kernel
theorem dX4_address_101 : decode cX4_address 101 = .ok (.goto (-60), 3) := by decide +kernel
theorem dX4_address_104 : decode cX4_address 104 = .ok (.iload 4, 2) := by decide +kernel
theorem dX4_address_106 : decode cX4_address 106 = .ok (.ireturn, 1) := by decide +kernel
theorem dX4_isBelow_0 : decode cX4_isBelow 0 = .ok (.lload_n 0, 1) := by decide +kernel
theorem dX4_isBelow_1 : decode cX4_isBelow 1 = .ok (.lload 6, 2) := by decide +kernel
theorem dX4_isBelow_3 : decode cX4_isBelow 3 = .ok (.lmul, 1) := by decide +kernel
theorem dX4_isBelow_4 : decode cX4_isBelow 4 = .ok (.lload 4, 2) := by decide +kernel
theorem dX4_isBelow_6 : decode cX4_isBelow 6 = .ok (.lload_n 2, 1) := by decide +kernel
theorem dX4_isBelow_7 : decode cX4_isBelow 7 = .ok (.lmul, 1) := by decide +kernel
theorem dX4_isBelow_8 : decode cX4_isBelow 8 = .ok (.lcmp, 1) := by decide +kernel
theorem dX4_isBelow_9 : decode cX4_isBelow 9 = .ok (.ifCond .ge 7, 3) := by decide +kernel
theorem dX4_isBelow_12 : decode cX4_isBelow 12 = .ok (.iconst 1, 1) := by decide +kernel
theorem dX4_isBelow_13 : decode cX4_isBelow 13 = .ok (.goto 4, 3) := by decide +kernel
theorem dX4_isBelow_16 : decode cX4_isBelow 16 = .ok (.iconst 0, 1) := by decide +kernel
theorem dX4_isBelow_17 : decode cX4_isBelow 17 = .ok (.ireturn, 1) := by decide +kernel
theorem dX4_isLess_0 : decode cX4_isLess 0 = .ok (.aload_n 0, 1) := by decide +kernel
theorem dX4_isLess_1 : decode cX4_isLess 1 = .ok (.getfield 7, 3) := by decide +kernel
theorem dX4_isLess_4 : decode cX4_isLess 4 = .ok (.iload_n 1, 1) := by decide +kernel
theorem dX4_isLess_5 : decode cX4_isLess 5 = .ok (.laload, 1) := by decide +kernel
theorem dX4_isLess_6 : decode cX4_isLess 6 = .ok (.aload_n 0, 1) := by decide +kernel
theorem dX4_isLess_7 : decode cX4_isLess 7 = .ok (.getfield 13, 3) := by decide +kernel
theorem dX4_isLess_10 : decode cX4_isLess 10 = .ok (.iload_n 1, 1) := by decide +kernel
theorem dX4_isLess_11 : decode cX4_isLess 11 = .ok (.laload, 1) := by decide +kernel
theorem dX4_isLess_12 : decode cX4_isLess 12 = .ok (.aload_n 0, 1) := by decide +kernel
theorem dX4_isLess_13 : decode cX4_isLess 13 = .ok (.getfield 7, 3) := by decide +kernel
theorem dX4_isLess_16 : decode cX4_isLess 16 = .ok (.iload_n 2, 1) := by decide +kernel
theorem dX4_isLess_17 : decode cX4_isLess 17 = .ok (.laload, 1) := by decide +kernel
theorem dX4_isLess_18 : decode cX4_isLess 18 = .ok (.aload_n 0, 1) := by decide +kernel
theorem dX4_isLess_19 : decode cX4_isLess 19 = .ok (.getfield 13, 3) := by decide +kernel
theorem dX4_isLess_22 : decode cX4_isLess 22 = .ok (.iload_n 2, 1) := by decide +kernel
theorem dX4_isLess_23 : decode cX4_isLess 23 = .ok (.laload, 1) := by decide +kernel
theorem dX4_isLess_24 : decode cX4_isLess 24 = .ok (.invokestatic 98, 3) := by decide +kernel
theorem dX4_isLess_27 : decode cX4_isLess 27 = .ok (.ireturn, 1) := by decide +kernel
theorem dX4_isSame_0 : decode cX4_isSame 0 = .ok (.aload_n 0, 1) := by decide +kernel
theorem dX4_isSame_1 : decode cX4_isSame 1 = .ok (.getfield 7, 3) := by decide +kernel
theorem dX4_isSame_4 : decode cX4_isSame 4 = .ok (.iload_n 1, 1) := by decide +kernel
theorem dX4_isSame_5 : decode cX4_isSame 5 = .ok (.laload, 1) := by decide +kernel
theorem dX4_isSame_6 : decode cX4_isSame 6 = .ok (.aload_n 0, 1) := by decide +kernel
theorem dX4_isSame_7 : decode cX4_isSame 7 = .ok (.getfield 7, 3) := by decide +kernel
theorem dX4_isSame_10 : decode cX4_isSame 10 = .ok (.iload_n 2, 1) := by decide +kernel
theorem dX4_isSame_11 : decode cX4_isSame 11 = .ok (.laload, 1) := by decide +kernel
theorem dX4_isSame_12 : decode cX4_isSame 12 = .ok (.lcmp, 1) := by decide +kernel
theorem dX4_isSame_13 : decode cX4_isSame 13 = .ok (.ifCond .ne 23, 3) := by decide +kernel
theorem dX4_isSame_16 : decode cX4_isSame 16 = .ok (.aload_n 0, 1) := by decide +kernel
theorem dX4_isSame_17 : decode cX4_isSame 17 = .ok (.getfield 13, 3) := by decide +kernel
theorem dX4_isSame_20 : decode cX4_isSame 20 = .ok (.iload_n 1, 1) := by decide +kernel
theorem dX4_isSame_21 : decode cX4_isSame 21 = .ok (.laload, 1) := by decide +kernel
theorem dX4_isSame_22 : decode cX4_isSame 22 = .ok (.aload_n 0, 1) := by decide +kernel
theorem dX4_isSame_23 : decode cX4_isSame 23 = .ok (.getfield 13, 3) := by decide +kernel
theorem dX4_isSame_26 : decode cX4_isSame 26 = .ok (.iload_n 2, 1) := by decide +kernel
theorem dX4_isSame_27 : decode cX4_isSame 27 = .ok (.laload, 1) := by decide +kernel
theorem dX4_isSame_28 : decode cX4_isSame 28 = .ok (.lcmp, 1) := by decide +kernel
theorem dX4_isSame_29 : decode cX4_isSame 29 = .ok (.ifCond .ne 7, 3) := by decide +kernel
theorem dX4_isSame_32 : decode cX4_isSame 32 = .ok (.iconst 1, 1) := by decide +kernel
theorem dX4_isSame_33 : decode cX4_isSame 33 = .ok (.goto 4, 3) := by decide +kernel
theorem dX4_isSame_36 : decode cX4_isSame 36 = .ok (.iconst 0, 1) := by decide +kernel
theorem dX4_isSame_37 : decode cX4_isSame 37 = .ok (.ireturn, 1) := by decide +kernel
theorem dX4_liesBetween_0 : decode cX4_liesBetween 0 = .ok (.aload_n 0, 1) := by decide +kernel
theorem dX4_liesBetween_1 : decode cX4_liesBetween 1 = .ok (.iload_n 2, 1) := by decide +kernel
theorem dX4_liesBetween_2 : decode cX4_liesBetween 2 = .ok (.iload_n 3, 1) := by decide +kernel
theorem dX4_liesBetween_3 : decode cX4_liesBetween 3 = .ok (.invokevirtual 102, 3) := by decide +kernel
theorem dX4_liesBetween_6 : decode cX4_liesBetween 6 = .ok (.ifCond .eq 29, 3) := by decide +kernel
theorem dX4_liesBetween_9 : decode cX4_liesBetween 9 = .ok (.aload_n 0, 1) := by decide +kernel
theorem dX4_liesBetween_10 : decode cX4_liesBetween 10 = .ok (.iload_n 2, 1) := by decide +kernel
theorem dX4_liesBetween_11 : decode cX4_liesBetween 11 = .ok (.iload_n 1, 1) := by decide +kernel
theorem dX4_liesBetween_12 : decode cX4_liesBetween 12 = .ok (.invokevirtual 102, 3) := by decide +kernel
theorem dX4_liesBetween_15 : decode cX4_liesBetween 15 = .ok (.ifCond .eq 16, 3) := by decide +kernel
theorem dX4_liesBetween_18 : decode cX4_liesBetween 18 = .ok (.aload_n 0, 1) := by decide +kernel
theorem dX4_liesBetween_19 : decode cX4_liesBetween 19 = .ok (.iload_n 1, 1) := by decide +kernel
theorem dX4_liesBetween_20 : decode cX4_liesBetween 20 = .ok (.iload_n 3, 1) := by decide +kernel
theorem dX4_liesBetween_21 : decode cX4_liesBetween 21 = .ok (.invokevirtual 102, 3) := by decide +kernel
theorem dX4_liesBetween_24 : decode cX4_liesBetween 24 = .ok (.ifCond .eq 7, 3) := by decide +kernel
theorem dX4_liesBetween_27 : decode cX4_liesBetween 27 = .ok (.iconst 1, 1) := by decide +kernel
theorem dX4_liesBetween_28 : decode cX4_liesBetween 28 = .ok (.goto 30, 3) := by decide +kernel
theorem dX4_liesBetween_31 : decode cX4_liesBetween 31 = .ok (.iconst 0, 1) := by decide +kernel
theorem dX4_liesBetween_32 : decode cX4_liesBetween 32 = .ok (.goto 26, 3) := by decide +kernel
theorem dX4_liesBetween_35 : decode cX4_liesBetween 35 = .ok (.aload_n 0, 1) := by decide +kernel
theorem dX4_liesBetween_36 : decode cX4_liesBetween 36 = .ok (.iload_n 3, 1) := by decide +kernel
theorem dX4_liesBetween_37 : decode cX4_liesBetween 37 = .ok (.iload_n 1, 1) := by decide +kernel
theorem dX4_liesBetween_38 : decode cX4_liesBetween 38 = .ok (.invokevirtual 102, 3) := by decide +kernel
theorem dX4_liesBetween_41 : decode cX4_liesBetween 41 = .ok (.ifCond .eq 16, 3) := by decide +kernel
theorem dX4_liesBetween_44 : decode cX4_liesBetween 44 = .ok (.aload_n 0, 1) := by decide +kernel
theorem dX4_liesBetween_45 : decode cX4_liesBetween 45 = .ok (.iload_n 1, 1) := by decide +kernel
theorem dX4_liesBetween_46 : decode cX4_liesBetween 46 = .ok (.iload_n 2, 1) := by decide +kernel
theorem dX4_liesBetween_47 : decode cX4_liesBetween 47 = .ok (.invokevirtual 102, 3) := by decide +kernel
theorem dX4_liesBetween_50 : decode cX4_liesBetween 50 = .ok (.ifCond .eq 7, 3) := by decide +kernel
theorem dX4_liesBetween_53 : decode cX4_liesBetween 53 = .ok (.iconst 1, 1) := by decide +kernel
theorem dX4_liesBetween_54 : decode cX4_liesBetween 54 = .ok (.goto 4, 3) := by decide +kernel
theorem dX4_liesBetween_57 : decode cX4_liesBetween 57 = .ok (.iconst 0, 1) := by decide +kernel
theorem dX4_liesBetween_58 : decode cX4_liesBetween 58 = .ok (.ireturn, 1) := by decide +kernel
theorem dX4_cross_0 : decode cX4_cross 0 = .ok (.aload_n 0, 1) := by decide +kernel
theorem dX4_cross_1 : decode cX4_cross 1 = .ok (.iload_n 1, 1) := by decide +kernel
theorem dX4_cross_2 : decode cX4_cross 2 = .ok (.invokevirtual 58, 3) := by decide +kernel
theorem dX4_cross_5 : decode cX4_cross 5 = .ok (.ifCond .eq 28, 3) := by decide +kernel
theorem dX4_cross_8 : decode cX4_cross 8 = .ok (.aload_n 0, 1) := by decide +kernel
theorem dX4_cross_9 : decode cX4_cross 9 = .ok (.iload_n 2, 1) := by decide +kernel
theorem dX4_cross_10 : decode cX4_cross 10 = .ok (.invokevirtual 58, 3) := by decide +kernel
theorem dX4_cross_13 : decode cX4_cross 13 = .ok (.ifCond .eq 20, 3) := by decide +kernel
theorem dX4_cross_16 : decode cX4_cross 16 = .ok (.aload_n 0, 1) := by decide +kernel
theorem dX4_cross_17 : decode cX4_cross 17 = .ok (.iload_n 3, 1) := by decide +kernel
theorem dX4_cross_18 : decode cX4_cross 18 = .ok (.invokevirtual 58, 3) := by decide +kernel
theorem dX4_cross_21 : decode cX4_cross 21 = .ok (.ifCond .eq 12, 3) := by decide +kernel
theorem dX4_cross_24 : decode cX4_cross 24 = .ok (.aload_n 0, 1) := by decide +kernel
theorem dX4_cross_25 : decode cX4_cross 25 = .ok (.iload 4, 2) := by decide +kernel
theorem dX4_cross_27 : decode cX4_cross 27 = .ok (.invokevirtual 58, 3) := by decide +kernel
theorem dX4_cross_30 : decode cX4_cross 30 = .ok (.ifCond .ne 5, 3) := by decide +kernel
theorem dX4_cross_33 : decode cX4_cross 33 = .ok (.iconst (-1), 1) := by decide +kernel
theorem dX4_cross_34 : decode cX4_cross 34 = .ok (.ireturn, 1) := by decide +kernel
theorem dX4_cross_35 : decode cX4_cross 35 = .ok (.aload_n 0, 1) := by decide +kernel
theorem dX4_cross_36 : decode cX4_cross 36 = .ok (.iload_n 1, 1) := by decide +kernel
theorem dX4_cross_37 : decode cX4_cross 37 = .ok (.iload_n 3, 1) := by decide +kernel
theorem dX4_cross_38 : decode cX4_cross 38 = .ok (.invokevirtual 106, 3) := by decide +kernel
theorem dX4_cross_41 : decode cX4_cross 41 = .ok (.ifCond .ne 32, 3) := by decide +kernel
theorem dX4_cross_44 : decode cX4_cross 44 = .ok (.aload_n 0, 1) := by decide +kernel
theorem dX4_cross_45 : decode cX4_cross 45 = .ok (.iload_n 1, 1) := by decide +kernel
theorem dX4_cross_46 : decode cX4_cross 46 = .ok (.iload 4, 2) := by decide +kernel
theorem dX4_cross_48 : decode cX4_cross 48 = .ok (.invokevirtual 106, 3) := by decide +kernel
theorem dX4_cross_51 : decode cX4_cross 51 = .ok (.ifCond .ne 22, 3) := by decide +kernel
theorem dX4_cross_54 : decode cX4_cross 54 = .ok (.aload_n 0, 1) := by decide +kernel
theorem dX4_cross_55 : decode cX4_cross 55 = .ok (.iload_n 2, 1) := by decide +kernel
theorem dX4_cross_56 : decode cX4_cross 56 = .ok (.iload_n 3, 1) := by decide +kernel
theorem dX4_cross_57 : decode cX4_cross 57 = .ok (.invokevirtual 106, 3) := by decide +kernel
theorem dX4_cross_60 : decode cX4_cross 60 = .ok (.ifCond .ne 13, 3) := by decide +kernel
theorem dX4_cross_63 : decode cX4_cross 63 = .ok (.aload_n 0, 1) := by decide +kernel
theorem dX4_cross_64 : decode cX4_cross 64 = .ok (.iload_n 2, 1) := by decide +kernel
theorem dX4_cross_65 : decode cX4_cross 65 = .ok (.iload 4, 2) := by decide +kernel
theorem dX4_cross_67 : decode cX4_cross 67 = .ok (.invokevirtual 106, 3) := by decide +kernel
theorem dX4_cross_70 : decode cX4_cross 70 = .ok (.ifCond .eq 5, 3) := by decide +kernel
theorem dX4_cross_73 : decode cX4_cross 73 = .ok (.iconst 0, 1) := by decide +kernel
theorem dX4_cross_74 : decode cX4_cross 74 = .ok (.ireturn, 1) := by decide +kernel
theorem dX4_cross_75 : decode cX4_cross 75 = .ok (.aload_n 0, 1) := by decide +kernel
theorem dX4_cross_76 : decode cX4_cross 76 = .ok (.iload_n 3, 1) := by decide +kernel
theorem dX4_cross_77 : decode cX4_cross 77 = .ok (.iload_n 1, 1) := by decide +kernel
theorem dX4_cross_78 : decode cX4_cross 78 = .ok (.iload_n 2, 1) := by decide +kernel
theorem dX4_cross_79 : decode cX4_cross 79 = .ok (.invokevirtual 109, 3) := by decide +kernel
theorem dX4_cross_82 : decode cX4_cross 82 = .ok (.aload_n 0, 1) := by decide +kernel
theorem dX4_cross_83 : decode cX4_cross 83 = .ok (.iload 4, 2) := by decide +kernel
theorem dX4_cross_85 : decode cX4_cross 85 = .ok (.iload_n 1, 1) := by decide +kernel
theorem dX4_cross_86 : decode cX4_cross 86 = .ok (.iload_n 2, 1) := by decide +kernel
theorem dX4_cross_87 : decode cX4_cross 87 = .ok (.invokevirtual 109, 3) := by decide +kernel
theorem dX4_cross_90 : decode cX4_cross 90 = .ok (.if_icmp .eq 7, 3) := by decide +kernel
theorem dX4_cross_93 : decode cX4_cross 93 = .ok (.iconst 1, 1) := by decide +kernel
theorem dX4_cross_94 : decode cX4_cross 94 = .ok (.goto 4, 3) := by decide +kernel
theorem dX4_cross_97 : decode cX4_cross 97 = .ok (.iconst 0, 1) := by decide +kernel
theorem dX4_cross_98 : decode cX4_cross 98 = .ok (.ireturn, 1) := by decide +kernel
theorem dX4_meet_0 : decode cX4_meet 0 = .ok (.aload_n 0, 1) := by decide +kernel
theorem dX4_meet_1 : decode cX4_meet 1 = .ok (.iload_n 1, 1) := by decide +kernel
theorem dX4_meet_2 : decode cX4_meet 2 = .ok (.invokevirtual 58, 3) := by decide +kernel
theorem dX4_meet_5 : decode cX4_meet 5 = .ok (.ifCond .eq 19, 3) := by decide +kernel
theorem dX4_meet_8 : decode cX4_meet 8 = .ok (.aload_n 0, 1) := by decide +kernel
theorem dX4_meet_9 : decode cX4_meet 9 = .ok (.iload_n 2, 1) := by decide +kernel
theorem dX4_meet_10 : decode cX4_meet 10 = .ok (.invokevirtual 58, 3) := by decide +kernel
theorem dX4_meet_13 : decode cX4_meet 13 = .ok (.ifCond .eq 11, 3) := by decide +kernel
theorem dX4_meet_16 : decode cX4_meet 16 = .ok (.aload_n 0, 1) := by decide +kernel
theorem dX4_meet_17 : decode cX4_meet 17 = .ok (.iload_n 3, 1) := by decide +kernel
theorem dX4_meet_18 : decode cX4_meet 18 = .ok (.invokevirtual 58, 3) := by decide +kernel
theorem dX4_meet_21 : decode cX4_meet 21 = .ok (.ifCond .ne 5, 3) := by decide +kernel
theorem dX4_meet_24 : decode cX4_meet 24 = .ok (.iconst (-1), 1) := by decide +kernel
theorem dX4_meet_25 : decode cX4_meet 25 = .ok (.ireturn, 1) := by decide +kernel
theorem dX4_meet_26 : decode cX4_meet 26 = .ok (.aload_n 0, 1) := by decide +kernel
theorem dX4_meet_27 : decode cX4_meet 27 = .ok (.getfield 13, 3) := by decide +kernel
theorem dX4_meet_30 : decode cX4_meet 30 = .ok (.iload_n 1, 1) := by decide +kernel
theorem dX4_meet_31 : decode cX4_meet 31 = .ok (.laload, 1) := by decide +kernel
theorem dX4_meet_32 : decode cX4_meet 32 = .ok (.invokestatic 68, 3) := by decide +kernel
theorem dX4_meet_35 : decode cX4_meet 35 = .ok (.istore 4, 2) := by decide +kernel
theorem dX4_meet_37 : decode cX4_meet 37 = .ok (.aload_n 0, 1) := by decide +kernel
theorem dX4_meet_38 : decode cX4_meet 38 = .ok (.getfield 13, 3) := by decide +kernel
theorem dX4_meet_41 : decode cX4_meet 41 = .ok (.iload_n 2, 1) := by decide +kernel
theorem dX4_meet_42 : decode cX4_meet 42 = .ok (.laload, 1) := by decide +kernel
theorem dX4_meet_43 : decode cX4_meet 43 = .ok (.invokestatic 68, 3) := by decide +kernel
theorem dX4_meet_46 : decode cX4_meet 46 = .ok (.istore 5, 2) := by decide +kernel
theorem dX4_meet_48 : decode cX4_meet 48 = .ok (.bipush 10, 2) := by decide +kernel
theorem dX4_meet_50 : decode cX4_meet 50 = .ok (.iload 4, 2) := by decide +kernel
theorem dX4_meet_52 : decode cX4_meet 52 = .ok (.iload 4, 2) := by decide +kernel
theorem dX4_meet_54 : decode cX4_meet 54 = .ok (.i2l, 1) := by decide +kernel
theorem dX4_meet_55 : decode cX4_meet 55 = .ok (.iload 5, 2) := by decide +kernel
theorem dX4_meet_57 : decode cX4_meet 57 = .ok (.i2l, 1) := by decide +kernel
theorem dX4_meet_58 : decode cX4_meet 58 = .ok (.invokestatic 77, 3) := by decide +kernel
theorem dX4_meet_61 : decode cX4_meet 61 = .ok (.l2i, 1) := by decide +kernel
theorem dX4_meet_62 : decode cX4_meet 62 = .ok (.idiv, 1) := by decide +kernel
theorem dX4_meet_63 : decode cX4_meet 63 = .ok (.iload 5, 2) := by decide +kernel
theorem dX4_meet_65 : decode cX4_meet 65 = .ok (.imul, 1) := by decide +kernel
theorem dX4_meet_66 : decode cX4_meet 66 = .ok (.iadd, 1) := by decide +kernel
theorem dX4_meet_67 : decode cX4_meet 67 = .ok (.istore 6, 2) := by decide +kernel
theorem dX4_meet_69 : decode cX4_meet 69 = .ok (.aload_n 0, 1) := by decide +kernel
theorem dX4_meet_70 : decode cX4_meet 70 = .ok (.getfield 7, 3) := by decide +kernel
theorem dX4_meet_73 : decode cX4_meet 73 = .ok (.iload_n 1, 1) := by decide +kernel
theorem dX4_meet_74 : decode cX4_meet 74 = .ok (.laload, 1) := by decide +kernel
theorem dX4_meet_75 : decode cX4_meet 75 = .ok (.lstore 7, 2) := by decide +kernel
theorem dX4_meet_77 : decode cX4_meet 77 = .ok (.aload_n 0, 1) := by decide +kernel
theorem dX4_meet_78 : decode cX4_meet 78 = .ok (.getfield 7, 3) := by decide +kernel
theorem dX4_meet_81 : decode cX4_meet 81 = .ok (.iload_n 2, 1) := by decide +kernel
theorem dX4_meet_82 : decode cX4_meet 82 = .ok (.laload, 1) := by decide +kernel
theorem dX4_meet_83 : decode cX4_meet 83 = .ok (.lstore 9, 2) := by decide +kernel
theorem dX4_meet_85 : decode cX4_meet 85 = .ok (.iconst 1, 1) := by decide +kernel
theorem dX4_meet_86 : decode cX4_meet 86 = .ok (.istore 11, 2) := by decide +kernel
theorem dX4_meet_88 : decode cX4_meet 88 = .ok (.iconst 0, 1) := by decide +kernel
theorem dX4_meet_89 : decode cX4_meet 89 = .ok (.istore 12, 2) := by decide +kernel
theorem dX4_meet_91 : decode cX4_meet 91 = .ok (.iload 12, 2) := by decide +kernel
theorem dX4_meet_93 : decode cX4_meet 93 = .ok (.iload 6, 2) := by decide +kernel
theorem dX4_meet_95 : decode cX4_meet 95 = .ok (.sipush 512, 3) := by decide +kernel
theorem dX4_meet_98 : decode cX4_meet 98 = .ok (.iadd, 1) := by decide +kernel
theorem dX4_meet_99 : decode cX4_meet 99 = .ok (.if_icmp .ge 120, 3) := by decide +kernel
theorem dX4_meet_102 : decode cX4_meet 102 = .ok (.iload 11, 2) := by decide +kernel
theorem dX4_meet_104 : decode cX4_meet 104 = .ok (.ifCond .eq 115, 3) := by decide +kernel
theorem dX4_meet_107 : decode cX4_meet 107 = .ok (.lload 7, 2) := by decide +kernel
theorem dX4_meet_109 : decode cX4_meet 109 = .ok (.aload_n 0, 1) := by decide +kernel
theorem dX4_meet_110 : decode cX4_meet 110 = .ok (.getfield 13, 3) := by decide +kernel
theorem dX4_meet_113 : decode cX4_meet 113 = .ok (.iload_n 1, 1) := by decide +kernel
theorem dX4_meet_114 : decode cX4_meet 114 = .ok (.laload, 1) := by decide +kernel
theorem dX4_meet_115 : decode cX4_meet 115 = .ok (.aload_n 0, 1) := by decide +kernel
theorem dX4_meet_116 : decode cX4_meet 116 = .ok (.getfield 7, 3) := by decide +kernel
theorem dX4_meet_119 : decode cX4_meet 119 = .ok (.iload_n 3, 1) := by decide +kernel
theorem dX4_meet_120 : decode cX4_meet 120 = .ok (.laload, 1) := by decide +kernel
theorem dX4_meet_121 : decode cX4_meet 121 = .ok (.aload_n 0, 1) := by decide +kernel
theorem dX4_meet_122 : decode cX4_meet 122 = .ok (.getfield 13, 3) := by decide +kernel
theorem dX4_meet_125 : decode cX4_meet 125 = .ok (.iload_n 3, 1) := by decide +kernel
theorem dX4_meet_126 : decode cX4_meet 126 = .ok (.laload, 1) := by decide +kernel
theorem dX4_meet_127 : decode cX4_meet 127 = .ok (.invokestatic 87, 3) := by decide +kernel
theorem dX4_meet_130 : decode cX4_meet 130 = .ok (.istore 13, 2) := by decide +kernel
theorem dX4_meet_132 : decode cX4_meet 132 = .ok (.lload 9, 2) := by decide +kernel
theorem dX4_meet_134 : decode cX4_meet 134 = .ok (.aload_n 0, 1) := by decide +kernel
theorem dX4_meet_135 : decode cX4_meet 135 = .ok (.getfield 13, 3) := by decide +kernel
theorem dX4_meet_138 : decode cX4_meet 138 = .ok (.iload_n 2, 1) := by decide +kernel
theorem dX4_meet_139 : decode cX4_meet 139 = .ok (.laload, 1) := by decide +kernel
theorem dX4_meet_140 : decode cX4_meet 140 = .ok (.aload_n 0, 1) := by decide +kernel
theorem dX4_meet_141 : decode cX4_meet 141 = .ok (.getfield 7, 3) := by decide +kernel
theorem dX4_meet_144 : decode cX4_meet 144 = .ok (.iload_n 3, 1) := by decide +kernel
theorem dX4_meet_145 : decode cX4_meet 145 = .ok (.laload, 1) := by decide +kernel
theorem dX4_meet_146 : decode cX4_meet 146 = .ok (.aload_n 0, 1) := by decide +kernel
theorem dX4_meet_147 : decode cX4_meet 147 = .ok (.getfield 13, 3) := by decide +kernel
theorem dX4_meet_150 : decode cX4_meet 150 = .ok (.iload_n 3, 1) := by decide +kernel
theorem dX4_meet_151 : decode cX4_meet 151 = .ok (.laload, 1) := by decide +kernel
theorem dX4_meet_152 : decode cX4_meet 152 = .ok (.invokestatic 87, 3) := by decide +kernel
theorem dX4_meet_155 : decode cX4_meet 155 = .ok (.istore 14, 2) := by decide +kernel
theorem dX4_meet_157 : decode cX4_meet 157 = .ok (.iload 13, 2) := by decide +kernel
theorem dX4_meet_159 : decode cX4_meet 159 = .ok (.iload 14, 2) := by decide +kernel
theorem dX4_meet_161 : decode cX4_meet 161 = .ok (.if_icmp .eq 15, 3) := by decide +kernel
theorem dX4_meet_164 : decode cX4_meet 164 = .ok (.iload 13, 2) := by decide +kernel
theorem dX4_meet_166 : decode cX4_meet 166 = .ok (.iconst 2, 1) := by decide +kernel
theorem dX4_meet_167 : decode cX4_meet 167 = .ok (.if_icmp .eq 9, 3) := by decide +kernel
theorem dX4_meet_170 : decode cX4_meet 170 = .ok (.iload 14, 2) := by decide +kernel
theorem dX4_meet_172 : decode cX4_meet 172 = .ok (.iconst 2, 1) := by decide +kernel
theorem dX4_meet_173 : decode cX4_meet 173 = .ok (.if_icmp .ne 7, 3) := by decide +kernel
theorem dX4_meet_176 : decode cX4_meet 176 = .ok (.iconst 1, 1) := by decide +kernel
theorem dX4_meet_177 : decode cX4_meet 177 = .ok (.goto 4, 3) := by decide +kernel
theorem dX4_meet_180 : decode cX4_meet 180 = .ok (.iconst 0, 1) := by decide +kernel
theorem dX4_meet_181 : decode cX4_meet 181 = .ok (.istore 11, 2) := by decide +kernel
theorem dX4_meet_183 : decode cX4_meet 183 = .ok (.ldc2_w 56, 3) := by decide +kernel
theorem dX4_meet_186 : decode cX4_meet 186 = .ok (.lload 7, 2) := by decide +kernel
theorem dX4_meet_188 : decode cX4_meet 188 = .ok (.lmul, 1) := by decide +kernel
theorem dX4_meet_189 : decode cX4_meet 189 = .ok (.aload_n 0, 1) := by decide +kernel
theorem dX4_meet_190 : decode cX4_meet 190 = .ok (.getfield 13, 3) := by decide +kernel
theorem dX4_meet_193 : decode cX4_meet 193 = .ok (.iload_n 1, 1) := by decide +kernel
theorem dX4_meet_194 : decode cX4_meet 194 = .ok (.laload, 1) := by decide +kernel
theorem dX4_meet_195 : decode cX4_meet 195 = .ok (.lrem, 1) := by decide +kernel
theorem dX4_meet_196 : decode cX4_meet 196 = .ok (.lstore 7, 2) := by decide +kernel
theorem dX4_meet_198 : decode cX4_meet 198 = .ok (.ldc2_w 56, 3) := by decide +kernel
theorem dX4_meet_201 : decode cX4_meet 201 = .ok (.lload 9, 2) := by decide +kernel
theorem dX4_meet_203 : decode cX4_meet 203 = .ok (.lmul, 1) := by decide +kernel
theorem dX4_meet_204 : decode cX4_meet 204 = .ok (.aload_n 0, 1) := by decide +kernel
theorem dX4_meet_205 : decode cX4_meet 205 = .ok (.getfield 13, 3) := by decide +kernel
theorem dX4_meet_208 : decode cX4_meet 208 = .ok (.iload_n 2, 1) := by decide +kernel
theorem dX4_meet_209 : decode cX4_meet 209 = .ok (.laload, 1) := by decide +kernel
theorem dX4_meet_210 : decode cX4_meet 210 = .ok (.lrem, 1) := by decide +kernel
theorem dX4_meet_211 : decode cX4_meet 211 = .ok (.lstore 9, 2) := by decide +kernel
theorem dX4_meet_213 : decode cX4_meet 213 = .ok (.iinc 12 1, 3) := by decide +kernel
theorem dX4_meet_216 : decode cX4_meet 216 = .ok (.goto (-125), 3) := by decide +kernel
theorem dX4_meet_219 : decode cX4_meet 219 = .ok (.iload 11, 2) := by decide +kernel
theorem dX4_meet_221 : decode cX4_meet 221 = .ok (.ifCond .eq 7, 3) := by decide +kernel
theorem dX4_meet_224 : decode cX4_meet 224 = .ok (.iconst 1, 1) := by decide +kernel
theorem dX4_meet_225 : decode cX4_meet 225 = .ok (.goto 4, 3) := by decide +kernel
theorem dX4_meet_228 : decode cX4_meet 228 = .ok (.iconst 0, 1) := by decide +kernel
theorem dX4_meet_229 : decode cX4_meet 229 = .ok (.ireturn, 1) := by decide +kernel
theorem dX4_whole_0 : decode cX4_whole 0 = .ok (.lconst 1, 1) := by decide +kernel
theorem dX4_whole_1 : decode cX4_whole 1 = .ok (.iload_n 0, 1) := by decide +kernel
theorem dX4_whole_2 : decode cX4_whole 2 = .ok (.lshl, 1) := by decide +kernel
theorem dX4_whole_3 : decode cX4_whole 3 = .ok (.lconst 1, 1) := by decide +kernel
theorem dX4_whole_4 : decode cX4_whole 4 = .ok (.lsub, 1) := by decide +kernel
theorem dX4_whole_5 : decode cX4_whole 5 = .ok (.lreturn, 1) := by decide +kernel
theorem dX4_isOfLength_0 : decode cX4_isOfLength 0 = .ok (.iload_n 2, 1) := by decide +kernel
theorem dX4_isOfLength_1 : decode cX4_isOfLength 1 = .ok (.invokestatic 113, 3) := by decide +kernel
theorem dX4_isOfLength_4 : decode cX4_isOfLength 4 = .ok (.lload_n 0, 1) := by decide +kernel
theorem dX4_isOfLength_5 : decode cX4_isOfLength 5 = .ok (.iload_n 2, 1) := by decide +kernel
theorem dX4_isOfLength_6 : decode cX4_isOfLength 6 = .ok (.invokestatic 113, 3) := by decide +kernel
theorem dX4_isOfLength_9 : decode cX4_isOfLength 9 = .ok (.invokestatic 77, 3) := by decide +kernel
theorem dX4_isOfLength_12 : decode cX4_isOfLength 12 = .ok (.ldiv, 1) := by decide +kernel
theorem dX4_isOfLength_13 : decode cX4_isOfLength 13 = .ok (.invokestatic 68, 3) := by decide +kernel
theorem dX4_isOfLength_16 : decode cX4_isOfLength 16 = .ok (.iload_n 2, 1) := by decide +kernel
theorem dX4_isOfLength_17 : decode cX4_isOfLength 17 = .ok (.if_icmp .ne 7, 3) := by decide +kernel
theorem dX4_isOfLength_20 : decode cX4_isOfLength 20 = .ok (.iconst 1, 1) := by decide +kernel
theorem dX4_isOfLength_21 : decode cX4_isOfLength 21 = .ok (.goto 4, 3) := by decide +kernel
theorem dX4_isOfLength_24 : decode cX4_isOfLength 24 = .ok (.iconst 0, 1) := by decide +kernel
theorem dX4_isOfLength_25 : decode cX4_isOfLength 25 = .ok (.ireturn, 1) := by decide +kernel
theorem dX4_crosses_0 : decode cX4_crosses 0 = .ok (.iconst 0, 1) := by decide +kernel
theorem dX4_crosses_1 : decode cX4_crosses 1 = .ok (.istore 6, 2) := by decide +kernel
theorem dX4_crosses_3 : decode cX4_crosses 3 = .ok (.iconst 0, 1) := by decide +kernel
theorem dX4_crosses_4 : decode cX4_crosses 4 = .ok (.istore 7, 2) := by decide +kernel
theorem dX4_crosses_6 : decode cX4_crosses 6 = .ok (.iload 7, 2) := by decide +kernel
theorem dX4_crosses_8 : decode cX4_crosses 8 = .ok (.aload_n 0, 1) := by decide +kernel
theorem dX4_crosses_9 : decode cX4_crosses 9 = .ok (.getfield 117, 3) := by decide +kernel
theorem dX4_crosses_12 : decode cX4_crosses 12 = .ok (.if_icmp .ge 136, 3) := by decide +kernel
theorem dX4_crosses_15 : decode cX4_crosses 15 = .ok (.iload 6, 2) := by decide +kernel
theorem dX4_crosses_17 : decode cX4_crosses 17 = .ok (.ifCond .ne 131, 3) := by decide +kernel
theorem dX4_crosses_20 : decode cX4_crosses 20 = .ok (.aload_n 0, 1) := by decide +kernel
theorem dX4_crosses_21 : decode cX4_crosses 21 = .ok (.getfield 16, 3) := by decide +kernel
theorem dX4_crosses_24 : decode cX4_crosses 24 = .ok (.iload 7, 2) := by decide +kernel
theorem dX4_crosses_26 : decode cX4_crosses 26 = .ok (.iaload, 1) := by decide +kernel
theorem dX4_crosses_27 : decode cX4_crosses 27 = .ok (.invokestatic 113, 3) := by decide +kernel
theorem dX4_crosses_30 : decode cX4_crosses 30 = .ok (.lstore 8, 2) := by decide +kernel
theorem dX4_crosses_32 : decode cX4_crosses 32 = .ok (.lload_n 2, 1) := by decide +kernel
theorem dX4_crosses_33 : decode cX4_crosses 33 = .ok (.iload_n 1, 1) := by decide +kernel
theorem dX4_crosses_34 : decode cX4_crosses 34 = .ok (.invokestatic 113, 3) := by decide +kernel
theorem dX4_crosses_37 : decode cX4_crosses 37 = .ok (.aload_n 0, 1) := by decide +kernel
theorem dX4_crosses_38 : decode cX4_crosses 38 = .ok (.getfield 20, 3) := by decide +kernel
theorem dX4_crosses_41 : decode cX4_crosses 41 = .ok (.iload 7, 2) := by decide +kernel
theorem dX4_crosses_43 : decode cX4_crosses 43 = .ok (.laload, 1) := by decide +kernel
theorem dX4_crosses_44 : decode cX4_crosses 44 = .ok (.lload 8, 2) := by decide +kernel
theorem dX4_crosses_46 : decode cX4_crosses 46 = .ok (.invokestatic 98, 3) := by decide +kernel
theorem dX4_crosses_49 : decode cX4_crosses 49 = .ok (.ifCond .eq 28, 3) := by decide +kernel
theorem dX4_crosses_52 : decode cX4_crosses 52 = .ok (.aload_n 0, 1) := by decide +kernel
theorem dX4_crosses_53 : decode cX4_crosses 53 = .ok (.getfield 20, 3) := by decide +kernel
theorem dX4_crosses_56 : decode cX4_crosses 56 = .ok (.iload 7, 2) := by decide +kernel
theorem dX4_crosses_58 : decode cX4_crosses 58 = .ok (.laload, 1) := by decide +kernel
theorem dX4_crosses_59 : decode cX4_crosses 59 = .ok (.lload 8, 2) := by decide +kernel
theorem dX4_crosses_61 : decode cX4_crosses 61 = .ok (.lload 4, 2) := by decide +kernel
theorem dX4_crosses_63 : decode cX4_crosses 63 = .ok (.iload_n 1, 1) := by decide +kernel
theorem dX4_crosses_64 : decode cX4_crosses 64 = .ok (.invokestatic 113, 3) := by decide +kernel
theorem dX4_crosses_67 : decode cX4_crosses 67 = .ok (.invokestatic 98, 3) := by decide +kernel
theorem dX4_crosses_70 : decode cX4_crosses 70 = .ok (.ifCond .eq 7, 3) := by decide +kernel
theorem dX4_crosses_73 : decode cX4_crosses 73 = .ok (.iconst 1, 1) := by decide +kernel
theorem dX4_crosses_74 : decode cX4_crosses 74 = .ok (.goto 4, 3) := by decide +kernel
theorem dX4_crosses_77 : decode cX4_crosses 77 = .ok (.iconst 0, 1) := by decide +kernel
theorem dX4_crosses_78 : decode cX4_crosses 78 = .ok (.istore 10, 2) := by decide +kernel
theorem dX4_crosses_80 : decode cX4_crosses 80 = .ok (.lload_n 2, 1) := by decide +kernel
theorem dX4_crosses_81 : decode cX4_crosses 81 = .ok (.iload_n 1, 1) := by decide +kernel
theorem dX4_crosses_82 : decode cX4_crosses 82 = .ok (.invokestatic 113, 3) := by decide +kernel
theorem dX4_crosses_85 : decode cX4_crosses 85 = .ok (.aload_n 0, 1) := by decide +kernel
theorem dX4_crosses_86 : decode cX4_crosses 86 = .ok (.getfield 23, 3) := by decide +kernel
theorem dX4_crosses_89 : decode cX4_crosses 89 = .ok (.iload 7, 2) := by decide +kernel
theorem dX4_crosses_91 : decode cX4_crosses 91 = .ok (.laload, 1) := by decide +kernel
theorem dX4_crosses_92 : decode cX4_crosses 92 = .ok (.lload 8, 2) := by decide +kernel
theorem dX4_crosses_94 : decode cX4_crosses 94 = .ok (.invokestatic 98, 3) := by decide +kernel
theorem dX4_crosses_97 : decode cX4_crosses 97 = .ok (.ifCond .eq 28, 3) := by decide +kernel
theorem dX4_crosses_100 : decode cX4_crosses 100 = .ok (.aload_n 0, 1) := by decide +kernel
theorem dX4_crosses_101 : decode cX4_crosses 101 = .ok (.getfield 23, 3) := by decide +kernel
theorem dX4_crosses_104 : decode cX4_crosses 104 = .ok (.iload 7, 2) := by decide +kernel
theorem dX4_crosses_106 : decode cX4_crosses 106 = .ok (.laload, 1) := by decide +kernel
theorem dX4_crosses_107 : decode cX4_crosses 107 = .ok (.lload 8, 2) := by decide +kernel
theorem dX4_crosses_109 : decode cX4_crosses 109 = .ok (.lload 4, 2) := by decide +kernel
theorem dX4_crosses_111 : decode cX4_crosses 111 = .ok (.iload_n 1, 1) := by decide +kernel
theorem dX4_crosses_112 : decode cX4_crosses 112 = .ok (.invokestatic 113, 3) := by decide +kernel
theorem dX4_crosses_115 : decode cX4_crosses 115 = .ok (.invokestatic 98, 3) := by decide +kernel
theorem dX4_crosses_118 : decode cX4_crosses 118 = .ok (.ifCond .eq 7, 3) := by decide +kernel
theorem dX4_crosses_121 : decode cX4_crosses 121 = .ok (.iconst 1, 1) := by decide +kernel
theorem dX4_crosses_122 : decode cX4_crosses 122 = .ok (.goto 4, 3) := by decide +kernel
theorem dX4_crosses_125 : decode cX4_crosses 125 = .ok (.iconst 0, 1) := by decide +kernel
theorem dX4_crosses_126 : decode cX4_crosses 126 = .ok (.istore 11, 2) := by decide +kernel
theorem dX4_crosses_128 : decode cX4_crosses 128 = .ok (.iload 10, 2) := by decide +kernel
theorem dX4_crosses_130 : decode cX4_crosses 130 = .ok (.iload 11, 2) := by decide +kernel
theorem dX4_crosses_132 : decode cX4_crosses 132 = .ok (.if_icmp .eq 7, 3) := by decide +kernel
theorem dX4_crosses_135 : decode cX4_crosses 135 = .ok (.iconst 1, 1) := by decide +kernel
theorem dX4_crosses_136 : decode cX4_crosses 136 = .ok (.goto 4, 3) := by decide +kernel
theorem dX4_crosses_139 : decode cX4_crosses 139 = .ok (.iconst 0, 1) := by decide +kernel
theorem dX4_crosses_140 : decode cX4_crosses 140 = .ok (.istore 6, 2) := by decide +kernel
theorem dX4_crosses_142 : decode cX4_crosses 142 = .ok (.iinc 7 1, 3) := by decide +kernel
theorem dX4_crosses_145 : decode cX4_crosses 145 = .ok (.goto (-139), 3) := by decide +kernel
theorem dX4_crosses_148 : decode cX4_crosses 148 = .ok (.iload 6, 2) := by decide +kernel
theorem dX4_crosses_150 : decode cX4_crosses 150 = .ok (.ireturn, 1) := by decide +kernel
theorem dX4_pairs0_0 : decode cX4_pairs0 0 = .ok (.aload_n 0, 1) := by decide +kernel
theorem dX4_pairs0_1 : decode cX4_pairs0 1 = .ok (.getfield 16, 3) := by decide +kernel
theorem dX4_pairs0_4 : decode cX4_pairs0 4 = .ok (.aload_n 0, 1) := by decide +kernel
theorem dX4_pairs0_5 : decode cX4_pairs0 5 = .ok (.getfield 117, 3) := by decide +kernel
theorem dX4_pairs0_8 : decode cX4_pairs0 8 = .ok (.iload_n 1, 1) := by decide +kernel
theorem dX4_pairs0_9 : decode cX4_pairs0 9 = .ok (.iastore, 1) := by decide +kernel
theorem dX4_pairs0_10 : decode cX4_pairs0 10 = .ok (.aload_n 0, 1) := by decide +kernel
theorem dX4_pairs0_11 : decode cX4_pairs0 11 = .ok (.getfield 20, 3) := by decide +kernel
theorem dX4_pairs0_14 : decode cX4_pairs0 14 = .ok (.aload_n 0, 1) := by decide +kernel
theorem dX4_pairs0_15 : decode cX4_pairs0 15 = .ok (.getfield 117, 3) := by decide +kernel
theorem dX4_pairs0_18 : decode cX4_pairs0 18 = .ok (.lload_n 2, 1) := by decide +kernel
theorem dX4_pairs0_19 : decode cX4_pairs0 19 = .ok (.lastore, 1) := by decide +kernel
theorem dX4_pairs0_20 : decode cX4_pairs0 20 = .ok (.aload_n 0, 1) := by decide +kernel
theorem dX4_pairs0_21 : decode cX4_pairs0 21 = .ok (.getfield 23, 3) := by decide +kernel
theorem dX4_pairs0_24 : decode cX4_pairs0 24 = .ok (.aload_n 0, 1) := by decide +kernel
theorem dX4_pairs0_25 : decode cX4_pairs0 25 = .ok (.getfield 117, 3) := by decide +kernel
theorem dX4_pairs0_28 : decode cX4_pairs0 28 = .ok (.lload 4, 2) := by decide +kernel
theorem dX4_pairs0_30 : decode cX4_pairs0 30 = .ok (.lastore, 1) := by decide +kernel
theorem dX4_pairs0_31 : decode cX4_pairs0 31 = .ok (.aload_n 0, 1) := by decide +kernel
theorem dX4_pairs0_32 : decode cX4_pairs0 32 = .ok (.dup, 1) := by decide +kernel
theorem dX4_pairs0_33 : decode cX4_pairs0 33 = .ok (.getfield 117, 3) := by decide +kernel
theorem dX4_pairs0_36 : decode cX4_pairs0 36 = .ok (.iconst 1, 1) := by decide +kernel
theorem dX4_pairs0_37 : decode cX4_pairs0 37 = .ok (.iadd, 1) := by decide +kernel
theorem dX4_pairs0_38 : decode cX4_pairs0 38 = .ok (.putfield 117, 3) := by decide +kernel
theorem dX4_pairs0_41 : decode cX4_pairs0 41 = .ok (.return_, 1) := by decide +kernel
theorem dX4_findPairs_0 : decode cX4_findPairs 0 = .ok (.aload_n 0, 1) := by decide +kernel
theorem dX4_findPairs_1 : decode cX4_findPairs 1 = .ok (.iconst 1, 1) := by decide +kernel
theorem dX4_findPairs_2 : decode cX4_findPairs 2 = .ok (.lconst 0, 1) := by decide +kernel
theorem dX4_findPairs_3 : decode cX4_findPairs 3 = .ok (.lconst 0, 1) := by decide +kernel
theorem dX4_findPairs_4 : decode cX4_findPairs 4 = .ok (.invokevirtual 120, 3) := by decide +kernel
theorem dX4_findPairs_7 : decode cX4_findPairs 7 = .ok (.iconst 2, 1) := by decide +kernel
theorem dX4_findPairs_8 : decode cX4_findPairs 8 = .ok (.istore_n 1, 1) := by decide +kernel
theorem dX4_findPairs_9 : decode cX4_findPairs 9 = .ok (.iload_n 1, 1) := by decide +kernel
theorem dX4_findPairs_10 : decode cX4_findPairs 10 = .ok (.bipush 8, 2) := by decide +kernel
theorem dX4_findPairs_12 : decode cX4_findPairs 12 = .ok (.if_icmp .gt 140, 3) := by decide +kernel
theorem dX4_findPairs_15 : decode cX4_findPairs 15 = .ok (.iconst 0, 1) := by decide +kernel
theorem dX4_findPairs_16 : decode cX4_findPairs 16 = .ok (.istore_n 2, 1) := by decide +kernel
theorem dX4_findPairs_17 : decode cX4_findPairs 17 = .ok (.iload_n 2, 1) := by decide +kernel
theorem dX4_findPairs_18 : decode cX4_findPairs 18 = .ok (.sipush 256, 3) := by decide +kernel
theorem dX4_findPairs_21 : decode cX4_findPairs 21 = .ok (.if_icmp .ge 44, 3) := by decide +kernel
theorem dX4_findPairs_24 : decode cX4_findPairs 24 = .ok (.aload_n 0, 1) := by decide +kernel
theorem dX4_findPairs_25 : decode cX4_findPairs 25 = .ok (.getfield 26, 3) := by decide +kernel
theorem dX4_findPairs_28 : decode cX4_findPairs 28 = .ok (.iload_n 2, 1) := by decide +kernel
theorem dX4_findPairs_29 : decode cX4_findPairs 29 = .ok (.iload_n 2, 1) := by decide +kernel
theorem dX4_findPairs_30 : decode cX4_findPairs 30 = .ok (.i2l, 1) := by decide +kernel
theorem dX4_findPairs_31 : decode cX4_findPairs 31 = .ok (.lconst 1, 1) := by decide +kernel
theorem dX4_findPairs_32 : decode cX4_findPairs 32 = .ok (.iload_n 1, 1) := by decide +kernel
theorem dX4_findPairs_33 : decode cX4_findPairs 33 = .ok (.invokestatic 113, 3) := by decide +kernel
theorem dX4_findPairs_36 : decode cX4_findPairs 36 = .ok (.lconst 1, 1) := by decide +kernel
theorem dX4_findPairs_37 : decode cX4_findPairs 37 = .ok (.lsub, 1) := by decide +kernel
theorem dX4_findPairs_38 : decode cX4_findPairs 38 = .ok (.invokestatic 46, 3) := by decide +kernel
theorem dX4_findPairs_41 : decode cX4_findPairs 41 = .ok (.ifCond .eq 12, 3) := by decide +kernel
theorem dX4_findPairs_44 : decode cX4_findPairs 44 = .ok (.iload_n 2, 1) := by decide +kernel
theorem dX4_findPairs_45 : decode cX4_findPairs 45 = .ok (.i2l, 1) := by decide +kernel
theorem dX4_findPairs_46 : decode cX4_findPairs 46 = .ok (.iload_n 1, 1) := by decide +kernel
theorem dX4_findPairs_47 : decode cX4_findPairs 47 = .ok (.invokestatic 124, 3) := by decide +kernel
theorem dX4_findPairs_50 : decode cX4_findPairs 50 = .ok (.ifCond .ne 7, 3) := by decide +kernel
theorem dX4_findPairs_53 : decode cX4_findPairs 53 = .ok (.iconst 1, 1) := by decide +kernel
theorem dX4_findPairs_54 : decode cX4_findPairs 54 = .ok (.goto 4, 3) := by decide +kernel
theorem dX4_findPairs_57 : decode cX4_findPairs 57 = .ok (.iconst 0, 1) := by decide +kernel
theorem dX4_findPairs_58 : decode cX4_findPairs 58 = .ok (.bastore, 1) := by decide +kernel
theorem dX4_findPairs_59 : decode cX4_findPairs 59 = .ok (.iinc 2 1, 3) := by decide +kernel
theorem dX4_findPairs_62 : decode cX4_findPairs 62 = .ok (.goto (-45), 3) := by decide +kernel
theorem dX4_findPairs_65 : decode cX4_findPairs 65 = .ok (.iconst 1, 1) := by decide +kernel
theorem dX4_findPairs_66 : decode cX4_findPairs 66 = .ok (.istore_n 2, 1) := by decide +kernel
theorem dX4_findPairs_67 : decode cX4_findPairs 67 = .ok (.iload_n 2, 1) := by decide +kernel
theorem dX4_findPairs_68 : decode cX4_findPairs 68 = .ok (.i2l, 1) := by decide +kernel
theorem dX4_findPairs_69 : decode cX4_findPairs 69 = .ok (.iload_n 1, 1) := by decide +kernel
theorem dX4_findPairs_70 : decode cX4_findPairs 70 = .ok (.invokestatic 113, 3) := by decide +kernel
theorem dX4_findPairs_73 : decode cX4_findPairs 73 = .ok (.lcmp, 1) := by decide +kernel
theorem dX4_findPairs_74 : decode cX4_findPairs 74 = .ok (.ifCond .ge 72, 3) := by decide +kernel
theorem dX4_findPairs_77 : decode cX4_findPairs 77 = .ok (.aload_n 0, 1) := by decide +kernel
theorem dX4_findPairs_78 : decode cX4_findPairs 78 = .ok (.getfield 26, 3) := by decide +kernel
theorem dX4_findPairs_81 : decode cX4_findPairs 81 = .ok (.iload_n 2, 1) := by decide +kernel
theorem dX4_findPairs_82 : decode cX4_findPairs 82 = .ok (.baload, 1) := by decide +kernel
theorem dX4_findPairs_83 : decode cX4_findPairs 83 = .ok (.ifCond .ne 57, 3) := by decide +kernel
theorem dX4_findPairs_86 : decode cX4_findPairs 86 = .ok (.iload_n 2, 1) := by decide +kernel
theorem dX4_findPairs_87 : decode cX4_findPairs 87 = .ok (.iconst 1, 1) := by decide +kernel
theorem dX4_findPairs_88 : decode cX4_findPairs 88 = .ok (.iadd, 1) := by decide +kernel
theorem dX4_findPairs_89 : decode cX4_findPairs 89 = .ok (.istore_n 3, 1) := by decide +kernel
theorem dX4_findPairs_90 : decode cX4_findPairs 90 = .ok (.aload_n 0, 1) := by decide +kernel
theorem dX4_findPairs_91 : decode cX4_findPairs 91 = .ok (.getfield 26, 3) := by decide +kernel
theorem dX4_findPairs_94 : decode cX4_findPairs 94 = .ok (.iload_n 3, 1) := by decide +kernel
theorem dX4_findPairs_95 : decode cX4_findPairs 95 = .ok (.baload, 1) := by decide +kernel
theorem dX4_findPairs_96 : decode cX4_findPairs 96 = .ok (.ifCond .ne 15, 3) := by decide +kernel
theorem dX4_findPairs_99 : decode cX4_findPairs 99 = .ok (.aload_n 0, 1) := by decide +kernel
theorem dX4_findPairs_100 : decode cX4_findPairs 100 = .ok (.iload_n 1, 1) := by decide +kernel
theorem dX4_findPairs_101 : decode cX4_findPairs 101 = .ok (.iload_n 2, 1) := by decide +kernel
theorem dX4_findPairs_102 : decode cX4_findPairs 102 = .ok (.i2l, 1) := by decide +kernel
theorem dX4_findPairs_103 : decode cX4_findPairs 103 = .ok (.iload_n 3, 1) := by decide +kernel
theorem dX4_findPairs_104 : decode cX4_findPairs 104 = .ok (.i2l, 1) := by decide +kernel
theorem dX4_findPairs_105 : decode cX4_findPairs 105 = .ok (.invokevirtual 128, 3) := by decide +kernel
theorem dX4_findPairs_108 : decode cX4_findPairs 108 = .ok (.ifCond .eq 9, 3) := by decide +kernel
theorem dX4_findPairs_111 : decode cX4_findPairs 111 = .ok (.iinc 3 1, 3) := by decide +kernel
theorem dX4_findPairs_114 : decode cX4_findPairs 114 = .ok (.goto (-24), 3) := by decide +kernel
theorem dX4_findPairs_117 : decode cX4_findPairs 117 = .ok (.aload_n 0, 1) := by decide +kernel
theorem dX4_findPairs_118 : decode cX4_findPairs 118 = .ok (.getfield 26, 3) := by decide +kernel
theorem dX4_findPairs_121 : decode cX4_findPairs 121 = .ok (.iload_n 2, 1) := by decide +kernel
theorem dX4_findPairs_122 : decode cX4_findPairs 122 = .ok (.iconst 1, 1) := by decide +kernel
theorem dX4_findPairs_123 : decode cX4_findPairs 123 = .ok (.bastore, 1) := by decide +kernel
theorem dX4_findPairs_124 : decode cX4_findPairs 124 = .ok (.aload_n 0, 1) := by decide +kernel
theorem dX4_findPairs_125 : decode cX4_findPairs 125 = .ok (.getfield 26, 3) := by decide +kernel
theorem dX4_findPairs_128 : decode cX4_findPairs 128 = .ok (.iload_n 3, 1) := by decide +kernel
theorem dX4_findPairs_129 : decode cX4_findPairs 129 = .ok (.iconst 1, 1) := by decide +kernel
theorem dX4_findPairs_130 : decode cX4_findPairs 130 = .ok (.bastore, 1) := by decide +kernel
theorem dX4_findPairs_131 : decode cX4_findPairs 131 = .ok (.aload_n 0, 1) := by decide +kernel
theorem dX4_findPairs_132 : decode cX4_findPairs 132 = .ok (.iload_n 1, 1) := by decide +kernel
theorem dX4_findPairs_133 : decode cX4_findPairs 133 = .ok (.iload_n 2, 1) := by decide +kernel
theorem dX4_findPairs_134 : decode cX4_findPairs 134 = .ok (.i2l, 1) := by decide +kernel
theorem dX4_findPairs_135 : decode cX4_findPairs 135 = .ok (.iload_n 3, 1) := by decide +kernel
theorem dX4_findPairs_136 : decode cX4_findPairs 136 = .ok (.i2l, 1) := by decide +kernel
theorem dX4_findPairs_137 : decode cX4_findPairs 137 = .ok (.invokevirtual 120, 3) := by decide +kernel
theorem dX4_findPairs_140 : decode cX4_findPairs 140 = .ok (.iinc 2 1, 3) := by decide +kernel
theorem dX4_findPairs_143 : decode cX4_findPairs 143 = .ok (.goto (-76), 3) := by decide +kernel
theorem dX4_findPairs_146 : decode cX4_findPairs 146 = .ok (.iinc 1 1, 3) := by decide +kernel
theorem dX4_findPairs_149 : decode cX4_findPairs 149 = .ok (.goto (-140), 3) := by decide +kernel
theorem dX4_findPairs_152 : decode cX4_findPairs 152 = .ok (.return_, 1) := by decide +kernel
theorem dX4_pairs_0 : decode cX4_pairs 0 = .ok (.iload_n 1, 1) := by decide +kernel
theorem dX4_pairs_1 : decode cX4_pairs 1 = .ok (.i2l, 1) := by decide +kernel
theorem dX4_pairs_2 : decode cX4_pairs 2 = .ok (.lconst 1, 1) := by decide +kernel
theorem dX4_pairs_3 : decode cX4_pairs 3 = .ok (.ldc2_w 132, 3) := by decide +kernel
theorem dX4_pairs_6 : decode cX4_pairs 6 = .ok (.invokestatic 46, 3) := by decide +kernel
theorem dX4_pairs_9 : decode cX4_pairs 9 = .ok (.ifCond .ne 5, 3) := by decide +kernel
theorem dX4_pairs_12 : decode cX4_pairs 12 = .ok (.iconst (-1), 1) := by decide +kernel
theorem dX4_pairs_13 : decode cX4_pairs 13 = .ok (.ireturn, 1) := by decide +kernel
theorem dX4_pairs_14 : decode cX4_pairs 14 = .ok (.iconst 0, 1) := by decide +kernel
theorem dX4_pairs_15 : decode cX4_pairs 15 = .ok (.istore_n 2, 1) := by decide +kernel
theorem dX4_pairs_16 : decode cX4_pairs 16 = .ok (.iconst 0, 1) := by decide +kernel
theorem dX4_pairs_17 : decode cX4_pairs 17 = .ok (.istore_n 3, 1) := by decide +kernel
theorem dX4_pairs_18 : decode cX4_pairs 18 = .ok (.iload_n 3, 1) := by decide +kernel
theorem dX4_pairs_19 : decode cX4_pairs 19 = .ok (.aload_n 0, 1) := by decide +kernel
theorem dX4_pairs_20 : decode cX4_pairs 20 = .ok (.getfield 117, 3) := by decide +kernel
theorem dX4_pairs_23 : decode cX4_pairs 23 = .ok (.if_icmp .ge 27, 3) := by decide +kernel
theorem dX4_pairs_26 : decode cX4_pairs 26 = .ok (.iload_n 2, 1) := by decide +kernel
theorem dX4_pairs_27 : decode cX4_pairs 27 = .ok (.aload_n 0, 1) := by decide +kernel
theorem dX4_pairs_28 : decode cX4_pairs 28 = .ok (.getfield 16, 3) := by decide +kernel
theorem dX4_pairs_31 : decode cX4_pairs 31 = .ok (.iload_n 3, 1) := by decide +kernel
theorem dX4_pairs_32 : decode cX4_pairs 32 = .ok (.iaload, 1) := by decide +kernel
theorem dX4_pairs_33 : decode cX4_pairs 33 = .ok (.iload_n 1, 1) := by decide +kernel
theorem dX4_pairs_34 : decode cX4_pairs 34 = .ok (.if_icmp .ne 7, 3) := by decide +kernel
theorem dX4_pairs_37 : decode cX4_pairs 37 = .ok (.iconst 1, 1) := by decide +kernel
theorem dX4_pairs_38 : decode cX4_pairs 38 = .ok (.goto 4, 3) := by decide +kernel
theorem dX4_pairs_41 : decode cX4_pairs 41 = .ok (.iconst 0, 1) := by decide +kernel
theorem dX4_pairs_42 : decode cX4_pairs 42 = .ok (.iadd, 1) := by decide +kernel
theorem dX4_pairs_43 : decode cX4_pairs 43 = .ok (.istore_n 2, 1) := by decide +kernel
theorem dX4_pairs_44 : decode cX4_pairs 44 = .ok (.iinc 3 1, 3) := by decide +kernel
theorem dX4_pairs_47 : decode cX4_pairs 47 = .ok (.goto (-29), 3) := by decide +kernel
theorem dX4_pairs_50 : decode cX4_pairs 50 = .ok (.iload_n 2, 1) := by decide +kernel
theorem dX4_pairs_51 : decode cX4_pairs 51 = .ok (.ireturn, 1) := by decide +kernel
theorem dX4_firstOf_0 : decode cX4_firstOf 0 = .ok (.iconst 0, 1) := by decide +kernel
theorem dX4_firstOf_1 : decode cX4_firstOf 1 = .ok (.istore_n 2, 1) := by decide +kernel
theorem dX4_firstOf_2 : decode cX4_firstOf 2 = .ok (.aload_n 0, 1) := by decide +kernel
theorem dX4_firstOf_3 : decode cX4_firstOf 3 = .ok (.getfield 16, 3) := by decide +kernel
theorem dX4_firstOf_6 : decode cX4_firstOf 6 = .ok (.iload_n 2, 1) := by decide +kernel
theorem dX4_firstOf_7 : decode cX4_firstOf 7 = .ok (.iaload, 1) := by decide +kernel
theorem dX4_firstOf_8 : decode cX4_firstOf 8 = .ok (.iload_n 1, 1) := by decide +kernel
theorem dX4_firstOf_9 : decode cX4_firstOf 9 = .ok (.if_icmp .ge 9, 3) := by decide +kernel
theorem dX4_firstOf_12 : decode cX4_firstOf 12 = .ok (.iinc 2 1, 3) := by decide +kernel
theorem dX4_firstOf_15 : decode cX4_firstOf 15 = .ok (.goto (-13), 3) := by decide +kernel
theorem dX4_firstOf_18 : decode cX4_firstOf 18 = .ok (.iload_n 2, 1) := by decide +kernel
theorem dX4_firstOf_19 : decode cX4_firstOf 19 = .ok (.ireturn, 1) := by decide +kernel
theorem dX4_pair_0 : decode cX4_pair 0 = .ok (.iload_n 1, 1) := by decide +kernel
theorem dX4_pair_1 : decode cX4_pair 1 = .ok (.i2l, 1) := by decide +kernel
theorem dX4_pair_2 : decode cX4_pair 2 = .ok (.lconst 1, 1) := by decide +kernel
theorem dX4_pair_3 : decode cX4_pair 3 = .ok (.ldc2_w 132, 3) := by decide +kernel
theorem dX4_pair_6 : decode cX4_pair 6 = .ok (.invokestatic 46, 3) := by decide +kernel
theorem dX4_pair_9 : decode cX4_pair 9 = .ok (.ifCond .eq 17, 3) := by decide +kernel
theorem dX4_pair_12 : decode cX4_pair 12 = .ok (.iload_n 2, 1) := by decide +kernel
theorem dX4_pair_13 : decode cX4_pair 13 = .ok (.ifCond .lt 13, 3) := by decide +kernel
theorem dX4_pair_16 : decode cX4_pair 16 = .ok (.iload_n 3, 1) := by decide +kernel
theorem dX4_pair_17 : decode cX4_pair 17 = .ok (.i2l, 1) := by decide +kernel
theorem dX4_pair_18 : decode cX4_pair 18 = .ok (.lconst 0, 1) := by decide +kernel
theorem dX4_pair_19 : decode cX4_pair 19 = .ok (.lconst 1, 1) := by decide +kernel
theorem dX4_pair_20 : decode cX4_pair 20 = .ok (.invokestatic 46, 3) := by decide +kernel
theorem dX4_pair_23 : decode cX4_pair 23 = .ok (.ifCond .ne 5, 3) := by decide +kernel
theorem dX4_pair_26 : decode cX4_pair 26 = .ok (.iconst (-1), 1) := by decide +kernel
theorem dX4_pair_27 : decode cX4_pair 27 = .ok (.ireturn, 1) := by decide +kernel
theorem dX4_pair_28 : decode cX4_pair 28 = .ok (.iload_n 2, 1) := by decide +kernel
theorem dX4_pair_29 : decode cX4_pair 29 = .ok (.aload_n 0, 1) := by decide +kernel
theorem dX4_pair_30 : decode cX4_pair 30 = .ok (.iload_n 1, 1) := by decide +kernel
theorem dX4_pair_31 : decode cX4_pair 31 = .ok (.invokevirtual 134, 3) := by decide +kernel
theorem dX4_pair_34 : decode cX4_pair 34 = .ok (.if_icmp .lt 6, 3) := by decide +kernel
theorem dX4_pair_37 : decode cX4_pair 37 = .ok (.bipush (-4), 2) := by decide +kernel
theorem dX4_pair_39 : decode cX4_pair 39 = .ok (.ireturn, 1) := by decide +kernel
theorem dX4_pair_40 : decode cX4_pair 40 = .ok (.aload_n 0, 1) := by decide +kernel
theorem dX4_pair_41 : decode cX4_pair 41 = .ok (.iload_n 1, 1) := by decide +kernel
theorem dX4_pair_42 : decode cX4_pair 42 = .ok (.invokevirtual 137, 3) := by decide +kernel
theorem dX4_pair_45 : decode cX4_pair 45 = .ok (.iload_n 2, 1) := by decide +kernel
theorem dX4_pair_46 : decode cX4_pair 46 = .ok (.iadd, 1) := by decide +kernel
theorem dX4_pair_47 : decode cX4_pair 47 = .ok (.istore 4, 2) := by decide +kernel
theorem dX4_pair_49 : decode cX4_pair 49 = .ok (.iload_n 3, 1) := by decide +kernel
theorem dX4_pair_50 : decode cX4_pair 50 = .ok (.ifCond .ne 13, 3) := by decide +kernel
theorem dX4_pair_53 : decode cX4_pair 53 = .ok (.aload_n 0, 1) := by decide +kernel
theorem dX4_pair_54 : decode cX4_pair 54 = .ok (.getfield 20, 3) := by decide +kernel
theorem dX4_pair_57 : decode cX4_pair 57 = .ok (.iload 4, 2) := by decide +kernel
theorem dX4_pair_59 : decode cX4_pair 59 = .ok (.laload, 1) := by decide +kernel
theorem dX4_pair_60 : decode cX4_pair 60 = .ok (.goto 10, 3) := by decide +kernel
theorem dX4_pair_63 : decode cX4_pair 63 = .ok (.aload_n 0, 1) := by decide +kernel
theorem dX4_pair_64 : decode cX4_pair 64 = .ok (.getfield 23, 3) := by decide +kernel
theorem dX4_pair_67 : decode cX4_pair 67 = .ok (.iload 4, 2) := by decide +kernel
theorem dX4_pair_69 : decode cX4_pair 69 = .ok (.laload, 1) := by decide +kernel
theorem dX4_pair_70 : decode cX4_pair 70 = .ok (.l2i, 1) := by decide +kernel
theorem dX4_pair_71 : decode cX4_pair 71 = .ok (.ireturn, 1) := by decide +kernel
theorem dX4_pairOf_0 : decode cX4_pairOf 0 = .ok (.aload_n 0, 1) := by decide +kernel
theorem dX4_pairOf_1 : decode cX4_pairOf 1 = .ok (.iload_n 1, 1) := by decide +kernel
theorem dX4_pairOf_2 : decode cX4_pairOf 2 = .ok (.invokevirtual 95, 3) := by decide +kernel
theorem dX4_pairOf_5 : decode cX4_pairOf 5 = .ok (.ifCond .ne 6, 3) := by decide +kernel
theorem dX4_pairOf_8 : decode cX4_pairOf 8 = .ok (.bipush (-4), 2) := by decide +kernel
theorem dX4_pairOf_10 : decode cX4_pairOf 10 = .ok (.ireturn, 1) := by decide +kernel
theorem dX4_pairOf_11 : decode cX4_pairOf 11 = .ok (.aload_n 0, 1) := by decide +kernel
theorem dX4_pairOf_12 : decode cX4_pairOf 12 = .ok (.getfield 13, 3) := by decide +kernel
theorem dX4_pairOf_15 : decode cX4_pairOf 15 = .ok (.iload_n 1, 1) := by decide +kernel
theorem dX4_pairOf_16 : decode cX4_pairOf 16 = .ok (.laload, 1) := by decide +kernel
theorem dX4_pairOf_17 : decode cX4_pairOf 17 = .ok (.invokestatic 68, 3) := by decide +kernel
theorem dX4_pairOf_20 : decode cX4_pairOf 20 = .ok (.istore_n 2, 1) := by decide +kernel
theorem dX4_pairOf_21 : decode cX4_pairOf 21 = .ok (.iload_n 2, 1) := by decide +kernel
theorem dX4_pairOf_22 : decode cX4_pairOf 22 = .ok (.bipush 8, 2) := by decide +kernel
theorem dX4_pairOf_24 : decode cX4_pairOf 24 = .ok (.if_icmp .le 6, 3) := by decide +kernel
theorem dX4_pairOf_27 : decode cX4_pairOf 27 = .ok (.bipush (-4), 2) := by decide +kernel
theorem dX4_pairOf_29 : decode cX4_pairOf 29 = .ok (.ireturn, 1) := by decide +kernel
theorem dX4_pairOf_30 : decode cX4_pairOf 30 = .ok (.aload_n 0, 1) := by decide +kernel
theorem dX4_pairOf_31 : decode cX4_pairOf 31 = .ok (.getfield 7, 3) := by decide +kernel
theorem dX4_pairOf_34 : decode cX4_pairOf 34 = .ok (.iload_n 1, 1) := by decide +kernel
theorem dX4_pairOf_35 : decode cX4_pairOf 35 = .ok (.laload, 1) := by decide +kernel
theorem dX4_pairOf_36 : decode cX4_pairOf 36 = .ok (.iload_n 2, 1) := by decide +kernel
theorem dX4_pairOf_37 : decode cX4_pairOf 37 = .ok (.invokestatic 113, 3) := by decide +kernel
theorem dX4_pairOf_40 : decode cX4_pairOf 40 = .ok (.aload_n 0, 1) := by decide +kernel
theorem dX4_pairOf_41 : decode cX4_pairOf 41 = .ok (.getfield 13, 3) := by decide +kernel
theorem dX4_pairOf_44 : decode cX4_pairOf 44 = .ok (.iload_n 1, 1) := by decide +kernel
theorem dX4_pairOf_45 : decode cX4_pairOf 45 = .ok (.laload, 1) := by decide +kernel
theorem dX4_pairOf_46 : decode cX4_pairOf 46 = .ok (.ldiv, 1) := by decide +kernel
theorem dX4_pairOf_47 : decode cX4_pairOf 47 = .ok (.lmul, 1) := by decide +kernel
theorem dX4_pairOf_48 : decode cX4_pairOf 48 = .ok (.lstore_n 3, 1) := by decide +kernel
theorem dX4_pairOf_49 : decode cX4_pairOf 49 = .ok (.iconst 0, 1) := by decide +kernel
theorem dX4_pairOf_50 : decode cX4_pairOf 50 = .ok (.istore 5, 2) := by decide +kernel
theorem dX4_pairOf_52 : decode cX4_pairOf 52 = .ok (.aload_n 0, 1) := by decide +kernel
theorem dX4_pairOf_53 : decode cX4_pairOf 53 = .ok (.getfield 16, 3) := by decide +kernel
theorem dX4_pairOf_56 : decode cX4_pairOf 56 = .ok (.iload 5, 2) := by decide +kernel
theorem dX4_pairOf_58 : decode cX4_pairOf 58 = .ok (.iaload, 1) := by decide +kernel
theorem dX4_pairOf_59 : decode cX4_pairOf 59 = .ok (.iload_n 2, 1) := by decide +kernel
theorem dX4_pairOf_60 : decode cX4_pairOf 60 = .ok (.if_icmp .ne 27, 3) := by decide +kernel
theorem dX4_pairOf_63 : decode cX4_pairOf 63 = .ok (.aload_n 0, 1) := by decide +kernel
theorem dX4_pairOf_64 : decode cX4_pairOf 64 = .ok (.getfield 20, 3) := by decide +kernel
theorem dX4_pairOf_67 : decode cX4_pairOf 67 = .ok (.iload 5, 2) := by decide +kernel
theorem dX4_pairOf_69 : decode cX4_pairOf 69 = .ok (.laload, 1) := by decide +kernel
theorem dX4_pairOf_70 : decode cX4_pairOf 70 = .ok (.lload_n 3, 1) := by decide +kernel
theorem dX4_pairOf_71 : decode cX4_pairOf 71 = .ok (.lcmp, 1) := by decide +kernel
theorem dX4_pairOf_72 : decode cX4_pairOf 72 = .ok (.ifCond .eq 21, 3) := by decide +kernel
theorem dX4_pairOf_75 : decode cX4_pairOf 75 = .ok (.aload_n 0, 1) := by decide +kernel
theorem dX4_pairOf_76 : decode cX4_pairOf 76 = .ok (.getfield 23, 3) := by decide +kernel
theorem dX4_pairOf_79 : decode cX4_pairOf 79 = .ok (.iload 5, 2) := by decide +kernel
theorem dX4_pairOf_81 : decode cX4_pairOf 81 = .ok (.laload, 1) := by decide +kernel
theorem dX4_pairOf_82 : decode cX4_pairOf 82 = .ok (.lload_n 3, 1) := by decide +kernel
theorem dX4_pairOf_83 : decode cX4_pairOf 83 = .ok (.lcmp, 1) := by decide +kernel
theorem dX4_pairOf_84 : decode cX4_pairOf 84 = .ok (.ifCond .eq 9, 3) := by decide +kernel
theorem dX4_pairOf_87 : decode cX4_pairOf 87 = .ok (.iinc 5 1, 3) := by decide +kernel
theorem dX4_pairOf_90 : decode cX4_pairOf 90 = .ok (.goto (-38), 3) := by decide +kernel
theorem dX4_pairOf_93 : decode cX4_pairOf 93 = .ok (.iload 5, 2) := by decide +kernel
theorem dX4_pairOf_95 : decode cX4_pairOf 95 = .ok (.ireturn, 1) := by decide +kernel
theorem dX4_partner_0 : decode cX4_partner 0 = .ok (.aload_n 0, 1) := by decide +kernel
theorem dX4_partner_1 : decode cX4_partner 1 = .ok (.iload_n 1, 1) := by decide +kernel
theorem dX4_partner_2 : decode cX4_partner 2 = .ok (.invokevirtual 58, 3) := by decide +kernel
theorem dX4_partner_5 : decode cX4_partner 5 = .ok (.ifCond .ne 5, 3) := by decide +kernel
theorem dX4_partner_8 : decode cX4_partner 8 = .ok (.iconst (-1), 1) := by decide +kernel
theorem dX4_partner_9 : decode cX4_partner 9 = .ok (.ireturn, 1) := by decide +kernel
theorem dX4_partner_10 : decode cX4_partner 10 = .ok (.aload_n 0, 1) := by decide +kernel
theorem dX4_partner_11 : decode cX4_partner 11 = .ok (.iload_n 1, 1) := by decide +kernel
