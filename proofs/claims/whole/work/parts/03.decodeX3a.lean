theorem dX3_init_0 : decode cX3_init 0 = .ok (.aload_n 0, 1) := by decide +kernel
theorem dX3_init_1 : decode cX3_init 1 = .ok (.invokespecial 1, 3) := by decide +kernel
theorem dX3_init_4 : decode cX3_init 4 = .ok (.aload_n 0, 1) := by decide +kernel
theorem dX3_init_5 : decode cX3_init 5 = .ok (.bipush 16, 2) := by decide +kernel
theorem dX3_init_7 : decode cX3_init 7 = .ok (.anewarray 9, 3) := by decide +kernel
theorem dX3_init_10 : decode cX3_init 10 = .ok (.putfield 11, 3) := by decide +kernel
theorem dX3_init_13 : decode cX3_init 13 = .ok (.aload_n 0, 1) := by decide +kernel
theorem dX3_init_14 : decode cX3_init 14 = .ok (.iconst 4, 1) := by decide +kernel
theorem dX3_init_15 : decode cX3_init 15 = .ok (.anewarray 15, 3) := by decide +kernel
theorem dX3_init_18 : decode cX3_init 18 = .ok (.putfield 17, 3) := by decide +kernel
theorem dX3_init_21 : decode cX3_init 21 = .ok (.aload_n 0, 1) := by decide +kernel
theorem dX3_init_22 : decode cX3_init 22 = .ok (.sipush 512, 3) := by decide +kernel
theorem dX3_init_25 : decode cX3_init 25 = .ok (.newarray .int, 2) := by decide +kernel
theorem dX3_init_27 : decode cX3_init 27 = .ok (.putfield 21, 3) := by decide +kernel
theorem dX3_init_30 : decode cX3_init 30 = .ok (.aload_n 0, 1) := by decide +kernel
theorem dX3_init_31 : decode cX3_init 31 = .ok (.iconst 0, 1) := by decide +kernel
theorem dX3_init_32 : decode cX3_init 32 = .ok (.putfield 25, 3) := by decide +kernel
theorem dX3_init_35 : decode cX3_init 35 = .ok (.aload_n 0, 1) := by decide +kernel
theorem dX3_init_36 : decode cX3_init 36 = .ok (.aconst_null, 1) := by decide +kernel
theorem dX3_init_37 : decode cX3_init 37 = .ok (.putfield 29, 3) := by decide +kernel
theorem dX3_init_40 : decode cX3_init 40 = .ok (.return_, 1) := by decide +kernel
theorem dX3_angle_0 : decode cX3_angle 0 = .ok (.lload_n 3, 1) := by decide +kernel
theorem dX3_angle_1 : decode cX3_angle 1 = .ok (.lconst 1, 1) := by decide +kernel
theorem dX3_angle_2 : decode cX3_angle 2 = .ok (.lcmp, 1) := by decide +kernel
theorem dX3_angle_3 : decode cX3_angle 3 = .ok (.ifCond .lt 23, 3) := by decide +kernel
theorem dX3_angle_6 : decode cX3_angle 6 = .ok (.lload_n 3, 1) := by decide +kernel
theorem dX3_angle_7 : decode cX3_angle 7 = .ok (.ldc2_w 33, 3) := by decide +kernel
theorem dX3_angle_10 : decode cX3_angle 10 = .ok (.lcmp, 1) := by decide +kernel
theorem dX3_angle_11 : decode cX3_angle 11 = .ok (.ifCond .gt 15, 3) := by decide +kernel
theorem dX3_angle_14 : decode cX3_angle 14 = .ok (.lload_n 1, 1) := by decide +kernel
theorem dX3_angle_15 : decode cX3_angle 15 = .ok (.lconst 0, 1) := by decide +kernel
theorem dX3_angle_16 : decode cX3_angle 16 = .ok (.lcmp, 1) := by decide +kernel
theorem dX3_angle_17 : decode cX3_angle 17 = .ok (.ifCond .lt 9, 3) := by decide +kernel
theorem dX3_angle_20 : decode cX3_angle 20 = .ok (.lload_n 1, 1) := by decide +kernel
theorem dX3_angle_21 : decode cX3_angle 21 = .ok (.lload_n 3, 1) := by decide +kernel
theorem dX3_angle_22 : decode cX3_angle 22 = .ok (.lcmp, 1) := by decide +kernel
theorem dX3_angle_23 : decode cX3_angle 23 = .ok (.ifCond .lt 5, 3) := by decide +kernel
theorem dX3_angle_26 : decode cX3_angle 26 = .ok (.iconst (-1), 1) := by decide +kernel
theorem dX3_angle_27 : decode cX3_angle 27 = .ok (.ireturn, 1) := by decide +kernel
theorem dX3_angle_28 : decode cX3_angle 28 = .ok (.aload_n 0, 1) := by decide +kernel
theorem dX3_angle_29 : decode cX3_angle 29 = .ok (.lload_n 1, 1) := by decide +kernel
theorem dX3_angle_30 : decode cX3_angle 30 = .ok (.lload_n 3, 1) := by decide +kernel
theorem dX3_angle_31 : decode cX3_angle 31 = .ok (.invokevirtual 35, 3) := by decide +kernel
theorem dX3_angle_34 : decode cX3_angle 34 = .ok (.ireturn, 1) := by decide +kernel
theorem dX3_drop_0 : decode cX3_drop 0 = .ok (.aload_n 0, 1) := by decide +kernel
theorem dX3_drop_1 : decode cX3_drop 1 = .ok (.getfield 25, 3) := by decide +kernel
theorem dX3_drop_4 : decode cX3_drop 4 = .ok (.ifCond .ne 6, 3) := by decide +kernel
theorem dX3_drop_7 : decode cX3_drop 7 = .ok (.bipush (-4), 2) := by decide +kernel
theorem dX3_drop_9 : decode cX3_drop 9 = .ok (.ireturn, 1) := by decide +kernel
theorem dX3_drop_10 : decode cX3_drop 10 = .ok (.aload_n 0, 1) := by decide +kernel
theorem dX3_drop_11 : decode cX3_drop 11 = .ok (.dup, 1) := by decide +kernel
theorem dX3_drop_12 : decode cX3_drop 12 = .ok (.getfield 25, 3) := by decide +kernel
theorem dX3_drop_15 : decode cX3_drop 15 = .ok (.iconst 1, 1) := by decide +kernel
theorem dX3_drop_16 : decode cX3_drop 16 = .ok (.isub, 1) := by decide +kernel
theorem dX3_drop_17 : decode cX3_drop 17 = .ok (.putfield 25, 3) := by decide +kernel
theorem dX3_drop_20 : decode cX3_drop 20 = .ok (.aload_n 0, 1) := by decide +kernel
theorem dX3_drop_21 : decode cX3_drop 21 = .ok (.getfield 25, 3) := by decide +kernel
theorem dX3_drop_24 : decode cX3_drop 24 = .ok (.ireturn, 1) := by decide +kernel
theorem dX3_told_0 : decode cX3_told 0 = .ok (.aload_n 0, 1) := by decide +kernel
theorem dX3_told_1 : decode cX3_told 1 = .ok (.iload_n 1, 1) := by decide +kernel
theorem dX3_told_2 : decode cX3_told 2 = .ok (.invokevirtual 39, 3) := by decide +kernel
theorem dX3_told_5 : decode cX3_told 5 = .ok (.astore_n 3, 1) := by decide +kernel
theorem dX3_told_6 : decode cX3_told 6 = .ok (.aload_n 3, 1) := by decide +kernel
theorem dX3_told_7 : decode cX3_told 7 = .ok (.ifnonnull 5, 3) := by decide +kernel
theorem dX3_told_10 : decode cX3_told 10 = .ok (.iconst (-1), 1) := by decide +kernel
theorem dX3_told_11 : decode cX3_told 11 = .ok (.ireturn, 1) := by decide +kernel
theorem dX3_told_12 : decode cX3_told 12 = .ok (.iload_n 2, 1) := by decide +kernel
theorem dX3_told_13 : decode cX3_told 13 = .ok (.tableswitch 51 0 3 #[31, 36, 41, 46], 31) := by decide +kernel
theorem dX3_told_44 : decode cX3_told 44 = .ok (.aload_n 3, 1) := by decide +kernel
theorem dX3_told_45 : decode cX3_told 45 = .ok (.getfield 43, 3) := by decide +kernel
theorem dX3_told_48 : decode cX3_told 48 = .ok (.ireturn, 1) := by decide +kernel
theorem dX3_told_49 : decode cX3_told 49 = .ok (.aload_n 3, 1) := by decide +kernel
theorem dX3_told_50 : decode cX3_told 50 = .ok (.getfield 46, 3) := by decide +kernel
theorem dX3_told_53 : decode cX3_told 53 = .ok (.ireturn, 1) := by decide +kernel
theorem dX3_told_54 : decode cX3_told 54 = .ok (.aload_n 3, 1) := by decide +kernel
theorem dX3_told_55 : decode cX3_told 55 = .ok (.getfield 49, 3) := by decide +kernel
theorem dX3_told_58 : decode cX3_told 58 = .ok (.ireturn, 1) := by decide +kernel
theorem dX3_told_59 : decode cX3_told 59 = .ok (.aload_n 3, 1) := by decide +kernel
theorem dX3_told_60 : decode cX3_told 60 = .ok (.getfield 52, 3) := by decide +kernel
theorem dX3_told_63 : decode cX3_told 63 = .ok (.ireturn, 1) := by decide +kernel
theorem dX3_told_64 : decode cX3_told 64 = .ok (.iconst (-1), 1) := by decide +kernel
theorem dX3_told_65 : decode cX3_told 65 = .ok (.ireturn, 1) := by decide +kernel
theorem dX3_doubled_0 : decode cX3_doubled 0 = .ok (.aload_n 0, 1) := by decide +kernel
theorem dX3_doubled_1 : decode cX3_doubled 1 = .ok (.iload_n 1, 1) := by decide +kernel
theorem dX3_doubled_2 : decode cX3_doubled 2 = .ok (.invokevirtual 39, 3) := by decide +kernel
theorem dX3_doubled_5 : decode cX3_doubled 5 = .ok (.astore 4, 2) := by decide +kernel
theorem dX3_doubled_7 : decode cX3_doubled 7 = .ok (.aload 4, 2) := by decide +kernel
theorem dX3_doubled_9 : decode cX3_doubled 9 = .ok (.ifnull 17, 3) := by decide +kernel
theorem dX3_doubled_12 : decode cX3_doubled 12 = .ok (.iload_n 2, 1) := by decide +kernel
theorem dX3_doubled_13 : decode cX3_doubled 13 = .ok (.invokestatic 55, 3) := by decide +kernel
theorem dX3_doubled_16 : decode cX3_doubled 16 = .ok (.ifCond .eq 10, 3) := by decide +kernel
theorem dX3_doubled_19 : decode cX3_doubled 19 = .ok (.iload_n 3, 1) := by decide +kernel
theorem dX3_doubled_20 : decode cX3_doubled 20 = .ok (.invokestatic 59, 3) := by decide +kernel
theorem dX3_doubled_23 : decode cX3_doubled 23 = .ok (.ifCond .ne 5, 3) := by decide +kernel
theorem dX3_doubled_26 : decode cX3_doubled 26 = .ok (.iconst (-1), 1) := by decide +kernel
theorem dX3_doubled_27 : decode cX3_doubled 27 = .ok (.ireturn, 1) := by decide +kernel
theorem dX3_doubled_28 : decode cX3_doubled 28 = .ok (.aload 4, 2) := by decide +kernel
theorem dX3_doubled_30 : decode cX3_doubled 30 = .ok (.iload_n 2, 1) := by decide +kernel
theorem dX3_doubled_31 : decode cX3_doubled 31 = .ok (.invokevirtual 62, 3) := by decide +kernel
theorem dX3_doubled_34 : decode cX3_doubled 34 = .ok (.istore 5, 2) := by decide +kernel
theorem dX3_doubled_36 : decode cX3_doubled 36 = .ok (.iload 5, 2) := by decide +kernel
theorem dX3_doubled_38 : decode cX3_doubled 38 = .ok (.i2l, 1) := by decide +kernel
theorem dX3_doubled_39 : decode cX3_doubled 39 = .ok (.aload 4, 2) := by decide +kernel
theorem dX3_doubled_41 : decode cX3_doubled 41 = .ok (.getfield 46, 3) := by decide +kernel
theorem dX3_doubled_44 : decode cX3_doubled 44 = .ok (.i2l, 1) := by decide +kernel
theorem dX3_doubled_45 : decode cX3_doubled 45 = .ok (.invokestatic 66, 3) := by decide +kernel
theorem dX3_doubled_48 : decode cX3_doubled 48 = .ok (.lstore 6, 2) := by decide +kernel
theorem dX3_doubled_50 : decode cX3_doubled 50 = .ok (.iload_n 3, 1) := by decide +kernel
theorem dX3_doubled_51 : decode cX3_doubled 51 = .ok (.ifCond .ne 9, 3) := by decide +kernel
theorem dX3_doubled_54 : decode cX3_doubled 54 = .ok (.iload 5, 2) := by decide +kernel
theorem dX3_doubled_56 : decode cX3_doubled 56 = .ok (.i2l, 1) := by decide +kernel
theorem dX3_doubled_57 : decode cX3_doubled 57 = .ok (.goto 9, 3) := by decide +kernel
theorem dX3_doubled_60 : decode cX3_doubled 60 = .ok (.aload 4, 2) := by decide +kernel
theorem dX3_doubled_62 : decode cX3_doubled 62 = .ok (.getfield 46, 3) := by decide +kernel
theorem dX3_doubled_65 : decode cX3_doubled 65 = .ok (.i2l, 1) := by decide +kernel
theorem dX3_doubled_66 : decode cX3_doubled 66 = .ok (.lload 6, 2) := by decide +kernel
theorem dX3_doubled_68 : decode cX3_doubled 68 = .ok (.invokestatic 70, 3) := by decide +kernel
theorem dX3_doubled_71 : decode cX3_doubled 71 = .ok (.l2i, 1) := by decide +kernel
theorem dX3_doubled_72 : decode cX3_doubled 72 = .ok (.ireturn, 1) := by decide +kernel
theorem dX3_all_0 : decode cX3_all 0 = .ok (.iload_n 1, 1) := by decide +kernel
theorem dX3_all_1 : decode cX3_all 1 = .ok (.invokestatic 73, 3) := by decide +kernel
theorem dX3_all_4 : decode cX3_all 4 = .ok (.ifCond .ne 5, 3) := by decide +kernel
theorem dX3_all_7 : decode cX3_all 7 = .ok (.iconst (-1), 1) := by decide +kernel
theorem dX3_all_8 : decode cX3_all 8 = .ok (.ireturn, 1) := by decide +kernel
theorem dX3_all_9 : decode cX3_all 9 = .ok (.iconst 1, 1) := by decide +kernel
theorem dX3_all_10 : decode cX3_all 10 = .ok (.istore_n 2, 1) := by decide +kernel
theorem dX3_all_11 : decode cX3_all 11 = .ok (.iload_n 2, 1) := by decide +kernel
theorem dX3_all_12 : decode cX3_all 12 = .ok (.iload_n 1, 1) := by decide +kernel
theorem dX3_all_13 : decode cX3_all 13 = .ok (.if_icmp .gt 19, 3) := by decide +kernel
theorem dX3_all_16 : decode cX3_all 16 = .ok (.aload_n 0, 1) := by decide +kernel
theorem dX3_all_17 : decode cX3_all 17 = .ok (.getfield 21, 3) := by decide +kernel
theorem dX3_all_20 : decode cX3_all 20 = .ok (.iload_n 2, 1) := by decide +kernel
theorem dX3_all_21 : decode cX3_all 21 = .ok (.iload_n 2, 1) := by decide +kernel
theorem dX3_all_22 : decode cX3_all 22 = .ok (.invokestatic 76, 3) := by decide +kernel
theorem dX3_all_25 : decode cX3_all 25 = .ok (.iastore, 1) := by decide +kernel
theorem dX3_all_26 : decode cX3_all 26 = .ok (.iinc 2 1, 3) := by decide +kernel
theorem dX3_all_29 : decode cX3_all 29 = .ok (.goto (-18), 3) := by decide +kernel
theorem dX3_all_32 : decode cX3_all 32 = .ok (.aload_n 0, 1) := by decide +kernel
theorem dX3_all_33 : decode cX3_all 33 = .ok (.iload_n 1, 1) := by decide +kernel
theorem dX3_all_34 : decode cX3_all 34 = .ok (.invokevirtual 79, 3) := by decide +kernel
theorem dX3_all_37 : decode cX3_all 37 = .ok (.ireturn, 1) := by decide +kernel
theorem dX3_letter_0 : decode cX3_letter 0 = .ok (.aload_n 0, 1) := by decide +kernel
theorem dX3_letter_1 : decode cX3_letter 1 = .ok (.iload_n 1, 1) := by decide +kernel
theorem dX3_letter_2 : decode cX3_letter 2 = .ok (.invokevirtual 39, 3) := by decide +kernel
theorem dX3_letter_5 : decode cX3_letter 5 = .ok (.astore 4, 2) := by decide +kernel
theorem dX3_letter_7 : decode cX3_letter 7 = .ok (.aload_n 0, 1) := by decide +kernel
theorem dX3_letter_8 : decode cX3_letter 8 = .ok (.iload_n 2, 1) := by decide +kernel
theorem dX3_letter_9 : decode cX3_letter 9 = .ok (.invokevirtual 39, 3) := by decide +kernel
theorem dX3_letter_12 : decode cX3_letter 12 = .ok (.astore 5, 2) := by decide +kernel
theorem dX3_letter_14 : decode cX3_letter 14 = .ok (.aload 4, 2) := by decide +kernel
theorem dX3_letter_16 : decode cX3_letter 16 = .ok (.ifnull 15, 3) := by decide +kernel
theorem dX3_letter_19 : decode cX3_letter 19 = .ok (.aload 5, 2) := by decide +kernel
theorem dX3_letter_21 : decode cX3_letter 21 = .ok (.ifnull 10, 3) := by decide +kernel
theorem dX3_letter_24 : decode cX3_letter 24 = .ok (.iload_n 3, 1) := by decide +kernel
theorem dX3_letter_25 : decode cX3_letter 25 = .ok (.invokestatic 55, 3) := by decide +kernel
theorem dX3_letter_28 : decode cX3_letter 28 = .ok (.ifCond .ne 5, 3) := by decide +kernel
theorem dX3_letter_31 : decode cX3_letter 31 = .ok (.iconst (-1), 1) := by decide +kernel
theorem dX3_letter_32 : decode cX3_letter 32 = .ok (.ireturn, 1) := by decide +kernel
theorem dX3_letter_33 : decode cX3_letter 33 = .ok (.aload 5, 2) := by decide +kernel
theorem dX3_letter_35 : decode cX3_letter 35 = .ok (.aload 4, 2) := by decide +kernel
theorem dX3_letter_37 : decode cX3_letter 37 = .ok (.iload_n 3, 1) := by decide +kernel
theorem dX3_letter_38 : decode cX3_letter 38 = .ok (.invokevirtual 62, 3) := by decide +kernel
theorem dX3_letter_41 : decode cX3_letter 41 = .ok (.aload 4, 2) := by decide +kernel
theorem dX3_letter_43 : decode cX3_letter 43 = .ok (.getfield 46, 3) := by decide +kernel
theorem dX3_letter_46 : decode cX3_letter 46 = .ok (.invokevirtual 82, 3) := by decide +kernel
theorem dX3_letter_49 : decode cX3_letter 49 = .ok (.ireturn, 1) := by decide +kernel
theorem dX3_address_0 : decode cX3_address 0 = .ok (.aload_n 0, 1) := by decide +kernel
theorem dX3_address_1 : decode cX3_address 1 = .ok (.iload_n 1, 1) := by decide +kernel
theorem dX3_address_2 : decode cX3_address 2 = .ok (.invokevirtual 39, 3) := by decide +kernel
theorem dX3_address_5 : decode cX3_address 5 = .ok (.astore_n 3, 1) := by decide +kernel
theorem dX3_address_6 : decode cX3_address 6 = .ok (.aload_n 3, 1) := by decide +kernel
theorem dX3_address_7 : decode cX3_address 7 = .ok (.ifnull 7, 3) := by decide +kernel
theorem dX3_address_10 : decode cX3_address 10 = .ok (.iload_n 2, 1) := by decide +kernel
theorem dX3_address_11 : decode cX3_address 11 = .ok (.ifCond .ge 5, 3) := by decide +kernel
theorem dX3_address_14 : decode cX3_address 14 = .ok (.iconst (-1), 1) := by decide +kernel
theorem dX3_address_15 : decode cX3_address 15 = .ok (.ireturn, 1) := by decide +kernel
theorem dX3_address_16 : decode cX3_address 16 = .ok (.aload_n 3, 1) := by decide +kernel
theorem dX3_address_17 : decode cX3_address 17 = .ok (.invokevirtual 86, 3) := by decide +kernel
theorem dX3_address_20 : decode cX3_address 20 = .ok (.ifCond .ne 6, 3) := by decide +kernel
theorem dX3_address_23 : decode cX3_address 23 = .ok (.bipush (-2), 2) := by decide +kernel
theorem dX3_address_25 : decode cX3_address 25 = .ok (.ireturn, 1) := by decide +kernel
theorem dX3_address_26 : decode cX3_address 26 = .ok (.aload_n 0, 1) := by decide +kernel
theorem dX3_address_27 : decode cX3_address 27 = .ok (.aload_n 3, 1) := by decide +kernel
theorem dX3_address_28 : decode cX3_address 28 = .ok (.invokevirtual 90, 3) := by decide +kernel
theorem dX3_address_31 : decode cX3_address 31 = .ok (.iconst 1, 1) := by decide +kernel
theorem dX3_address_32 : decode cX3_address 32 = .ok (.istore 4, 2) := by decide +kernel
theorem dX3_address_34 : decode cX3_address 34 = .ok (.iconst 0, 1) := by decide +kernel
theorem dX3_address_35 : decode cX3_address 35 = .ok (.istore 5, 2) := by decide +kernel
theorem dX3_address_37 : decode cX3_address 37 = .ok (.iload 5, 2) := by decide +kernel
theorem dX3_address_39 : decode cX3_address 39 = .ok (.iload_n 2, 1) := by decide +kernel
theorem dX3_address_40 : decode cX3_address 40 = .ok (.if_icmp .ge 33, 3) := by decide +kernel
theorem dX3_address_43 : decode cX3_address 43 = .ok (.iload 4, 2) := by decide +kernel
theorem dX3_address_45 : decode cX3_address 45 = .ok (.aload_n 3, 1) := by decide +kernel
theorem dX3_address_46 : decode cX3_address 46 = .ok (.getfield 52, 3) := by decide +kernel
theorem dX3_address_49 : decode cX3_address 49 = .ok (.if_icmp .lt 6, 3) := by decide +kernel
theorem dX3_address_52 : decode cX3_address 52 = .ok (.bipush (-4), 2) := by decide +kernel
theorem dX3_address_54 : decode cX3_address 54 = .ok (.ireturn, 1) := by decide +kernel
theorem dX3_address_55 : decode cX3_address 55 = .ok (.aload_n 0, 1) := by decide +kernel
theorem dX3_address_56 : decode cX3_address 56 = .ok (.iload 4, 2) := by decide +kernel
theorem dX3_address_58 : decode cX3_address 58 = .ok (.aload_n 3, 1) := by decide +kernel
theorem dX3_address_59 : decode cX3_address 59 = .ok (.getfield 52, 3) := by decide +kernel
theorem dX3_address_62 : decode cX3_address 62 = .ok (.invokevirtual 94, 3) := by decide +kernel
theorem dX3_address_65 : decode cX3_address 65 = .ok (.istore 4, 2) := by decide +kernel
theorem dX3_address_67 : decode cX3_address 67 = .ok (.iinc 5 1, 3) := by decide +kernel
theorem dX3_address_70 : decode cX3_address 70 = .ok (.goto (-33), 3) := by decide +kernel
theorem dX3_address_73 : decode cX3_address 73 = .ok (.iload 4, 2) := by decide +kernel
theorem dX3_address_75 : decode cX3_address 75 = .ok (.ireturn, 1) := by decide +kernel
theorem dX3_cross_0 : decode cX3_cross 0 = .ok (.aload_n 0, 1) := by decide +kernel
theorem dX3_cross_1 : decode cX3_cross 1 = .ok (.iload_n 1, 1) := by decide +kernel
theorem dX3_cross_2 : decode cX3_cross 2 = .ok (.invokevirtual 39, 3) := by decide +kernel
theorem dX3_cross_5 : decode cX3_cross 5 = .ok (.astore 5, 2) := by decide +kernel
theorem dX3_cross_7 : decode cX3_cross 7 = .ok (.aload_n 0, 1) := by decide +kernel
theorem dX3_cross_8 : decode cX3_cross 8 = .ok (.iload_n 2, 1) := by decide +kernel
theorem dX3_cross_9 : decode cX3_cross 9 = .ok (.invokevirtual 39, 3) := by decide +kernel
theorem dX3_cross_12 : decode cX3_cross 12 = .ok (.astore 6, 2) := by decide +kernel
theorem dX3_cross_14 : decode cX3_cross 14 = .ok (.aload_n 0, 1) := by decide +kernel
theorem dX3_cross_15 : decode cX3_cross 15 = .ok (.iload_n 3, 1) := by decide +kernel
theorem dX3_cross_16 : decode cX3_cross 16 = .ok (.invokevirtual 39, 3) := by decide +kernel
theorem dX3_cross_19 : decode cX3_cross 19 = .ok (.astore 7, 2) := by decide +kernel
theorem dX3_cross_21 : decode cX3_cross 21 = .ok (.aload_n 0, 1) := by decide +kernel
theorem dX3_cross_22 : decode cX3_cross 22 = .ok (.iload 4, 2) := by decide +kernel
theorem dX3_cross_24 : decode cX3_cross 24 = .ok (.invokevirtual 39, 3) := by decide +kernel
theorem dX3_cross_27 : decode cX3_cross 27 = .ok (.astore 8, 2) := by decide +kernel
theorem dX3_cross_29 : decode cX3_cross 29 = .ok (.aload 5, 2) := by decide +kernel
theorem dX3_cross_31 : decode cX3_cross 31 = .ok (.ifnull 18, 3) := by decide +kernel
theorem dX3_cross_34 : decode cX3_cross 34 = .ok (.aload 6, 2) := by decide +kernel
theorem dX3_cross_36 : decode cX3_cross 36 = .ok (.ifnull 13, 3) := by decide +kernel
theorem dX3_cross_39 : decode cX3_cross 39 = .ok (.aload 7, 2) := by decide +kernel
theorem dX3_cross_41 : decode cX3_cross 41 = .ok (.ifnull 8, 3) := by decide +kernel
theorem dX3_cross_44 : decode cX3_cross 44 = .ok (.aload 8, 2) := by decide +kernel
theorem dX3_cross_46 : decode cX3_cross 46 = .ok (.ifnonnull 5, 3) := by decide +kernel
theorem dX3_cross_49 : decode cX3_cross 49 = .ok (.iconst (-1), 1) := by decide +kernel
theorem dX3_cross_50 : decode cX3_cross 50 = .ok (.ireturn, 1) := by decide +kernel
theorem dX3_cross_51 : decode cX3_cross 51 = .ok (.aload 7, 2) := by decide +kernel
theorem dX3_cross_53 : decode cX3_cross 53 = .ok (.aload 5, 2) := by decide +kernel
theorem dX3_cross_55 : decode cX3_cross 55 = .ok (.invokevirtual 97, 3) := by decide +kernel
theorem dX3_cross_58 : decode cX3_cross 58 = .ok (.aload 7, 2) := by decide +kernel
theorem dX3_cross_60 : decode cX3_cross 60 = .ok (.aload 6, 2) := by decide +kernel
theorem dX3_cross_62 : decode cX3_cross 62 = .ok (.invokevirtual 97, 3) := by decide +kernel
theorem dX3_cross_65 : decode cX3_cross 65 = .ok (.imul, 1) := by decide +kernel
theorem dX3_cross_66 : decode cX3_cross 66 = .ok (.istore 9, 2) := by decide +kernel
theorem dX3_cross_68 : decode cX3_cross 68 = .ok (.aload 8, 2) := by decide +kernel
theorem dX3_cross_70 : decode cX3_cross 70 = .ok (.aload 5, 2) := by decide +kernel
theorem dX3_cross_72 : decode cX3_cross 72 = .ok (.invokevirtual 97, 3) := by decide +kernel
theorem dX3_cross_75 : decode cX3_cross 75 = .ok (.aload 8, 2) := by decide +kernel
theorem dX3_cross_77 : decode cX3_cross 77 = .ok (.aload 6, 2) := by decide +kernel
theorem dX3_cross_79 : decode cX3_cross 79 = .ok (.invokevirtual 97, 3) := by decide +kernel
theorem dX3_cross_82 : decode cX3_cross 82 = .ok (.imul, 1) := by decide +kernel
theorem dX3_cross_83 : decode cX3_cross 83 = .ok (.istore 10, 2) := by decide +kernel
theorem dX3_cross_85 : decode cX3_cross 85 = .ok (.iload 9, 2) := by decide +kernel
theorem dX3_cross_87 : decode cX3_cross 87 = .ok (.iload 10, 2) := by decide +kernel
theorem dX3_cross_89 : decode cX3_cross 89 = .ok (.imul, 1) := by decide +kernel
theorem dX3_cross_90 : decode cX3_cross 90 = .ok (.ifCond .ge 7, 3) := by decide +kernel
theorem dX3_cross_93 : decode cX3_cross 93 = .ok (.iconst 1, 1) := by decide +kernel
theorem dX3_cross_94 : decode cX3_cross 94 = .ok (.goto 4, 3) := by decide +kernel
theorem dX3_cross_97 : decode cX3_cross 97 = .ok (.iconst 0, 1) := by decide +kernel
theorem dX3_cross_98 : decode cX3_cross 98 = .ok (.invokestatic 101, 3) := by decide +kernel
theorem dX3_cross_101 : decode cX3_cross 101 = .ok (.ireturn, 1) := by decide +kernel
theorem dX3_meet_0 : decode cX3_meet 0 = .ok (.aload_n 0, 1) := by decide +kernel
theorem dX3_meet_1 : decode cX3_meet 1 = .ok (.iload_n 1, 1) := by decide +kernel
theorem dX3_meet_2 : decode cX3_meet 2 = .ok (.invokevirtual 39, 3) := by decide +kernel
theorem dX3_meet_5 : decode cX3_meet 5 = .ok (.astore 4, 2) := by decide +kernel
theorem dX3_meet_7 : decode cX3_meet 7 = .ok (.aload_n 0, 1) := by decide +kernel
theorem dX3_meet_8 : decode cX3_meet 8 = .ok (.iload_n 2, 1) := by decide +kernel
theorem dX3_meet_9 : decode cX3_meet 9 = .ok (.invokevirtual 39, 3) := by decide +kernel
theorem dX3_meet_12 : decode cX3_meet 12 = .ok (.astore 5, 2) := by decide +kernel
theorem dX3_meet_14 : decode cX3_meet 14 = .ok (.aload_n 0, 1) := by decide +kernel
theorem dX3_meet_15 : decode cX3_meet 15 = .ok (.iload_n 3, 1) := by decide +kernel
theorem dX3_meet_16 : decode cX3_meet 16 = .ok (.invokevirtual 39, 3) := by decide +kernel
theorem dX3_meet_19 : decode cX3_meet 19 = .ok (.astore 6, 2) := by decide +kernel
theorem dX3_meet_21 : decode cX3_meet 21 = .ok (.aload 4, 2) := by decide +kernel
theorem dX3_meet_23 : decode cX3_meet 23 = .ok (.ifnull 13, 3) := by decide +kernel
theorem dX3_meet_26 : decode cX3_meet 26 = .ok (.aload 5, 2) := by decide +kernel
theorem dX3_meet_28 : decode cX3_meet 28 = .ok (.ifnull 8, 3) := by decide +kernel
theorem dX3_meet_31 : decode cX3_meet 31 = .ok (.aload 6, 2) := by decide +kernel
theorem dX3_meet_33 : decode cX3_meet 33 = .ok (.ifnonnull 5, 3) := by decide +kernel
theorem dX3_meet_36 : decode cX3_meet 36 = .ok (.iconst (-1), 1) := by decide +kernel
theorem dX3_meet_37 : decode cX3_meet 37 = .ok (.ireturn, 1) := by decide +kernel
theorem dX3_meet_38 : decode cX3_meet 38 = .ok (.aload 4, 2) := by decide +kernel
theorem dX3_meet_40 : decode cX3_meet 40 = .ok (.getfield 49, 3) := by decide +kernel
theorem dX3_meet_43 : decode cX3_meet 43 = .ok (.aload 5, 2) := by decide +kernel
theorem dX3_meet_45 : decode cX3_meet 45 = .ok (.getfield 49, 3) := by decide +kernel
theorem dX3_meet_48 : decode cX3_meet 48 = .ok (.invokestatic 105, 3) := by decide +kernel
theorem dX3_meet_51 : decode cX3_meet 51 = .ok (.istore 7, 2) := by decide +kernel
theorem dX3_meet_53 : decode cX3_meet 53 = .ok (.aload 4, 2) := by decide +kernel
theorem dX3_meet_55 : decode cX3_meet 55 = .ok (.aload 5, 2) := by decide +kernel
theorem dX3_meet_57 : decode cX3_meet 57 = .ok (.aload 6, 2) := by decide +kernel
theorem dX3_meet_59 : decode cX3_meet 59 = .ok (.iload 7, 2) := by decide +kernel
theorem dX3_meet_61 : decode cX3_meet 61 = .ok (.invokestatic 110, 3) := by decide +kernel
theorem dX3_meet_64 : decode cX3_meet 64 = .ok (.ifCond .eq 22, 3) := by decide +kernel
theorem dX3_meet_67 : decode cX3_meet 67 = .ok (.aload_n 0, 1) := by decide +kernel
theorem dX3_meet_68 : decode cX3_meet 68 = .ok (.aload 4, 2) := by decide +kernel
theorem dX3_meet_70 : decode cX3_meet 70 = .ok (.aload 5, 2) := by decide +kernel
theorem dX3_meet_72 : decode cX3_meet 72 = .ok (.aload 6, 2) := by decide +kernel
theorem dX3_meet_74 : decode cX3_meet 74 = .ok (.iload 7, 2) := by decide +kernel
theorem dX3_meet_76 : decode cX3_meet 76 = .ok (.invokevirtual 114, 3) := by decide +kernel
theorem dX3_meet_79 : decode cX3_meet 79 = .ok (.ifCond .eq 7, 3) := by decide +kernel
theorem dX3_meet_82 : decode cX3_meet 82 = .ok (.iconst 1, 1) := by decide +kernel
theorem dX3_meet_83 : decode cX3_meet 83 = .ok (.goto 4, 3) := by decide +kernel
theorem dX3_meet_86 : decode cX3_meet 86 = .ok (.iconst 0, 1) := by decide +kernel
theorem dX3_meet_87 : decode cX3_meet 87 = .ok (.invokestatic 101, 3) := by decide +kernel
theorem dX3_meet_90 : decode cX3_meet 90 = .ok (.ireturn, 1) := by decide +kernel
theorem dX3_pairs_0 : decode cX3_pairs 0 = .ok (.iload_n 1, 1) := by decide +kernel
theorem dX3_pairs_1 : decode cX3_pairs 1 = .ok (.invokestatic 117, 3) := by decide +kernel
theorem dX3_pairs_4 : decode cX3_pairs 4 = .ok (.ifCond .ne 5, 3) := by decide +kernel
theorem dX3_pairs_7 : decode cX3_pairs 7 = .ok (.iconst (-1), 1) := by decide +kernel
theorem dX3_pairs_8 : decode cX3_pairs 8 = .ok (.ireturn, 1) := by decide +kernel
theorem dX3_pairs_9 : decode cX3_pairs 9 = .ok (.aload_n 0, 1) := by decide +kernel
theorem dX3_pairs_10 : decode cX3_pairs 10 = .ok (.invokevirtual 120, 3) := by decide +kernel
theorem dX3_pairs_13 : decode cX3_pairs 13 = .ok (.iload_n 1, 1) := by decide +kernel
theorem dX3_pairs_14 : decode cX3_pairs 14 = .ok (.invokevirtual 124, 3) := by decide +kernel
theorem dX3_pairs_17 : decode cX3_pairs 17 = .ok (.ireturn, 1) := by decide +kernel
theorem dX3_pair_0 : decode cX3_pair 0 = .ok (.iload_n 1, 1) := by decide +kernel
theorem dX3_pair_1 : decode cX3_pair 1 = .ok (.invokestatic 117, 3) := by decide +kernel
theorem dX3_pair_4 : decode cX3_pair 4 = .ok (.ifCond .eq 14, 3) := by decide +kernel
theorem dX3_pair_7 : decode cX3_pair 7 = .ok (.iload_n 3, 1) := by decide +kernel
theorem dX3_pair_8 : decode cX3_pair 8 = .ok (.invokestatic 59, 3) := by decide +kernel
theorem dX3_pair_11 : decode cX3_pair 11 = .ok (.ifCond .eq 7, 3) := by decide +kernel
theorem dX3_pair_14 : decode cX3_pair 14 = .ok (.iload_n 2, 1) := by decide +kernel
theorem dX3_pair_15 : decode cX3_pair 15 = .ok (.ifCond .ge 5, 3) := by decide +kernel
theorem dX3_pair_18 : decode cX3_pair 18 = .ok (.iconst (-1), 1) := by decide +kernel
theorem dX3_pair_19 : decode cX3_pair 19 = .ok (.ireturn, 1) := by decide +kernel
theorem dX3_pair_20 : decode cX3_pair 20 = .ok (.aload_n 0, 1) := by decide +kernel
theorem dX3_pair_21 : decode cX3_pair 21 = .ok (.invokevirtual 120, 3) := by decide +kernel
theorem dX3_pair_24 : decode cX3_pair 24 = .ok (.astore 4, 2) := by decide +kernel
theorem dX3_pair_26 : decode cX3_pair 26 = .ok (.iload_n 2, 1) := by decide +kernel
theorem dX3_pair_27 : decode cX3_pair 27 = .ok (.aload 4, 2) := by decide +kernel
theorem dX3_pair_29 : decode cX3_pair 29 = .ok (.iload_n 1, 1) := by decide +kernel
theorem dX3_pair_30 : decode cX3_pair 30 = .ok (.invokevirtual 124, 3) := by decide +kernel
theorem dX3_pair_33 : decode cX3_pair 33 = .ok (.if_icmp .lt 6, 3) := by decide +kernel
theorem dX3_pair_36 : decode cX3_pair 36 = .ok (.bipush (-4), 2) := by decide +kernel
theorem dX3_pair_38 : decode cX3_pair 38 = .ok (.ireturn, 1) := by decide +kernel
theorem dX3_pair_39 : decode cX3_pair 39 = .ok (.aload 4, 2) := by decide +kernel
theorem dX3_pair_41 : decode cX3_pair 41 = .ok (.aload 4, 2) := by decide +kernel
theorem dX3_pair_43 : decode cX3_pair 43 = .ok (.iload_n 1, 1) := by decide +kernel
theorem dX3_pair_44 : decode cX3_pair 44 = .ok (.iconst 1, 1) := by decide +kernel
theorem dX3_pair_45 : decode cX3_pair 45 = .ok (.isub, 1) := by decide +kernel
theorem dX3_pair_46 : decode cX3_pair 46 = .ok (.invokevirtual 129, 3) := by decide +kernel
theorem dX3_pair_49 : decode cX3_pair 49 = .ok (.iload_n 2, 1) := by decide +kernel
theorem dX3_pair_50 : decode cX3_pair 50 = .ok (.iadd, 1) := by decide +kernel
theorem dX3_pair_51 : decode cX3_pair 51 = .ok (.iload_n 3, 1) := by decide +kernel
theorem dX3_pair_52 : decode cX3_pair 52 = .ok (.iload_n 1, 1) := by decide +kernel
theorem dX3_pair_53 : decode cX3_pair 53 = .ok (.invokevirtual 132, 3) := by decide +kernel
theorem dX3_pair_56 : decode cX3_pair 56 = .ok (.ireturn, 1) := by decide +kernel
theorem dX3_partner_0 : decode cX3_partner 0 = .ok (.aload_n 0, 1) := by decide +kernel
theorem dX3_partner_1 : decode cX3_partner 1 = .ok (.iload_n 1, 1) := by decide +kernel
theorem dX3_partner_2 : decode cX3_partner 2 = .ok (.invokevirtual 39, 3) := by decide +kernel
theorem dX3_partner_5 : decode cX3_partner 5 = .ok (.astore_n 2, 1) := by decide +kernel
theorem dX3_partner_6 : decode cX3_partner 6 = .ok (.aload_n 2, 1) := by decide +kernel
theorem dX3_partner_7 : decode cX3_partner 7 = .ok (.ifnonnull 5, 3) := by decide +kernel
theorem dX3_partner_10 : decode cX3_partner 10 = .ok (.iconst (-1), 1) := by decide +kernel
theorem dX3_partner_11 : decode cX3_partner 11 = .ok (.ireturn, 1) := by decide +kernel
theorem dX3_partner_12 : decode cX3_partner 12 = .ok (.aload_n 0, 1) := by decide +kernel
theorem dX3_partner_13 : decode cX3_partner 13 = .ok (.aload_n 2, 1) := by decide +kernel
theorem dX3_partner_14 : decode cX3_partner 14 = .ok (.invokevirtual 136, 3) := by decide +kernel
theorem dX3_partner_17 : decode cX3_partner 17 = .ok (.istore_n 3, 1) := by decide +kernel
theorem dX3_partner_18 : decode cX3_partner 18 = .ok (.iload_n 3, 1) := by decide +kernel
theorem dX3_partner_19 : decode cX3_partner 19 = .ok (.ifCond .ge 6, 3) := by decide +kernel
theorem dX3_partner_22 : decode cX3_partner 22 = .ok (.bipush (-2), 2) := by decide +kernel
theorem dX3_partner_24 : decode cX3_partner 24 = .ok (.ireturn, 1) := by decide +kernel
theorem dX3_partner_25 : decode cX3_partner 25 = .ok (.aload_n 0, 1) := by decide +kernel
theorem dX3_partner_26 : decode cX3_partner 26 = .ok (.aload_n 0, 1) := by decide +kernel
theorem dX3_partner_27 : decode cX3_partner 27 = .ok (.invokevirtual 120, 3) := by decide +kernel
theorem dX3_partner_30 : decode cX3_partner 30 = .ok (.iload_n 3, 1) := by decide +kernel
theorem dX3_partner_31 : decode cX3_partner 31 = .ok (.aload_n 2, 1) := by decide +kernel
theorem dX3_partner_32 : decode cX3_partner 32 = .ok (.invokevirtual 139, 3) := by decide +kernel
theorem dX3_partner_35 : decode cX3_partner 35 = .ok (.invokevirtual 143, 3) := by decide +kernel
theorem dX3_partner_38 : decode cX3_partner 38 = .ok (.i2l, 1) := by decide +kernel
theorem dX3_partner_39 : decode cX3_partner 39 = .ok (.ldc2_w 146, 3) := by decide +kernel
theorem dX3_partner_42 : decode cX3_partner 42 = .ok (.invokevirtual 35, 3) := by decide +kernel
theorem dX3_partner_45 : decode cX3_partner 45 = .ok (.ireturn, 1) := by decide +kernel
theorem dX3_held_0 : decode cX3_held 0 = .ok (.aload_n 0, 1) := by decide +kernel
theorem dX3_held_1 : decode cX3_held 1 = .ok (.iload_n 1, 1) := by decide +kernel
theorem dX3_held_2 : decode cX3_held 2 = .ok (.invokevirtual 39, 3) := by decide +kernel
theorem dX3_held_5 : decode cX3_held 5 = .ok (.astore_n 3, 1) := by decide +kernel
theorem dX3_held_6 : decode cX3_held 6 = .ok (.aload_n 3, 1) := by decide +kernel
theorem dX3_held_7 : decode cX3_held 7 = .ok (.ifnull 10, 3) := by decide +kernel
theorem dX3_held_10 : decode cX3_held 10 = .ok (.iload_n 2, 1) := by decide +kernel
theorem dX3_held_11 : decode cX3_held 11 = .ok (.invokestatic 117, 3) := by decide +kernel
theorem dX3_held_14 : decode cX3_held 14 = .ok (.ifCond .ne 5, 3) := by decide +kernel
theorem dX3_held_17 : decode cX3_held 17 = .ok (.iconst (-1), 1) := by decide +kernel
theorem dX3_held_18 : decode cX3_held 18 = .ok (.ireturn, 1) := by decide +kernel
theorem dX3_held_19 : decode cX3_held 19 = .ok (.aload_n 0, 1) := by decide +kernel
theorem dX3_held_20 : decode cX3_held 20 = .ok (.invokevirtual 120, 3) := by decide +kernel
theorem dX3_held_23 : decode cX3_held 23 = .ok (.astore 4, 2) := by decide +kernel
theorem dX3_held_25 : decode cX3_held 25 = .ok (.iconst 0, 1) := by decide +kernel
theorem dX3_held_26 : decode cX3_held 26 = .ok (.istore 5, 2) := by decide +kernel
theorem dX3_held_28 : decode cX3_held 28 = .ok (.iconst 0, 1) := by decide +kernel
theorem dX3_held_29 : decode cX3_held 29 = .ok (.istore 6, 2) := by decide +kernel
theorem dX3_held_31 : decode cX3_held 31 = .ok (.iload 6, 2) := by decide +kernel
theorem dX3_held_33 : decode cX3_held 33 = .ok (.aload 4, 2) := by decide +kernel
theorem dX3_held_35 : decode cX3_held 35 = .ok (.iload_n 2, 1) := by decide +kernel
theorem dX3_held_36 : decode cX3_held 36 = .ok (.invokevirtual 129, 3) := by decide +kernel
theorem dX3_held_39 : decode cX3_held 39 = .ok (.if_icmp .ge 23, 3) := by decide +kernel
theorem dX3_held_42 : decode cX3_held 42 = .ok (.aload 4, 2) := by decide +kernel
theorem dX3_held_44 : decode cX3_held 44 = .ok (.iload 6, 2) := by decide +kernel
theorem dX3_held_46 : decode cX3_held 46 = .ok (.aload_n 3, 1) := by decide +kernel
theorem dX3_held_47 : decode cX3_held 47 = .ok (.invokevirtual 148, 3) := by decide +kernel
theorem dX3_held_50 : decode cX3_held 50 = .ok (.ifCond .eq 6, 3) := by decide +kernel
theorem dX3_held_53 : decode cX3_held 53 = .ok (.iinc 5 1, 3) := by decide +kernel
theorem dX3_held_56 : decode cX3_held 56 = .ok (.iinc 6 1, 3) := by decide +kernel
theorem dX3_held_59 : decode cX3_held 59 = .ok (.goto (-28), 3) := by decide +kernel
theorem dX3_held_62 : decode cX3_held 62 = .ok (.iload 5, 2) := by decide +kernel
theorem dX3_held_64 : decode cX3_held 64 = .ok (.ireturn, 1) := by decide +kernel
theorem dX3_holder_0 : decode cX3_holder 0 = .ok (.aload_n 0, 1) := by decide +kernel
theorem dX3_holder_1 : decode cX3_holder 1 = .ok (.iload_n 1, 1) := by decide +kernel
theorem dX3_holder_2 : decode cX3_holder 2 = .ok (.invokevirtual 39, 3) := by decide +kernel
theorem dX3_holder_5 : decode cX3_holder 5 = .ok (.astore 5, 2) := by decide +kernel
theorem dX3_holder_7 : decode cX3_holder 7 = .ok (.aload 5, 2) := by decide +kernel
theorem dX3_holder_9 : decode cX3_holder 9 = .ok (.ifnull 22, 3) := by decide +kernel
theorem dX3_holder_12 : decode cX3_holder 12 = .ok (.iload_n 2, 1) := by decide +kernel
theorem dX3_holder_13 : decode cX3_holder 13 = .ok (.invokestatic 117, 3) := by decide +kernel
theorem dX3_holder_16 : decode cX3_holder 16 = .ok (.ifCond .eq 15, 3) := by decide +kernel
theorem dX3_holder_19 : decode cX3_holder 19 = .ok (.iload 4, 2) := by decide +kernel
theorem dX3_holder_21 : decode cX3_holder 21 = .ok (.invokestatic 59, 3) := by decide +kernel
theorem dX3_holder_24 : decode cX3_holder 24 = .ok (.ifCond .eq 7, 3) := by decide +kernel
theorem dX3_holder_27 : decode cX3_holder 27 = .ok (.iload_n 3, 1) := by decide +kernel
theorem dX3_holder_28 : decode cX3_holder 28 = .ok (.ifCond .ge 5, 3) := by decide +kernel
theorem dX3_holder_31 : decode cX3_holder 31 = .ok (.iconst (-1), 1) := by decide +kernel
theorem dX3_holder_32 : decode cX3_holder 32 = .ok (.ireturn, 1) := by decide +kernel
theorem dX3_holder_33 : decode cX3_holder 33 = .ok (.aload_n 0, 1) := by decide +kernel
theorem dX3_holder_34 : decode cX3_holder 34 = .ok (.invokevirtual 120, 3) := by decide +kernel
theorem dX3_holder_37 : decode cX3_holder 37 = .ok (.astore 6, 2) := by decide +kernel
theorem dX3_holder_39 : decode cX3_holder 39 = .ok (.aload 6, 2) := by decide +kernel
theorem dX3_holder_41 : decode cX3_holder 41 = .ok (.aload 5, 2) := by decide +kernel
theorem dX3_holder_43 : decode cX3_holder 43 = .ok (.iload_n 2, 1) := by decide +kernel
theorem dX3_holder_44 : decode cX3_holder 44 = .ok (.iconst (-1), 1) := by decide +kernel
theorem dX3_holder_45 : decode cX3_holder 45 = .ok (.invokevirtual 152, 3) := by decide +kernel
theorem dX3_holder_48 : decode cX3_holder 48 = .ok (.istore 7, 2) := by decide +kernel
theorem dX3_holder_50 : decode cX3_holder 50 = .ok (.iconst 0, 1) := by decide +kernel
theorem dX3_holder_51 : decode cX3_holder 51 = .ok (.istore 8, 2) := by decide +kernel
theorem dX3_holder_53 : decode cX3_holder 53 = .ok (.iload 8, 2) := by decide +kernel
theorem dX3_holder_55 : decode cX3_holder 55 = .ok (.iload_n 3, 1) := by decide +kernel
theorem dX3_holder_56 : decode cX3_holder 56 = .ok (.if_icmp .ge 26, 3) := by decide +kernel
theorem dX3_holder_59 : decode cX3_holder 59 = .ok (.iload 7, 2) := by decide +kernel
theorem dX3_holder_61 : decode cX3_holder 61 = .ok (.ifCond .lt 21, 3) := by decide +kernel
theorem dX3_holder_64 : decode cX3_holder 64 = .ok (.aload 6, 2) := by decide +kernel
theorem dX3_holder_66 : decode cX3_holder 66 = .ok (.aload 5, 2) := by decide +kernel
theorem dX3_holder_68 : decode cX3_holder 68 = .ok (.iload_n 2, 1) := by decide +kernel
theorem dX3_holder_69 : decode cX3_holder 69 = .ok (.iload 7, 2) := by decide +kernel
theorem dX3_holder_71 : decode cX3_holder 71 = .ok (.invokevirtual 152, 3) := by decide +kernel
theorem dX3_holder_74 : decode cX3_holder 74 = .ok (.istore 7, 2) := by decide +kernel
theorem dX3_holder_76 : decode cX3_holder 76 = .ok (.iinc 8 1, 3) := by decide +kernel
theorem dX3_holder_79 : decode cX3_holder 79 = .ok (.goto (-26), 3) := by decide +kernel
theorem dX3_holder_82 : decode cX3_holder 82 = .ok (.iload 7, 2) := by decide +kernel
theorem dX3_holder_84 : decode cX3_holder 84 = .ok (.ifCond .ge 6, 3) := by decide +kernel
theorem dX3_holder_87 : decode cX3_holder 87 = .ok (.bipush (-4), 2) := by decide +kernel
theorem dX3_holder_89 : decode cX3_holder 89 = .ok (.ireturn, 1) := by decide +kernel
theorem dX3_holder_90 : decode cX3_holder 90 = .ok (.aload 6, 2) := by decide +kernel
theorem dX3_holder_92 : decode cX3_holder 92 = .ok (.iload 7, 2) := by decide +kernel
theorem dX3_holder_94 : decode cX3_holder 94 = .ok (.invokevirtual 156, 3) := by decide +kernel
theorem dX3_holder_97 : decode cX3_holder 97 = .ok (.istore 8, 2) := by decide +kernel
theorem dX3_holder_99 : decode cX3_holder 99 = .ok (.iload 4, 2) := by decide +kernel
theorem dX3_holder_101 : decode cX3_holder 101 = .ok (.ifCond .ne 8, 3) := by decide +kernel
theorem dX3_holder_104 : decode cX3_holder 104 = .ok (.iload 8, 2) := by decide +kernel
theorem dX3_holder_106 : decode cX3_holder 106 = .ok (.goto 15, 3) := by decide +kernel
theorem dX3_holder_109 : decode cX3_holder 109 = .ok (.iload 7, 2) := by decide +kernel
theorem dX3_holder_111 : decode cX3_holder 111 = .ok (.aload 6, 2) := by decide +kernel
theorem dX3_holder_113 : decode cX3_holder 113 = .ok (.iload 8, 2) := by decide +kernel
theorem dX3_holder_115 : decode cX3_holder 115 = .ok (.iconst 1, 1) := by decide +kernel
theorem dX3_holder_116 : decode cX3_holder 116 = .ok (.isub, 1) := by decide +kernel
theorem dX3_holder_117 : decode cX3_holder 117 = .ok (.invokevirtual 129, 3) := by decide +kernel
theorem dX3_holder_120 : decode cX3_holder 120 = .ok (.isub, 1) := by decide +kernel
theorem dX3_holder_121 : decode cX3_holder 121 = .ok (.ireturn, 1) := by decide +kernel
theorem dX3_holds_0 : decode cX3_holds 0 = .ok (.aload_n 0, 1) := by decide +kernel
theorem dX3_holds_1 : decode cX3_holds 1 = .ok (.iload_n 1, 1) := by decide +kernel
theorem dX3_holds_2 : decode cX3_holds 2 = .ok (.invokevirtual 39, 3) := by decide +kernel
theorem dX3_holds_5 : decode cX3_holds 5 = .ok (.astore_n 3, 1) := by decide +kernel
theorem dX3_holds_6 : decode cX3_holds 6 = .ok (.aload_n 0, 1) := by decide +kernel
theorem dX3_holds_7 : decode cX3_holds 7 = .ok (.iload_n 2, 1) := by decide +kernel
theorem dX3_holds_8 : decode cX3_holds 8 = .ok (.invokevirtual 39, 3) := by decide +kernel
theorem dX3_holds_11 : decode cX3_holds 11 = .ok (.astore 4, 2) := by decide +kernel
theorem dX3_holds_13 : decode cX3_holds 13 = .ok (.aload_n 3, 1) := by decide +kernel
theorem dX3_holds_14 : decode cX3_holds 14 = .ok (.ifnull 8, 3) := by decide +kernel
theorem dX3_holds_17 : decode cX3_holds 17 = .ok (.aload 4, 2) := by decide +kernel
theorem dX3_holds_19 : decode cX3_holds 19 = .ok (.ifnonnull 5, 3) := by decide +kernel
theorem dX3_holds_22 : decode cX3_holds 22 = .ok (.iconst (-1), 1) := by decide +kernel
theorem dX3_holds_23 : decode cX3_holds 23 = .ok (.ireturn, 1) := by decide +kernel
theorem dX3_holds_24 : decode cX3_holds 24 = .ok (.aload_n 0, 1) := by decide +kernel
theorem dX3_holds_25 : decode cX3_holds 25 = .ok (.aload_n 3, 1) := by decide +kernel
theorem dX3_holds_26 : decode cX3_holds 26 = .ok (.invokevirtual 136, 3) := by decide +kernel
theorem dX3_holds_29 : decode cX3_holds 29 = .ok (.istore 5, 2) := by decide +kernel
theorem dX3_holds_31 : decode cX3_holds 31 = .ok (.aload_n 0, 1) := by decide +kernel
theorem dX3_holds_32 : decode cX3_holds 32 = .ok (.aload 4, 2) := by decide +kernel
theorem dX3_holds_34 : decode cX3_holds 34 = .ok (.invokevirtual 136, 3) := by decide +kernel
theorem dX3_holds_37 : decode cX3_holds 37 = .ok (.istore 6, 2) := by decide +kernel
theorem dX3_holds_39 : decode cX3_holds 39 = .ok (.iload 5, 2) := by decide +kernel
theorem dX3_holds_41 : decode cX3_holds 41 = .ok (.ifCond .lt 8, 3) := by decide +kernel
theorem dX3_holds_44 : decode cX3_holds 44 = .ok (.iload 6, 2) := by decide +kernel
theorem dX3_holds_46 : decode cX3_holds 46 = .ok (.ifCond .ge 6, 3) := by decide +kernel
theorem dX3_holds_49 : decode cX3_holds 49 = .ok (.bipush (-2), 2) := by decide +kernel
theorem dX3_holds_51 : decode cX3_holds 51 = .ok (.ireturn, 1) := by decide +kernel
theorem dX3_holds_52 : decode cX3_holds 52 = .ok (.aload_n 0, 1) := by decide +kernel
theorem dX3_holds_53 : decode cX3_holds 53 = .ok (.invokevirtual 120, 3) := by decide +kernel
theorem dX3_holds_56 : decode cX3_holds 56 = .ok (.iload 5, 2) := by decide +kernel
theorem dX3_holds_58 : decode cX3_holds 58 = .ok (.iload 6, 2) := by decide +kernel
theorem dX3_holds_60 : decode cX3_holds 60 = .ok (.invokevirtual 159, 3) := by decide +kernel
theorem dX3_holds_63 : decode cX3_holds 63 = .ok (.invokestatic 101, 3) := by decide +kernel
theorem dX3_holds_66 : decode cX3_holds 66 = .ok (.ireturn, 1) := by decide +kernel
theorem dX3_between_0 : decode cX3_between 0 = .ok (.aload_n 0, 1) := by decide +kernel
theorem dX3_between_1 : decode cX3_between 1 = .ok (.iload_n 1, 1) := by decide +kernel
theorem dX3_between_2 : decode cX3_between 2 = .ok (.invokevirtual 39, 3) := by decide +kernel
theorem dX3_between_5 : decode cX3_between 5 = .ok (.astore 4, 2) := by decide +kernel
theorem dX3_between_7 : decode cX3_between 7 = .ok (.aload_n 0, 1) := by decide +kernel
theorem dX3_between_8 : decode cX3_between 8 = .ok (.iload_n 2, 1) := by decide +kernel
theorem dX3_between_9 : decode cX3_between 9 = .ok (.invokevirtual 39, 3) := by decide +kernel
theorem dX3_between_12 : decode cX3_between 12 = .ok (.astore 5, 2) := by decide +kernel
theorem dX3_between_14 : decode cX3_between 14 = .ok (.aload 4, 2) := by decide +kernel
theorem dX3_between_16 : decode cX3_between 16 = .ok (.ifnull 15, 3) := by decide +kernel
theorem dX3_between_19 : decode cX3_between 19 = .ok (.aload 5, 2) := by decide +kernel
theorem dX3_between_21 : decode cX3_between 21 = .ok (.ifnull 10, 3) := by decide +kernel
theorem dX3_between_24 : decode cX3_between 24 = .ok (.iload_n 3, 1) := by decide +kernel
theorem dX3_between_25 : decode cX3_between 25 = .ok (.invokestatic 117, 3) := by decide +kernel
theorem dX3_between_28 : decode cX3_between 28 = .ok (.ifCond .ne 5, 3) := by decide +kernel
theorem dX3_between_31 : decode cX3_between 31 = .ok (.iconst (-1), 1) := by decide +kernel
theorem dX3_between_32 : decode cX3_between 32 = .ok (.ireturn, 1) := by decide +kernel
theorem dX3_between_33 : decode cX3_between 33 = .ok (.aload_n 0, 1) := by decide +kernel
theorem dX3_between_34 : decode cX3_between 34 = .ok (.aload 4, 2) := by decide +kernel
theorem dX3_between_36 : decode cX3_between 36 = .ok (.invokevirtual 136, 3) := by decide +kernel
theorem dX3_between_39 : decode cX3_between 39 = .ok (.istore 6, 2) := by decide +kernel
theorem dX3_between_41 : decode cX3_between 41 = .ok (.aload_n 0, 1) := by decide +kernel
theorem dX3_between_42 : decode cX3_between 42 = .ok (.aload 5, 2) := by decide +kernel
theorem dX3_between_44 : decode cX3_between 44 = .ok (.invokevirtual 136, 3) := by decide +kernel
theorem dX3_between_47 : decode cX3_between 47 = .ok (.istore 7, 2) := by decide +kernel
theorem dX3_between_49 : decode cX3_between 49 = .ok (.iload 6, 2) := by decide +kernel
theorem dX3_between_51 : decode cX3_between 51 = .ok (.ifCond .lt 8, 3) := by decide +kernel
theorem dX3_between_54 : decode cX3_between 54 = .ok (.iload 7, 2) := by decide +kernel
theorem dX3_between_56 : decode cX3_between 56 = .ok (.ifCond .ge 6, 3) := by decide +kernel
theorem dX3_between_59 : decode cX3_between 59 = .ok (.bipush (-2), 2) := by decide +kernel
theorem dX3_between_61 : decode cX3_between 61 = .ok (.ireturn, 1) := by decide +kernel
theorem dX3_between_62 : decode cX3_between 62 = .ok (.aload_n 0, 1) := by decide +kernel
theorem dX3_between_63 : decode cX3_between 63 = .ok (.invokevirtual 120, 3) := by decide +kernel
theorem dX3_between_66 : decode cX3_between 66 = .ok (.astore 8, 2) := by decide +kernel
theorem dX3_between_68 : decode cX3_between 68 = .ok (.aload 8, 2) := by decide +kernel
theorem dX3_between_70 : decode cX3_between 70 = .ok (.iload 6, 2) := by decide +kernel
theorem dX3_between_72 : decode cX3_between 72 = .ok (.iload 7, 2) := by decide +kernel
theorem dX3_between_74 : decode cX3_between 74 = .ok (.invokevirtual 159, 3) := by decide +kernel
theorem dX3_between_77 : decode cX3_between 77 = .ok (.ifCond .eq 14, 3) := by decide +kernel
theorem dX3_between_80 : decode cX3_between 80 = .ok (.aload 8, 2) := by decide +kernel
theorem dX3_between_82 : decode cX3_between 82 = .ok (.iload 6, 2) := by decide +kernel
theorem dX3_between_84 : decode cX3_between 84 = .ok (.iload 7, 2) := by decide +kernel
theorem dX3_between_86 : decode cX3_between 86 = .ok (.iload_n 3, 1) := by decide +kernel
theorem dX3_between_87 : decode cX3_between 87 = .ok (.invokevirtual 163, 3) := by decide +kernel
theorem dX3_between_90 : decode cX3_between 90 = .ok (.ireturn, 1) := by decide +kernel
theorem dX3_between_91 : decode cX3_between 91 = .ok (.aload 8, 2) := by decide +kernel
theorem dX3_between_93 : decode cX3_between 93 = .ok (.iload 7, 2) := by decide +kernel
theorem dX3_between_95 : decode cX3_between 95 = .ok (.iload 6, 2) := by decide +kernel
theorem dX3_between_97 : decode cX3_between 97 = .ok (.invokevirtual 159, 3) := by decide +kernel
theorem dX3_between_100 : decode cX3_between 100 = .ok (.ifCond .eq 16, 3) := by decide +kernel
theorem dX3_between_103 : decode cX3_between 103 = .ok (.aload 8, 2) := by decide +kernel
theorem dX3_between_105 : decode cX3_between 105 = .ok (.iload 7, 2) := by decide +kernel
theorem dX3_between_107 : decode cX3_between 107 = .ok (.iload 6, 2) := by decide +kernel
theorem dX3_between_109 : decode cX3_between 109 = .ok (.iload_n 3, 1) := by decide +kernel
theorem dX3_between_110 : decode cX3_between 110 = .ok (.invokevirtual 163, 3) := by decide +kernel
theorem dX3_between_113 : decode cX3_between 113 = .ok (.goto 5, 3) := by decide +kernel
theorem dX3_between_116 : decode cX3_between 116 = .ok (.bipush (-2), 2) := by decide +kernel
theorem dX3_between_118 : decode cX3_between 118 = .ok (.ireturn, 1) := by decide +kernel
theorem dX3_wide_0 : decode cX3_wide 0 = .ok (.aload_n 0, 1) := by decide +kernel
theorem dX3_wide_1 : decode cX3_wide 1 = .ok (.iload_n 1, 1) := by decide +kernel
theorem dX3_wide_2 : decode cX3_wide 2 = .ok (.invokevirtual 39, 3) := by decide +kernel
theorem dX3_wide_5 : decode cX3_wide 5 = .ok (.astore_n 3, 1) := by decide +kernel
theorem dX3_wide_6 : decode cX3_wide 6 = .ok (.aload_n 3, 1) := by decide +kernel
theorem dX3_wide_7 : decode cX3_wide 7 = .ok (.ifnull 10, 3) := by decide +kernel
theorem dX3_wide_10 : decode cX3_wide 10 = .ok (.iload_n 2, 1) := by decide +kernel
theorem dX3_wide_11 : decode cX3_wide 11 = .ok (.invokestatic 73, 3) := by decide +kernel
theorem dX3_wide_14 : decode cX3_wide 14 = .ok (.ifCond .ne 5, 3) := by decide +kernel
theorem dX3_wide_17 : decode cX3_wide 17 = .ok (.iconst (-1), 1) := by decide +kernel
theorem dX3_wide_18 : decode cX3_wide 18 = .ok (.ireturn, 1) := by decide +kernel
theorem dX3_wide_19 : decode cX3_wide 19 = .ok (.aload_n 0, 1) := by decide +kernel
theorem dX3_wide_20 : decode cX3_wide 20 = .ok (.aload_n 3, 1) := by decide +kernel
theorem dX3_wide_21 : decode cX3_wide 21 = .ok (.invokevirtual 136, 3) := by decide +kernel
theorem dX3_wide_24 : decode cX3_wide 24 = .ok (.istore 4, 2) := by decide +kernel
theorem dX3_wide_26 : decode cX3_wide 26 = .ok (.iload 4, 2) := by decide +kernel
theorem dX3_wide_28 : decode cX3_wide 28 = .ok (.ifCond .ge 6, 3) := by decide +kernel
theorem dX3_wide_31 : decode cX3_wide 31 = .ok (.bipush (-2), 2) := by decide +kernel
theorem dX3_wide_33 : decode cX3_wide 33 = .ok (.ireturn, 1) := by decide +kernel
theorem dX3_wide_34 : decode cX3_wide 34 = .ok (.iconst 1, 1) := by decide +kernel
theorem dX3_wide_35 : decode cX3_wide 35 = .ok (.istore 5, 2) := by decide +kernel
theorem dX3_wide_37 : decode cX3_wide 37 = .ok (.iload 5, 2) := by decide +kernel
theorem dX3_wide_39 : decode cX3_wide 39 = .ok (.iload_n 2, 1) := by decide +kernel
theorem dX3_wide_40 : decode cX3_wide 40 = .ok (.if_icmp .gt 30, 3) := by decide +kernel
theorem dX3_wide_43 : decode cX3_wide 43 = .ok (.aload_n 0, 1) := by decide +kernel
theorem dX3_wide_44 : decode cX3_wide 44 = .ok (.getfield 21, 3) := by decide +kernel
theorem dX3_wide_47 : decode cX3_wide 47 = .ok (.iload 5, 2) := by decide +kernel
theorem dX3_wide_49 : decode cX3_wide 49 = .ok (.aload_n 0, 1) := by decide +kernel
theorem dX3_wide_50 : decode cX3_wide 50 = .ok (.invokevirtual 120, 3) := by decide +kernel
theorem dX3_wide_53 : decode cX3_wide 53 = .ok (.iload 4, 2) := by decide +kernel
theorem dX3_wide_55 : decode cX3_wide 55 = .ok (.iload 5, 2) := by decide +kernel
theorem dX3_wide_57 : decode cX3_wide 57 = .ok (.invokestatic 76, 3) := by decide +kernel
theorem dX3_wide_60 : decode cX3_wide 60 = .ok (.invokevirtual 166, 3) := by decide +kernel
theorem dX3_wide_63 : decode cX3_wide 63 = .ok (.iastore, 1) := by decide +kernel
theorem dX3_wide_64 : decode cX3_wide 64 = .ok (.iinc 5 1, 3) := by decide +kernel
theorem dX3_wide_67 : decode cX3_wide 67 = .ok (.goto (-30), 3) := by decide +kernel
theorem dX3_wide_70 : decode cX3_wide 70 = .ok (.aload_n 0, 1) := by decide +kernel
theorem dX3_wide_71 : decode cX3_wide 71 = .ok (.iload_n 2, 1) := by decide +kernel
theorem dX3_wide_72 : decode cX3_wide 72 = .ok (.invokevirtual 79, 3) := by decide +kernel
theorem dX3_wide_75 : decode cX3_wide 75 = .ok (.ireturn, 1) := by decide +kernel
theorem dX3_digit_0 : decode cX3_digit 0 = .ok (.aload_n 0, 1) := by decide +kernel
theorem dX3_digit_1 : decode cX3_digit 1 = .ok (.iload_n 1, 1) := by decide +kernel
theorem dX3_digit_2 : decode cX3_digit 2 = .ok (.invokevirtual 39, 3) := by decide +kernel
theorem dX3_digit_5 : decode cX3_digit 5 = .ok (.astore_n 3, 1) := by decide +kernel
theorem dX3_digit_6 : decode cX3_digit 6 = .ok (.aload_n 3, 1) := by decide +kernel
theorem dX3_digit_7 : decode cX3_digit 7 = .ok (.ifnull 10, 3) := by decide +kernel
theorem dX3_digit_10 : decode cX3_digit 10 = .ok (.iload_n 2, 1) := by decide +kernel
theorem dX3_digit_11 : decode cX3_digit 11 = .ok (.invokestatic 55, 3) := by decide +kernel
theorem dX3_digit_14 : decode cX3_digit 14 = .ok (.ifCond .ne 5, 3) := by decide +kernel
theorem dX3_digit_17 : decode cX3_digit 17 = .ok (.iconst (-1), 1) := by decide +kernel
theorem dX3_digit_18 : decode cX3_digit 18 = .ok (.ireturn, 1) := by decide +kernel
theorem dX3_digit_19 : decode cX3_digit 19 = .ok (.aload_n 3, 1) := by decide +kernel
theorem dX3_digit_20 : decode cX3_digit 20 = .ok (.invokevirtual 86, 3) := by decide +kernel
theorem dX3_digit_23 : decode cX3_digit 23 = .ok (.ifCond .ne 6, 3) := by decide +kernel
theorem dX3_digit_26 : decode cX3_digit 26 = .ok (.bipush (-2), 2) := by decide +kernel
theorem dX3_digit_28 : decode cX3_digit 28 = .ok (.ireturn, 1) := by decide +kernel
theorem dX3_digit_29 : decode cX3_digit 29 = .ok (.iconst 2, 1) := by decide +kernel
theorem dX3_digit_30 : decode cX3_digit 30 = .ok (.aload_n 3, 1) := by decide +kernel
theorem dX3_digit_31 : decode cX3_digit 31 = .ok (.iload_n 2, 1) := by decide +kernel
theorem dX3_digit_32 : decode cX3_digit 32 = .ok (.invokevirtual 62, 3) := by decide +kernel
theorem dX3_digit_35 : decode cX3_digit 35 = .ok (.imul, 1) := by decide +kernel
theorem dX3_digit_36 : decode cX3_digit 36 = .ok (.aload_n 3, 1) := by decide +kernel
theorem dX3_digit_37 : decode cX3_digit 37 = .ok (.getfield 46, 3) := by decide +kernel
theorem dX3_digit_40 : decode cX3_digit 40 = .ok (.if_icmp .lt 7, 3) := by decide +kernel
theorem dX3_digit_43 : decode cX3_digit 43 = .ok (.iconst 1, 1) := by decide +kernel
theorem dX3_digit_44 : decode cX3_digit 44 = .ok (.goto 4, 3) := by decide +kernel
theorem dX3_digit_47 : decode cX3_digit 47 = .ok (.iconst 0, 1) := by decide +kernel
theorem dX3_digit_48 : decode cX3_digit 48 = .ok (.invokestatic 101, 3) := by decide +kernel
theorem dX3_digit_51 : decode cX3_digit 51 = .ok (.ireturn, 1) := by decide +kernel
theorem dX3_put_0 : decode cX3_put 0 = .ok (.aload_n 0, 1) := by decide +kernel
theorem dX3_put_1 : decode cX3_put 1 = .ok (.iload_n 1, 1) := by decide +kernel
theorem dX3_put_2 : decode cX3_put 2 = .ok (.invokevirtual 39, 3) := by decide +kernel
theorem dX3_put_5 : decode cX3_put 5 = .ok (.astore_n 3, 1) := by decide +kernel
theorem dX3_put_6 : decode cX3_put 6 = .ok (.aload_n 0, 1) := by decide +kernel
theorem dX3_put_7 : decode cX3_put 7 = .ok (.iload_n 2, 1) := by decide +kernel
theorem dX3_put_8 : decode cX3_put 8 = .ok (.invokevirtual 39, 3) := by decide +kernel
theorem dX3_put_11 : decode cX3_put 11 = .ok (.astore 4, 2) := by decide +kernel
theorem dX3_put_13 : decode cX3_put 13 = .ok (.aload_n 3, 1) := by decide +kernel
theorem dX3_put_14 : decode cX3_put 14 = .ok (.ifnull 8, 3) := by decide +kernel
theorem dX3_put_17 : decode cX3_put 17 = .ok (.aload 4, 2) := by decide +kernel
theorem dX3_put_19 : decode cX3_put 19 = .ok (.ifnonnull 5, 3) := by decide +kernel
theorem dX3_put_22 : decode cX3_put 22 = .ok (.iconst (-1), 1) := by decide +kernel
theorem dX3_put_23 : decode cX3_put 23 = .ok (.ireturn, 1) := by decide +kernel
theorem dX3_put_24 : decode cX3_put 24 = .ok (.aload_n 0, 1) := by decide +kernel
theorem dX3_put_25 : decode cX3_put 25 = .ok (.aload_n 3, 1) := by decide +kernel
theorem dX3_put_26 : decode cX3_put 26 = .ok (.aload 4, 2) := by decide +kernel
theorem dX3_put_28 : decode cX3_put 28 = .ok (.invokevirtual 169, 3) := by decide +kernel
theorem dX3_put_31 : decode cX3_put 31 = .ok (.istore 5, 2) := by decide +kernel
theorem dX3_put_33 : decode cX3_put 33 = .ok (.iload 5, 2) := by decide +kernel
theorem dX3_put_35 : decode cX3_put 35 = .ok (.ifCond .lt 18, 3) := by decide +kernel
theorem dX3_put_38 : decode cX3_put 38 = .ok (.aload_n 3, 1) := by decide +kernel
theorem dX3_put_39 : decode cX3_put 39 = .ok (.getfield 52, 3) := by decide +kernel
theorem dX3_put_42 : decode cX3_put 42 = .ok (.aload 4, 2) := by decide +kernel
theorem dX3_put_44 : decode cX3_put 44 = .ok (.getfield 52, 3) := by decide +kernel
theorem dX3_put_47 : decode cX3_put 47 = .ok (.imul, 1) := by decide +kernel
theorem dX3_put_48 : decode cX3_put 48 = .ok (.bipush 20, 2) := by decide +kernel
theorem dX3_put_50 : decode cX3_put 50 = .ok (.if_icmp .le 6, 3) := by decide +kernel
theorem dX3_put_53 : decode cX3_put 53 = .ok (.bipush (-2), 2) := by decide +kernel
theorem dX3_put_55 : decode cX3_put 55 = .ok (.ireturn, 1) := by decide +kernel
theorem dX3_put_56 : decode cX3_put 56 = .ok (.aload_n 0, 1) := by decide +kernel
theorem dX3_put_57 : decode cX3_put 57 = .ok (.invokevirtual 120, 3) := by decide +kernel
theorem dX3_put_60 : decode cX3_put 60 = .ok (.iload 5, 2) := by decide +kernel
theorem dX3_put_62 : decode cX3_put 62 = .ok (.iconst 0, 1) := by decide +kernel
theorem dX3_put_63 : decode cX3_put 63 = .ok (.aload_n 3, 1) := by decide +kernel
theorem dX3_put_64 : decode cX3_put 64 = .ok (.getfield 52, 3) := by decide +kernel
theorem dX3_put_67 : decode cX3_put 67 = .ok (.invokevirtual 132, 3) := by decide +kernel
theorem dX3_put_70 : decode cX3_put 70 = .ok (.istore 6, 2) := by decide +kernel
theorem dX3_put_72 : decode cX3_put 72 = .ok (.aload_n 0, 1) := by decide +kernel
theorem dX3_put_73 : decode cX3_put 73 = .ok (.invokevirtual 120, 3) := by decide +kernel
theorem dX3_put_76 : decode cX3_put 76 = .ok (.iload 5, 2) := by decide +kernel
theorem dX3_put_78 : decode cX3_put 78 = .ok (.iconst 1, 1) := by decide +kernel
theorem dX3_put_79 : decode cX3_put 79 = .ok (.aload_n 3, 1) := by decide +kernel
theorem dX3_put_80 : decode cX3_put 80 = .ok (.getfield 52, 3) := by decide +kernel
theorem dX3_put_83 : decode cX3_put 83 = .ok (.invokevirtual 132, 3) := by decide +kernel
theorem dX3_put_86 : decode cX3_put 86 = .ok (.istore 7, 2) := by decide +kernel
theorem dX3_put_88 : decode cX3_put 88 = .ok (.lconst 0, 1) := by decide +kernel
theorem dX3_put_89 : decode cX3_put 89 = .ok (.lstore 8, 2) := by decide +kernel
theorem dX3_put_91 : decode cX3_put 91 = .ok (.iconst 0, 1) := by decide +kernel
theorem dX3_put_92 : decode cX3_put 92 = .ok (.istore 10, 2) := by decide +kernel
theorem dX3_put_94 : decode cX3_put 94 = .ok (.iload 10, 2) := by decide +kernel
theorem dX3_put_96 : decode cX3_put 96 = .ok (.aload 4, 2) := by decide +kernel
theorem dX3_put_98 : decode cX3_put 98 = .ok (.getfield 52, 3) := by decide +kernel
theorem dX3_put_101 : decode cX3_put 101 = .ok (.if_icmp .ge 56, 3) := by decide +kernel
theorem dX3_put_104 : decode cX3_put 104 = .ok (.iconst 2, 1) := by decide +kernel
theorem dX3_put_105 : decode cX3_put 105 = .ok (.aload 4, 2) := by decide +kernel
theorem dX3_put_107 : decode cX3_put 107 = .ok (.iload 10, 2) := by decide +kernel
theorem dX3_put_109 : decode cX3_put 109 = .ok (.invokevirtual 62, 3) := by decide +kernel
theorem dX3_put_112 : decode cX3_put 112 = .ok (.imul, 1) := by decide +kernel
theorem dX3_put_113 : decode cX3_put 113 = .ok (.aload 4, 2) := by decide +kernel
theorem dX3_put_115 : decode cX3_put 115 = .ok (.getfield 46, 3) := by decide +kernel
theorem dX3_put_118 : decode cX3_put 118 = .ok (.if_icmp .ge 7, 3) := by decide +kernel
theorem dX3_put_121 : decode cX3_put 121 = .ok (.iconst 1, 1) := by decide +kernel
theorem dX3_put_122 : decode cX3_put 122 = .ok (.goto 4, 3) := by decide +kernel
theorem dX3_put_125 : decode cX3_put 125 = .ok (.iconst 0, 1) := by decide +kernel
theorem dX3_put_126 : decode cX3_put 126 = .ok (.istore 11, 2) := by decide +kernel
theorem dX3_put_128 : decode cX3_put 128 = .ok (.lload 8, 2) := by decide +kernel
theorem dX3_put_130 : decode cX3_put 130 = .ok (.aload_n 3, 1) := by decide +kernel
theorem dX3_put_131 : decode cX3_put 131 = .ok (.getfield 52, 3) := by decide +kernel
theorem dX3_put_134 : decode cX3_put 134 = .ok (.lshl, 1) := by decide +kernel
theorem dX3_put_135 : decode cX3_put 135 = .ok (.iload 11, 2) := by decide +kernel
theorem dX3_put_137 : decode cX3_put 137 = .ok (.ifCond .eq 8, 3) := by decide +kernel
theorem dX3_put_140 : decode cX3_put 140 = .ok (.iload 6, 2) := by decide +kernel
theorem dX3_put_142 : decode cX3_put 142 = .ok (.goto 5, 3) := by decide +kernel
theorem dX3_put_145 : decode cX3_put 145 = .ok (.iload 7, 2) := by decide +kernel
theorem dX3_put_147 : decode cX3_put 147 = .ok (.i2l, 1) := by decide +kernel
theorem dX3_put_148 : decode cX3_put 148 = .ok (.ladd, 1) := by decide +kernel
theorem dX3_put_149 : decode cX3_put 149 = .ok (.lstore 8, 2) := by decide +kernel
theorem dX3_put_151 : decode cX3_put 151 = .ok (.iinc 10 1, 3) := by decide +kernel
theorem dX3_put_154 : decode cX3_put 154 = .ok (.goto (-60), 3) := by decide +kernel
theorem dX3_put_157 : decode cX3_put 157 = .ok (.aload_n 0, 1) := by decide +kernel
theorem dX3_put_158 : decode cX3_put 158 = .ok (.lload 8, 2) := by decide +kernel
theorem dX3_put_160 : decode cX3_put 160 = .ok (.aload_n 3, 1) := by decide +kernel
theorem dX3_put_161 : decode cX3_put 161 = .ok (.getfield 52, 3) := by decide +kernel
theorem dX3_put_164 : decode cX3_put 164 = .ok (.aload 4, 2) := by decide +kernel
theorem dX3_put_166 : decode cX3_put 166 = .ok (.getfield 52, 3) := by decide +kernel
theorem dX3_put_169 : decode cX3_put 169 = .ok (.imul, 1) := by decide +kernel
theorem dX3_put_170 : decode cX3_put 170 = .ok (.invokestatic 76, 3) := by decide +kernel
theorem dX3_put_173 : decode cX3_put 173 = .ok (.i2l, 1) := by decide +kernel
theorem dX3_put_174 : decode cX3_put 174 = .ok (.invokevirtual 35, 3) := by decide +kernel
theorem dX3_put_177 : decode cX3_put 177 = .ok (.ireturn, 1) := by decide +kernel
theorem dX3_take_0 : decode cX3_take 0 = .ok (.aload_n 0, 1) := by decide +kernel
theorem dX3_take_1 : decode cX3_take 1 = .ok (.iload_n 1, 1) := by decide +kernel
theorem dX3_take_2 : decode cX3_take 2 = .ok (.invokevirtual 39, 3) := by decide +kernel
theorem dX3_take_5 : decode cX3_take 5 = .ok (.astore_n 3, 1) := by decide +kernel
theorem dX3_take_6 : decode cX3_take 6 = .ok (.aload_n 0, 1) := by decide +kernel
theorem dX3_take_7 : decode cX3_take 7 = .ok (.iload_n 2, 1) := by decide +kernel
theorem dX3_take_8 : decode cX3_take 8 = .ok (.invokevirtual 39, 3) := by decide +kernel
theorem dX3_take_11 : decode cX3_take 11 = .ok (.astore 4, 2) := by decide +kernel
theorem dX3_take_13 : decode cX3_take 13 = .ok (.aload_n 3, 1) := by decide +kernel
theorem dX3_take_14 : decode cX3_take 14 = .ok (.ifnull 8, 3) := by decide +kernel
theorem dX3_take_17 : decode cX3_take 17 = .ok (.aload 4, 2) := by decide +kernel
theorem dX3_take_19 : decode cX3_take 19 = .ok (.ifnonnull 5, 3) := by decide +kernel
theorem dX3_take_22 : decode cX3_take 22 = .ok (.iconst (-1), 1) := by decide +kernel
theorem dX3_take_23 : decode cX3_take 23 = .ok (.ireturn, 1) := by decide +kernel
theorem dX3_take_24 : decode cX3_take 24 = .ok (.aload_n 0, 1) := by decide +kernel
theorem dX3_take_25 : decode cX3_take 25 = .ok (.aload_n 3, 1) := by decide +kernel
theorem dX3_take_26 : decode cX3_take 26 = .ok (.aload 4, 2) := by decide +kernel
theorem dX3_take_28 : decode cX3_take 28 = .ok (.invokevirtual 169, 3) := by decide +kernel
theorem dX3_take_31 : decode cX3_take 31 = .ok (.istore 5, 2) := by decide +kernel
theorem dX3_take_33 : decode cX3_take 33 = .ok (.iload 5, 2) := by decide +kernel
theorem dX3_take_35 : decode cX3_take 35 = .ok (.ifCond .lt 13, 3) := by decide +kernel
theorem dX3_take_38 : decode cX3_take 38 = .ok (.aload 4, 2) := by decide +kernel
theorem dX3_take_40 : decode cX3_take 40 = .ok (.getfield 52, 3) := by decide +kernel
theorem dX3_take_43 : decode cX3_take 43 = .ok (.bipush 20, 2) := by decide +kernel
theorem dX3_take_45 : decode cX3_take 45 = .ok (.if_icmp .le 6, 3) := by decide +kernel
theorem dX3_take_48 : decode cX3_take 48 = .ok (.bipush (-2), 2) := by decide +kernel
theorem dX3_take_50 : decode cX3_take 50 = .ok (.ireturn, 1) := by decide +kernel
theorem dX3_take_51 : decode cX3_take 51 = .ok (.aload 4, 2) := by decide +kernel
theorem dX3_take_53 : decode cX3_take 53 = .ok (.getfield 52, 3) := by decide +kernel
theorem dX3_take_56 : decode cX3_take 56 = .ok (.i2l, 1) := by decide +kernel
theorem dX3_take_57 : decode cX3_take 57 = .ok (.aload 4, 2) := by decide +kernel
theorem dX3_take_59 : decode cX3_take 59 = .ok (.getfield 52, 3) := by decide +kernel
theorem dX3_take_62 : decode cX3_take 62 = .ok (.i2l, 1) := by decide +kernel
theorem dX3_take_63 : decode cX3_take 63 = .ok (.aload_n 3, 1) := by decide +kernel
theorem dX3_take_64 : decode cX3_take 64 = .ok (.getfield 52, 3) := by decide +kernel
theorem dX3_take_67 : decode cX3_take 67 = .ok (.i2l, 1) := by decide +kernel
theorem dX3_take_68 : decode cX3_take 68 = .ok (.invokestatic 66, 3) := by decide +kernel
theorem dX3_take_71 : decode cX3_take 71 = .ok (.invokestatic 70, 3) := by decide +kernel
theorem dX3_take_74 : decode cX3_take 74 = .ok (.l2i, 1) := by decide +kernel
theorem dX3_take_75 : decode cX3_take 75 = .ok (.istore 6, 2) := by decide +kernel
theorem dX3_take_77 : decode cX3_take 77 = .ok (.aload_n 0, 1) := by decide +kernel
theorem dX3_take_78 : decode cX3_take 78 = .ok (.iload 5, 2) := by decide +kernel
theorem dX3_take_80 : decode cX3_take 80 = .ok (.aload_n 3, 1) := by decide +kernel
theorem dX3_take_81 : decode cX3_take 81 = .ok (.getfield 52, 3) := by decide +kernel
theorem dX3_take_84 : decode cX3_take 84 = .ok (.aload 4, 2) := by decide +kernel
theorem dX3_take_86 : decode cX3_take 86 = .ok (.iload 6, 2) := by decide +kernel
theorem dX3_take_88 : decode cX3_take 88 = .ok (.invokevirtual 173, 3) := by decide +kernel
theorem dX3_take_91 : decode cX3_take 91 = .ok (.lstore 7, 2) := by decide +kernel
theorem dX3_take_93 : decode cX3_take 93 = .ok (.lload 7, 2) := by decide +kernel
theorem dX3_take_95 : decode cX3_take 95 = .ok (.lconst 0, 1) := by decide +kernel
theorem dX3_take_96 : decode cX3_take 96 = .ok (.lcmp, 1) := by decide +kernel
theorem dX3_take_97 : decode cX3_take 97 = .ok (.ifCond .lt 15, 3) := by decide +kernel
theorem dX3_take_100 : decode cX3_take 100 = .ok (.lload 7, 2) := by decide +kernel
theorem dX3_take_102 : decode cX3_take 102 = .ok (.iload 6, 2) := by decide +kernel
theorem dX3_take_104 : decode cX3_take 104 = .ok (.invokestatic 76, 3) := by decide +kernel
theorem dX3_take_107 : decode cX3_take 107 = .ok (.i2l, 1) := by decide +kernel
theorem dX3_take_108 : decode cX3_take 108 = .ok (.lcmp, 1) := by decide +kernel
theorem dX3_take_109 : decode cX3_take 109 = .ok (.ifCond .ne 6, 3) := by decide +kernel
theorem dX3_take_112 : decode cX3_take 112 = .ok (.bipush (-4), 2) := by decide +kernel
theorem dX3_take_114 : decode cX3_take 114 = .ok (.ireturn, 1) := by decide +kernel
theorem dX3_take_115 : decode cX3_take 115 = .ok (.aload_n 0, 1) := by decide +kernel
theorem dX3_take_116 : decode cX3_take 116 = .ok (.lload 7, 2) := by decide +kernel
theorem dX3_take_118 : decode cX3_take 118 = .ok (.iload 6, 2) := by decide +kernel
theorem dX3_take_120 : decode cX3_take 120 = .ok (.invokestatic 76, 3) := by decide +kernel
theorem dX3_take_123 : decode cX3_take 123 = .ok (.i2l, 1) := by decide +kernel
theorem dX3_take_124 : decode cX3_take 124 = .ok (.invokevirtual 35, 3) := by decide +kernel
theorem dX3_take_127 : decode cX3_take 127 = .ok (.ireturn, 1) := by decide +kernel
theorem dX3_sheet_0 : decode cX3_sheet 0 = .ok (.iload_n 1, 1) := by decide +kernel
theorem dX3_sheet_1 : decode cX3_sheet 1 = .ok (.invokestatic 177, 3) := by decide +kernel
theorem dX3_sheet_4 : decode cX3_sheet 4 = .ok (.ifCond .eq 16, 3) := by decide +kernel
theorem dX3_sheet_7 : decode cX3_sheet 7 = .ok (.iload_n 2, 1) := by decide +kernel
theorem dX3_sheet_8 : decode cX3_sheet 8 = .ok (.invokestatic 180, 3) := by decide +kernel
theorem dX3_sheet_11 : decode cX3_sheet 11 = .ok (.ifCond .eq 9, 3) := by decide +kernel
theorem dX3_sheet_14 : decode cX3_sheet 14 = .ok (.iload_n 3, 1) := by decide +kernel
theorem dX3_sheet_15 : decode cX3_sheet 15 = .ok (.bipush 60, 2) := by decide +kernel
theorem dX3_sheet_17 : decode cX3_sheet 17 = .ok (.if_icmp .le 5, 3) := by decide +kernel
theorem dX3_sheet_20 : decode cX3_sheet 20 = .ok (.iconst (-1), 1) := by decide +kernel
theorem dX3_sheet_21 : decode cX3_sheet 21 = .ok (.ireturn, 1) := by decide +kernel
theorem dX3_sheet_22 : decode cX3_sheet 22 = .ok (.iload_n 3, 1) := by decide +kernel
theorem dX3_sheet_23 : decode cX3_sheet 23 = .ok (.ifCond .ge 6, 3) := by decide +kernel
theorem dX3_sheet_26 : decode cX3_sheet 26 = .ok (.bipush (-14), 2) := by decide +kernel
theorem dX3_sheet_28 : decode cX3_sheet 28 = .ok (.ireturn, 1) := by decide +kernel
theorem dX3_sheet_29 : decode cX3_sheet 29 = .ok (.aload_n 0, 1) := by decide +kernel
theorem dX3_sheet_30 : decode cX3_sheet 30 = .ok (.getfield 17, 3) := by decide +kernel
theorem dX3_sheet_33 : decode cX3_sheet 33 = .ok (.iload_n 1, 1) := by decide +kernel
theorem dX3_sheet_34 : decode cX3_sheet 34 = .ok (.new 15, 3) := by decide +kernel
theorem dX3_sheet_37 : decode cX3_sheet 37 = .ok (.dup, 1) := by decide +kernel
theorem dX3_sheet_38 : decode cX3_sheet 38 = .ok (.iload_n 2, 1) := by decide +kernel
theorem dX3_sheet_39 : decode cX3_sheet 39 = .ok (.iload_n 3, 1) := by decide +kernel
theorem dX3_sheet_40 : decode cX3_sheet 40 = .ok (.invokespecial 183, 3) := by decide +kernel
theorem dX3_sheet_43 : decode cX3_sheet 43 = .ok (.aastore, 1) := by decide +kernel
theorem dX3_sheet_44 : decode cX3_sheet 44 = .ok (.iconst 1, 1) := by decide +kernel
theorem dX3_sheet_45 : decode cX3_sheet 45 = .ok (.ireturn, 1) := by decide +kernel
theorem dX3_lay_0 : decode cX3_lay 0 = .ok (.iload_n 1, 1) := by decide +kernel
theorem dX3_lay_1 : decode cX3_lay 1 = .ok (.invokestatic 177, 3) := by decide +kernel
theorem dX3_lay_4 : decode cX3_lay 4 = .ok (.ifCond .ne 5, 3) := by decide +kernel
theorem dX3_lay_7 : decode cX3_lay 7 = .ok (.iconst (-1), 1) := by decide +kernel
theorem dX3_lay_8 : decode cX3_lay 8 = .ok (.ireturn, 1) := by decide +kernel
theorem dX3_lay_9 : decode cX3_lay 9 = .ok (.aload_n 0, 1) := by decide +kernel
theorem dX3_lay_10 : decode cX3_lay 10 = .ok (.getfield 17, 3) := by decide +kernel
theorem dX3_lay_13 : decode cX3_lay 13 = .ok (.iload_n 1, 1) := by decide +kernel
theorem dX3_lay_14 : decode cX3_lay 14 = .ok (.aaload, 1) := by decide +kernel
theorem dX3_lay_15 : decode cX3_lay 15 = .ok (.astore 5, 2) := by decide +kernel
theorem dX3_lay_17 : decode cX3_lay 17 = .ok (.aload 5, 2) := by decide +kernel
theorem dX3_lay_19 : decode cX3_lay 19 = .ok (.ifnonnull 6, 3) := by decide +kernel
theorem dX3_lay_22 : decode cX3_lay 22 = .ok (.bipush (-11), 2) := by decide +kernel
theorem dX3_lay_24 : decode cX3_lay 24 = .ok (.ireturn, 1) := by decide +kernel
theorem dX3_lay_25 : decode cX3_lay 25 = .ok (.aload 5, 2) := by decide +kernel
theorem dX3_lay_27 : decode cX3_lay 27 = .ok (.iload_n 2, 1) := by decide +kernel
theorem dX3_lay_28 : decode cX3_lay 28 = .ok (.i2l, 1) := by decide +kernel
theorem dX3_lay_29 : decode cX3_lay 29 = .ok (.invokevirtual 186, 3) := by decide +kernel
theorem dX3_lay_32 : decode cX3_lay 32 = .ok (.ifCond .ne 6, 3) := by decide +kernel
theorem dX3_lay_35 : decode cX3_lay 35 = .ok (.bipush (-12), 2) := by decide +kernel
theorem dX3_lay_37 : decode cX3_lay 37 = .ok (.ireturn, 1) := by decide +kernel
theorem dX3_lay_38 : decode cX3_lay 38 = .ok (.aload 5, 2) := by decide +kernel
theorem dX3_lay_40 : decode cX3_lay 40 = .ok (.getfield 190, 3) := by decide +kernel
theorem dX3_lay_43 : decode cX3_lay 43 = .ok (.iload_n 2, 1) := by decide +kernel
theorem dX3_lay_44 : decode cX3_lay 44 = .ok (.aload 5, 2) := by decide +kernel
theorem dX3_lay_46 : decode cX3_lay 46 = .ok (.getfield 194, 3) := by decide +kernel
theorem dX3_lay_49 : decode cX3_lay 49 = .ok (.ifCond .ne 9, 3) := by decide +kernel
theorem dX3_lay_52 : decode cX3_lay 52 = .ok (.lload_n 3, 1) := by decide +kernel
theorem dX3_lay_53 : decode cX3_lay 53 = .ok (.l2i, 1) := by decide +kernel
theorem dX3_lay_54 : decode cX3_lay 54 = .ok (.i2l, 1) := by decide +kernel
theorem dX3_lay_55 : decode cX3_lay 55 = .ok (.goto 4, 3) := by decide +kernel
theorem dX3_lay_58 : decode cX3_lay 58 = .ok (.lload_n 3, 1) := by decide +kernel
theorem dX3_lay_59 : decode cX3_lay 59 = .ok (.lastore, 1) := by decide +kernel
theorem dX3_lay_60 : decode cX3_lay 60 = .ok (.iconst 1, 1) := by decide +kernel
theorem dX3_lay_61 : decode cX3_lay 61 = .ok (.ireturn, 1) := by decide +kernel
theorem dX3_scan_0 : decode cX3_scan 0 = .ok (.iload_n 1, 1) := by decide +kernel
theorem dX3_scan_1 : decode cX3_scan 1 = .ok (.invokestatic 177, 3) := by decide +kernel
theorem dX3_scan_4 : decode cX3_scan 4 = .ok (.ifCond .eq 22, 3) := by decide +kernel
theorem dX3_scan_7 : decode cX3_scan 7 = .ok (.iload_n 2, 1) := by decide +kernel
theorem dX3_scan_8 : decode cX3_scan 8 = .ok (.invokestatic 180, 3) := by decide +kernel
theorem dX3_scan_11 : decode cX3_scan 11 = .ok (.ifCond .eq 15, 3) := by decide +kernel
theorem dX3_scan_14 : decode cX3_scan 14 = .ok (.iload 4, 2) := by decide +kernel
theorem dX3_scan_16 : decode cX3_scan 16 = .ok (.ifCond .lt 10, 3) := by decide +kernel
theorem dX3_scan_19 : decode cX3_scan 19 = .ok (.iload 4, 2) := by decide +kernel
theorem dX3_scan_21 : decode cX3_scan 21 = .ok (.bipush 16, 2) := by decide +kernel
theorem dX3_scan_23 : decode cX3_scan 23 = .ok (.if_icmp .le 5, 3) := by decide +kernel
theorem dX3_scan_26 : decode cX3_scan 26 = .ok (.iconst (-1), 1) := by decide +kernel
theorem dX3_scan_27 : decode cX3_scan 27 = .ok (.ireturn, 1) := by decide +kernel
theorem dX3_scan_28 : decode cX3_scan 28 = .ok (.aload_n 0, 1) := by decide +kernel
theorem dX3_scan_29 : decode cX3_scan 29 = .ok (.getfield 17, 3) := by decide +kernel
theorem dX3_scan_32 : decode cX3_scan 32 = .ok (.iload_n 1, 1) := by decide +kernel
theorem dX3_scan_33 : decode cX3_scan 33 = .ok (.aaload, 1) := by decide +kernel
theorem dX3_scan_34 : decode cX3_scan 34 = .ok (.astore 5, 2) := by decide +kernel
theorem dX3_scan_36 : decode cX3_scan 36 = .ok (.aload 5, 2) := by decide +kernel
theorem dX3_scan_38 : decode cX3_scan 38 = .ok (.ifnonnull 6, 3) := by decide +kernel
theorem dX3_scan_41 : decode cX3_scan 41 = .ok (.bipush (-11), 2) := by decide +kernel
theorem dX3_scan_43 : decode cX3_scan 43 = .ok (.ireturn, 1) := by decide +kernel
theorem dX3_scan_44 : decode cX3_scan 44 = .ok (.aload 5, 2) := by decide +kernel
theorem dX3_scan_46 : decode cX3_scan 46 = .ok (.getfield 194, 3) := by decide +kernel
theorem dX3_scan_49 : decode cX3_scan 49 = .ok (.iload_n 2, 1) := by decide +kernel
theorem dX3_scan_50 : decode cX3_scan 50 = .ok (.if_icmp .eq 6, 3) := by decide +kernel
theorem dX3_scan_53 : decode cX3_scan 53 = .ok (.bipush (-13), 2) := by decide +kernel
theorem dX3_scan_55 : decode cX3_scan 55 = .ok (.ireturn, 1) := by decide +kernel
theorem dX3_scan_56 : decode cX3_scan 56 = .ok (.aload_n 0, 1) := by decide +kernel
theorem dX3_scan_57 : decode cX3_scan 57 = .ok (.getfield 25, 3) := by decide +kernel
theorem dX3_scan_60 : decode cX3_scan 60 = .ok (.istore 6, 2) := by decide +kernel
theorem dX3_scan_62 : decode cX3_scan 62 = .ok (.iconst 0, 1) := by decide +kernel
theorem dX3_scan_63 : decode cX3_scan 63 = .ok (.istore 7, 2) := by decide +kernel
theorem dX3_scan_65 : decode cX3_scan 65 = .ok (.iload 7, 2) := by decide +kernel
theorem dX3_scan_67 : decode cX3_scan 67 = .ok (.iload 4, 2) := by decide +kernel
theorem dX3_scan_69 : decode cX3_scan 69 = .ok (.if_icmp .ge 41, 3) := by decide +kernel
theorem dX3_scan_72 : decode cX3_scan 72 = .ok (.aload_n 0, 1) := by decide +kernel
theorem dX3_scan_73 : decode cX3_scan 73 = .ok (.aload 5, 2) := by decide +kernel
theorem dX3_scan_75 : decode cX3_scan 75 = .ok (.iload_n 3, 1) := by decide +kernel
theorem dX3_scan_76 : decode cX3_scan 76 = .ok (.i2l, 1) := by decide +kernel
theorem dX3_scan_77 : decode cX3_scan 77 = .ok (.ldc2_w 197, 3) := by decide +kernel
theorem dX3_scan_80 : decode cX3_scan 80 = .ok (.iload 7, 2) := by decide +kernel
theorem dX3_scan_82 : decode cX3_scan 82 = .ok (.i2l, 1) := by decide +kernel
theorem dX3_scan_83 : decode cX3_scan 83 = .ok (.lmul, 1) := by decide +kernel
theorem dX3_scan_84 : decode cX3_scan 84 = .ok (.ladd, 1) := by decide +kernel
theorem dX3_scan_85 : decode cX3_scan 85 = .ok (.invokevirtual 199, 3) := by decide +kernel
theorem dX3_scan_88 : decode cX3_scan 88 = .ok (.istore 8, 2) := by decide +kernel
theorem dX3_scan_90 : decode cX3_scan 90 = .ok (.iload 8, 2) := by decide +kernel
theorem dX3_scan_92 : decode cX3_scan 92 = .ok (.ifCond .ge 12, 3) := by decide +kernel
theorem dX3_scan_95 : decode cX3_scan 95 = .ok (.aload_n 0, 1) := by decide +kernel
theorem dX3_scan_96 : decode cX3_scan 96 = .ok (.iload 6, 2) := by decide +kernel
theorem dX3_scan_98 : decode cX3_scan 98 = .ok (.putfield 25, 3) := by decide +kernel
theorem dX3_scan_101 : decode cX3_scan 101 = .ok (.iload 8, 2) := by decide +kernel
theorem dX3_scan_103 : decode cX3_scan 103 = .ok (.ireturn, 1) := by decide +kernel
theorem dX3_scan_104 : decode cX3_scan 104 = .ok (.iinc 7 1, 3) := by decide +kernel
theorem dX3_scan_107 : decode cX3_scan 107 = .ok (.goto (-42), 3) := by decide +kernel
theorem dX3_scan_110 : decode cX3_scan 110 = .ok (.aload_n 0, 1) := by decide +kernel
theorem dX3_scan_111 : decode cX3_scan 111 = .ok (.getfield 25, 3) := by decide +kernel
theorem dX3_scan_114 : decode cX3_scan 114 = .ok (.ireturn, 1) := by decide +kernel
theorem dX3_count_0 : decode cX3_count 0 = .ok (.iload_n 1, 1) := by decide +kernel
theorem dX3_count_1 : decode cX3_count 1 = .ok (.tableswitch 42 0 2 #[27, 32, 37], 27) := by decide +kernel
theorem dX3_count_28 : decode cX3_count 28 = .ok (.aload_n 0, 1) := by decide +kernel
theorem dX3_count_29 : decode cX3_count 29 = .ok (.getfield 25, 3) := by decide +kernel
theorem dX3_count_32 : decode cX3_count 32 = .ok (.ireturn, 1) := by decide +kernel
theorem dX3_count_33 : decode cX3_count 33 = .ok (.aload_n 0, 1) := by decide +kernel
theorem dX3_count_34 : decode cX3_count 34 = .ok (.invokevirtual 203, 3) := by decide +kernel
theorem dX3_count_37 : decode cX3_count 37 = .ok (.ireturn, 1) := by decide +kernel
theorem dX3_count_38 : decode cX3_count 38 = .ok (.aload_n 0, 1) := by decide +kernel
theorem dX3_count_39 : decode cX3_count 39 = .ok (.invokevirtual 206, 3) := by decide +kernel
theorem dX3_count_42 : decode cX3_count 42 = .ok (.ireturn, 1) := by decide +kernel
theorem dX3_count_43 : decode cX3_count 43 = .ok (.iconst (-1), 1) := by decide +kernel
theorem dX3_count_44 : decode cX3_count 44 = .ok (.ireturn, 1) := by decide +kernel
theorem dX3_isDoublings_0 : decode cX3_isDoublings 0 = .ok (.iload_n 0, 1) := by decide +kernel
theorem dX3_isDoublings_1 : decode cX3_isDoublings 1 = .ok (.ifCond .lt 13, 3) := by decide +kernel
theorem dX3_isDoublings_4 : decode cX3_isDoublings 4 = .ok (.iload_n 0, 1) := by decide +kernel
theorem dX3_isDoublings_5 : decode cX3_isDoublings 5 = .ok (.bipush 100, 2) := by decide +kernel
theorem dX3_isDoublings_7 : decode cX3_isDoublings 7 = .ok (.if_icmp .gt 7, 3) := by decide +kernel
theorem dX3_isDoublings_10 : decode cX3_isDoublings 10 = .ok (.iconst 1, 1) := by decide +kernel
theorem dX3_isDoublings_11 : decode cX3_isDoublings 11 = .ok (.goto 4, 3) := by decide +kernel
theorem dX3_isDoublings_14 : decode cX3_isDoublings 14 = .ok (.iconst 0, 1) := by decide +kernel
theorem dX3_isDoublings_15 : decode cX3_isDoublings 15 = .ok (.ireturn, 1) := by decide +kernel
theorem dX3_isLength_0 : decode cX3_isLength 0 = .ok (.iload_n 0, 1) := by decide +kernel
theorem dX3_isLength_1 : decode cX3_isLength 1 = .ok (.iconst 1, 1) := by decide +kernel
theorem dX3_isLength_2 : decode cX3_isLength 2 = .ok (.if_icmp .lt 13, 3) := by decide +kernel
theorem dX3_isLength_5 : decode cX3_isLength 5 = .ok (.iload_n 0, 1) := by decide +kernel
theorem dX3_isLength_6 : decode cX3_isLength 6 = .ok (.bipush 20, 2) := by decide +kernel
theorem dX3_isLength_8 : decode cX3_isLength 8 = .ok (.if_icmp .gt 7, 3) := by decide +kernel
theorem dX3_isLength_11 : decode cX3_isLength 11 = .ok (.iconst 1, 1) := by decide +kernel
theorem dX3_isLength_12 : decode cX3_isLength 12 = .ok (.goto 4, 3) := by decide +kernel
theorem dX3_isLength_15 : decode cX3_isLength 15 = .ok (.iconst 0, 1) := by decide +kernel
theorem dX3_isLength_16 : decode cX3_isLength 16 = .ok (.ireturn, 1) := by decide +kernel
theorem dX3_isPairedLength_0 : decode cX3_isPairedLength 0 = .ok (.iload_n 0, 1) := by decide +kernel
theorem dX3_isPairedLength_1 : decode cX3_isPairedLength 1 = .ok (.iconst 1, 1) := by decide +kernel
theorem dX3_isPairedLength_2 : decode cX3_isPairedLength 2 = .ok (.if_icmp .lt 13, 3) := by decide +kernel
theorem dX3_isPairedLength_5 : decode cX3_isPairedLength 5 = .ok (.iload_n 0, 1) := by decide +kernel
theorem dX3_isPairedLength_6 : decode cX3_isPairedLength 6 = .ok (.bipush 8, 2) := by decide +kernel
theorem dX3_isPairedLength_8 : decode cX3_isPairedLength 8 = .ok (.if_icmp .gt 7, 3) := by decide +kernel
theorem dX3_isPairedLength_11 : decode cX3_isPairedLength 11 = .ok (.iconst 1, 1) := by decide +kernel
theorem dX3_isPairedLength_12 : decode cX3_isPairedLength 12 = .ok (.goto 4, 3) := by decide +kernel
theorem dX3_isPairedLength_15 : decode cX3_isPairedLength 15 = .ok (.iconst 0, 1) := by decide +kernel
theorem dX3_isPairedLength_16 : decode cX3_isPairedLength 16 = .ok (.ireturn, 1) := by decide +kernel
theorem dX3_isEither_0 : decode cX3_isEither 0 = .ok (.iload_n 0, 1) := by decide +kernel
theorem dX3_isEither_1 : decode cX3_isEither 1 = .ok (.ifCond .eq 8, 3) := by decide +kernel
theorem dX3_isEither_4 : decode cX3_isEither 4 = .ok (.iload_n 0, 1) := by decide +kernel
theorem dX3_isEither_5 : decode cX3_isEither 5 = .ok (.iconst 1, 1) := by decide +kernel
theorem dX3_isEither_6 : decode cX3_isEither 6 = .ok (.if_icmp .ne 7, 3) := by decide +kernel
theorem dX3_isEither_9 : decode cX3_isEither 9 = .ok (.iconst 1, 1) := by decide +kernel
theorem dX3_isEither_10 : decode cX3_isEither 10 = .ok (.goto 4, 3) := by decide +kernel
theorem dX3_isEither_13 : decode cX3_isEither 13 = .ok (.iconst 0, 1) := by decide +kernel
theorem dX3_isEither_14 : decode cX3_isEither 14 = .ok (.ireturn, 1) := by decide +kernel
theorem dX3_isSheet_0 : decode cX3_isSheet 0 = .ok (.iload_n 0, 1) := by decide +kernel
theorem dX3_isSheet_1 : decode cX3_isSheet 1 = .ok (.ifCond .lt 12, 3) := by decide +kernel
theorem dX3_isSheet_4 : decode cX3_isSheet 4 = .ok (.iload_n 0, 1) := by decide +kernel
theorem dX3_isSheet_5 : decode cX3_isSheet 5 = .ok (.iconst 4, 1) := by decide +kernel
theorem dX3_isSheet_6 : decode cX3_isSheet 6 = .ok (.if_icmp .ge 7, 3) := by decide +kernel
theorem dX3_isSheet_9 : decode cX3_isSheet 9 = .ok (.iconst 1, 1) := by decide +kernel
theorem dX3_isSheet_10 : decode cX3_isSheet 10 = .ok (.goto 4, 3) := by decide +kernel
theorem dX3_isSheet_13 : decode cX3_isSheet 13 = .ok (.iconst 0, 1) := by decide +kernel
theorem dX3_isSheet_14 : decode cX3_isSheet 14 = .ok (.ireturn, 1) := by decide +kernel
theorem dX3_isLane_0 : decode cX3_isLane 0 = .ok (.iload_n 0, 1) := by decide +kernel
theorem dX3_isLane_1 : decode cX3_isLane 1 = .ok (.ifCond .eq 8, 3) := by decide +kernel
theorem dX3_isLane_4 : decode cX3_isLane 4 = .ok (.iload_n 0, 1) := by decide +kernel
theorem dX3_isLane_5 : decode cX3_isLane 5 = .ok (.iconst 1, 1) := by decide +kernel
theorem dX3_isLane_6 : decode cX3_isLane 6 = .ok (.if_icmp .ne 7, 3) := by decide +kernel
theorem dX3_isLane_9 : decode cX3_isLane 9 = .ok (.iconst 1, 1) := by decide +kernel
theorem dX3_isLane_10 : decode cX3_isLane 10 = .ok (.goto 4, 3) := by decide +kernel
theorem dX3_isLane_13 : decode cX3_isLane 13 = .ok (.iconst 0, 1) := by decide +kernel
theorem dX3_isLane_14 : decode cX3_isLane 14 = .ok (.ireturn, 1) := by decide +kernel
theorem dX3_answer_0 : decode cX3_answer 0 = .ok (.iload_n 0, 1) := by decide +kernel
theorem dX3_answer_1 : decode cX3_answer 1 = .ok (.ifCond .eq 7, 3) := by decide +kernel
theorem dX3_answer_4 : decode cX3_answer 4 = .ok (.iconst 1, 1) := by decide +kernel
theorem dX3_answer_5 : decode cX3_answer 5 = .ok (.goto 4, 3) := by decide +kernel
theorem dX3_answer_8 : decode cX3_answer 8 = .ok (.iconst 0, 1) := by decide +kernel
theorem dX3_answer_9 : decode cX3_answer 9 = .ok (.ireturn, 1) := by decide +kernel
theorem dX3_turnAt_0 : decode cX3_turnAt 0 = .ok (.iload_n 1, 1) := by decide +kernel
theorem dX3_turnAt_1 : decode cX3_turnAt 1 = .ok (.ifCond .lt 20, 3) := by decide +kernel
theorem dX3_turnAt_4 : decode cX3_turnAt 4 = .ok (.iload_n 1, 1) := by decide +kernel
theorem dX3_turnAt_5 : decode cX3_turnAt 5 = .ok (.aload_n 0, 1) := by decide +kernel
theorem dX3_turnAt_6 : decode cX3_turnAt 6 = .ok (.getfield 25, 3) := by decide +kernel
theorem dX3_turnAt_9 : decode cX3_turnAt 9 = .ok (.if_icmp .ge 12, 3) := by decide +kernel
theorem dX3_turnAt_12 : decode cX3_turnAt 12 = .ok (.aload_n 0, 1) := by decide +kernel
theorem dX3_turnAt_13 : decode cX3_turnAt 13 = .ok (.getfield 11, 3) := by decide +kernel
theorem dX3_turnAt_16 : decode cX3_turnAt 16 = .ok (.iload_n 1, 1) := by decide +kernel
theorem dX3_turnAt_17 : decode cX3_turnAt 17 = .ok (.aaload, 1) := by decide +kernel
theorem dX3_turnAt_18 : decode cX3_turnAt 18 = .ok (.goto 4, 3) := by decide +kernel
theorem dX3_turnAt_21 : decode cX3_turnAt 21 = .ok (.aconst_null, 1) := by decide +kernel
theorem dX3_turnAt_22 : decode cX3_turnAt 22 = .ok (.areturn, 1) := by decide +kernel
theorem dX3_keep_0 : decode cX3_keep 0 = .ok (.aload_n 0, 1) := by decide +kernel
theorem dX3_keep_1 : decode cX3_keep 1 = .ok (.getfield 25, 3) := by decide +kernel
theorem dX3_keep_4 : decode cX3_keep 4 = .ok (.bipush 16, 2) := by decide +kernel
theorem dX3_keep_6 : decode cX3_keep 6 = .ok (.if_icmp .lt 6, 3) := by decide +kernel
theorem dX3_keep_9 : decode cX3_keep 9 = .ok (.bipush (-3), 2) := by decide +kernel
theorem dX3_keep_11 : decode cX3_keep 11 = .ok (.ireturn, 1) := by decide +kernel
theorem dX3_keep_12 : decode cX3_keep 12 = .ok (.aload_n 0, 1) := by decide +kernel
theorem dX3_keep_13 : decode cX3_keep 13 = .ok (.getfield 11, 3) := by decide +kernel
theorem dX3_keep_16 : decode cX3_keep 16 = .ok (.aload_n 0, 1) := by decide +kernel
theorem dX3_keep_17 : decode cX3_keep 17 = .ok (.getfield 25, 3) := by decide +kernel
theorem dX3_keep_20 : decode cX3_keep 20 = .ok (.new 9, 3) := by decide +kernel
theorem dX3_keep_23 : decode cX3_keep 23 = .ok (.dup, 1) := by decide +kernel
theorem dX3_keep_24 : decode cX3_keep 24 = .ok (.lload_n 1, 1) := by decide +kernel
theorem dX3_keep_25 : decode cX3_keep 25 = .ok (.lload_n 3, 1) := by decide +kernel
theorem dX3_keep_26 : decode cX3_keep 26 = .ok (.invokespecial 209, 3) := by decide +kernel
theorem dX3_keep_29 : decode cX3_keep 29 = .ok (.aastore, 1) := by decide +kernel
theorem dX3_keep_30 : decode cX3_keep 30 = .ok (.aload_n 0, 1) := by decide +kernel
theorem dX3_keep_31 : decode cX3_keep 31 = .ok (.dup, 1) := by decide +kernel
theorem dX3_keep_32 : decode cX3_keep 32 = .ok (.getfield 25, 3) := by decide +kernel
theorem dX3_keep_35 : decode cX3_keep 35 = .ok (.iconst 1, 1) := by decide +kernel
theorem dX3_keep_36 : decode cX3_keep 36 = .ok (.iadd, 1) := by decide +kernel
theorem dX3_keep_37 : decode cX3_keep 37 = .ok (.putfield 25, 3) := by decide +kernel
theorem dX3_keep_40 : decode cX3_keep 40 = .ok (.aload_n 0, 1) := by decide +kernel
theorem dX3_keep_41 : decode cX3_keep 41 = .ok (.getfield 25, 3) := by decide +kernel
theorem dX3_keep_44 : decode cX3_keep 44 = .ok (.iconst 1, 1) := by decide +kernel
theorem dX3_keep_45 : decode cX3_keep 45 = .ok (.isub, 1) := by decide +kernel
theorem dX3_keep_46 : decode cX3_keep 46 = .ok (.ireturn, 1) := by decide +kernel
theorem dX3_over_0 : decode cX3_over 0 = .ok (.lload_n 2, 1) := by decide +kernel
theorem dX3_over_1 : decode cX3_over 1 = .ok (.lconst 0, 1) := by decide +kernel
theorem dX3_over_2 : decode cX3_over 2 = .ok (.lcmp, 1) := by decide +kernel
theorem dX3_over_3 : decode cX3_over 3 = .ok (.ifCond .le 9, 3) := by decide +kernel
theorem dX3_over_6 : decode cX3_over 6 = .ok (.lload_n 0, 1) := by decide +kernel
theorem dX3_over_7 : decode cX3_over 7 = .ok (.lload_n 2, 1) := by decide +kernel
theorem dX3_over_8 : decode cX3_over 8 = .ok (.ldiv, 1) := by decide +kernel
theorem dX3_over_9 : decode cX3_over 9 = .ok (.goto 4, 3) := by decide +kernel
theorem dX3_over_12 : decode cX3_over 12 = .ok (.lconst 0, 1) := by decide +kernel
theorem dX3_over_13 : decode cX3_over 13 = .ok (.lreturn, 1) := by decide +kernel
theorem dX3_ones_0 : decode cX3_ones 0 = .ok (.iconst 1, 1) := by decide +kernel
theorem dX3_ones_1 : decode cX3_ones 1 = .ok (.iload_n 0, 1) := by decide +kernel
theorem dX3_ones_2 : decode cX3_ones 2 = .ok (.ishl, 1) := by decide +kernel
theorem dX3_ones_3 : decode cX3_ones 3 = .ok (.iconst 1, 1) := by decide +kernel
theorem dX3_ones_4 : decode cX3_ones 4 = .ok (.isub, 1) := by decide +kernel
theorem dX3_ones_5 : decode cX3_ones 5 = .ok (.ireturn, 1) := by decide +kernel
theorem dX3_order_0 : decode cX3_order 0 = .ok (.lload_n 0, 1) := by decide +kernel
theorem dX3_order_1 : decode cX3_order 1 = .ok (.lload_n 2, 1) := by decide +kernel
theorem dX3_order_2 : decode cX3_order 2 = .ok (.lcmp, 1) := by decide +kernel
theorem dX3_order_3 : decode cX3_order 3 = .ok (.ifCond .ge 7, 3) := by decide +kernel
theorem dX3_order_6 : decode cX3_order 6 = .ok (.iconst (-1), 1) := by decide +kernel
theorem dX3_order_7 : decode cX3_order 7 = .ok (.goto 14, 3) := by decide +kernel
theorem dX3_order_10 : decode cX3_order 10 = .ok (.lload_n 0, 1) := by decide +kernel
theorem dX3_order_11 : decode cX3_order 11 = .ok (.lload_n 2, 1) := by decide +kernel
theorem dX3_order_12 : decode cX3_order 12 = .ok (.lcmp, 1) := by decide +kernel
theorem dX3_order_13 : decode cX3_order 13 = .ok (.ifCond .le 7, 3) := by decide +kernel
theorem dX3_order_16 : decode cX3_order 16 = .ok (.iconst 1, 1) := by decide +kernel
theorem dX3_order_17 : decode cX3_order 17 = .ok (.goto 4, 3) := by decide +kernel
theorem dX3_order_20 : decode cX3_order 20 = .ok (.iconst 0, 1) := by decide +kernel
theorem dX3_order_21 : decode cX3_order 21 = .ok (.ireturn, 1) := by decide +kernel
theorem dX3_greatestShared_0 : decode cX3_greatestShared 0 = .ok (.lload_n 0, 1) := by decide +kernel
theorem dX3_greatestShared_1 : decode cX3_greatestShared 1 = .ok (.lstore 4, 2) := by decide +kernel
theorem dX3_greatestShared_3 : decode cX3_greatestShared 3 = .ok (.lload_n 2, 1) := by decide +kernel
theorem dX3_greatestShared_4 : decode cX3_greatestShared 4 = .ok (.lstore 6, 2) := by decide +kernel
theorem dX3_greatestShared_6 : decode cX3_greatestShared 6 = .ok (.iconst 0, 1) := by decide +kernel
theorem dX3_greatestShared_7 : decode cX3_greatestShared 7 = .ok (.istore 8, 2) := by decide +kernel
theorem dX3_greatestShared_9 : decode cX3_greatestShared 9 = .ok (.iload 8, 2) := by decide +kernel
theorem dX3_greatestShared_11 : decode cX3_greatestShared 11 = .ok (.sipush 128, 3) := by decide +kernel
theorem dX3_greatestShared_14 : decode cX3_greatestShared 14 = .ok (.if_icmp .ge 31, 3) := by decide +kernel
theorem dX3_greatestShared_17 : decode cX3_greatestShared 17 = .ok (.lload 6, 2) := by decide +kernel
theorem dX3_greatestShared_19 : decode cX3_greatestShared 19 = .ok (.lconst 0, 1) := by decide +kernel
theorem dX3_greatestShared_20 : decode cX3_greatestShared 20 = .ok (.lcmp, 1) := by decide +kernel
theorem dX3_greatestShared_21 : decode cX3_greatestShared 21 = .ok (.ifCond .eq 24, 3) := by decide +kernel
theorem dX3_greatestShared_24 : decode cX3_greatestShared 24 = .ok (.lload 4, 2) := by decide +kernel
theorem dX3_greatestShared_26 : decode cX3_greatestShared 26 = .ok (.lload 6, 2) := by decide +kernel
theorem dX3_greatestShared_28 : decode cX3_greatestShared 28 = .ok (.lrem, 1) := by decide +kernel
theorem dX3_greatestShared_29 : decode cX3_greatestShared 29 = .ok (.lstore 9, 2) := by decide +kernel
theorem dX3_greatestShared_31 : decode cX3_greatestShared 31 = .ok (.lload 6, 2) := by decide +kernel
theorem dX3_greatestShared_33 : decode cX3_greatestShared 33 = .ok (.lstore 4, 2) := by decide +kernel
theorem dX3_greatestShared_35 : decode cX3_greatestShared 35 = .ok (.lload 9, 2) := by decide +kernel
theorem dX3_greatestShared_37 : decode cX3_greatestShared 37 = .ok (.lstore 6, 2) := by decide +kernel
theorem dX3_greatestShared_39 : decode cX3_greatestShared 39 = .ok (.iinc 8 1, 3) := by decide +kernel
theorem dX3_greatestShared_42 : decode cX3_greatestShared 42 = .ok (.goto (-33), 3) := by decide +kernel
theorem dX3_greatestShared_45 : decode cX3_greatestShared 45 = .ok (.lload 4, 2) := by decide +kernel
theorem dX3_greatestShared_47 : decode cX3_greatestShared 47 = .ok (.lreturn, 1) := by decide +kernel
theorem dX3_twice_0 : decode cX3_twice 0 = .ok (.iconst 2, 1) := by decide +kernel
theorem dX3_twice_1 : decode cX3_twice 1 = .ok (.iload_n 0, 1) := by decide +kernel
theorem dX3_twice_2 : decode cX3_twice 2 = .ok (.imul, 1) := by decide +kernel
theorem dX3_twice_3 : decode cX3_twice 3 = .ok (.istore_n 2, 1) := by decide +kernel
theorem dX3_twice_4 : decode cX3_twice 4 = .ok (.iload_n 2, 1) := by decide +kernel
theorem dX3_twice_5 : decode cX3_twice 5 = .ok (.iload_n 1, 1) := by decide +kernel
theorem dX3_twice_6 : decode cX3_twice 6 = .ok (.if_icmp .lt 9, 3) := by decide +kernel
theorem dX3_twice_9 : decode cX3_twice 9 = .ok (.iload_n 2, 1) := by decide +kernel
theorem dX3_twice_10 : decode cX3_twice 10 = .ok (.iload_n 1, 1) := by decide +kernel
theorem dX3_twice_11 : decode cX3_twice 11 = .ok (.isub, 1) := by decide +kernel
theorem dX3_twice_12 : decode cX3_twice 12 = .ok (.goto 4, 3) := by decide +kernel
theorem dX3_twice_15 : decode cX3_twice 15 = .ok (.iload_n 2, 1) := by decide +kernel
theorem dX3_twice_16 : decode cX3_twice 16 = .ok (.ireturn, 1) := by decide +kernel
theorem dX3_justOfLength_0 : decode cX3_justOfLength 0 = .ok (.iconst 1, 1) := by decide +kernel
theorem dX3_justOfLength_1 : decode cX3_justOfLength 1 = .ok (.istore_n 2, 1) := by decide +kernel
theorem dX3_justOfLength_2 : decode cX3_justOfLength 2 = .ok (.iload_n 2, 1) := by decide +kernel
theorem dX3_justOfLength_3 : decode cX3_justOfLength 3 = .ok (.iload_n 1, 1) := by decide +kernel
theorem dX3_justOfLength_4 : decode cX3_justOfLength 4 = .ok (.if_icmp .ge 40, 3) := by decide +kernel
theorem dX3_justOfLength_7 : decode cX3_justOfLength 7 = .ok (.iconst 2, 1) := by decide +kernel
theorem dX3_justOfLength_8 : decode cX3_justOfLength 8 = .ok (.iload_n 2, 1) := by decide +kernel
theorem dX3_justOfLength_9 : decode cX3_justOfLength 9 = .ok (.imul, 1) := by decide +kernel
theorem dX3_justOfLength_10 : decode cX3_justOfLength 10 = .ok (.istore_n 3, 1) := by decide +kernel
theorem dX3_justOfLength_11 : decode cX3_justOfLength 11 = .ok (.iload_n 3, 1) := by decide +kernel
theorem dX3_justOfLength_12 : decode cX3_justOfLength 12 = .ok (.iload_n 1, 1) := by decide +kernel
theorem dX3_justOfLength_13 : decode cX3_justOfLength 13 = .ok (.if_icmp .gt 25, 3) := by decide +kernel
theorem dX3_justOfLength_16 : decode cX3_justOfLength 16 = .ok (.aload_n 0, 1) := by decide +kernel
theorem dX3_justOfLength_17 : decode cX3_justOfLength 17 = .ok (.getfield 21, 3) := by decide +kernel
theorem dX3_justOfLength_20 : decode cX3_justOfLength 20 = .ok (.iload_n 3, 1) := by decide +kernel
theorem dX3_justOfLength_21 : decode cX3_justOfLength 21 = .ok (.dup2, 1) := by decide +kernel
theorem dX3_justOfLength_22 : decode cX3_justOfLength 22 = .ok (.iaload, 1) := by decide +kernel
theorem dX3_justOfLength_23 : decode cX3_justOfLength 23 = .ok (.aload_n 0, 1) := by decide +kernel
theorem dX3_justOfLength_24 : decode cX3_justOfLength 24 = .ok (.getfield 21, 3) := by decide +kernel
theorem dX3_justOfLength_27 : decode cX3_justOfLength 27 = .ok (.iload_n 2, 1) := by decide +kernel
theorem dX3_justOfLength_28 : decode cX3_justOfLength 28 = .ok (.iaload, 1) := by decide +kernel
theorem dX3_justOfLength_29 : decode cX3_justOfLength 29 = .ok (.isub, 1) := by decide +kernel
theorem dX3_justOfLength_30 : decode cX3_justOfLength 30 = .ok (.iastore, 1) := by decide +kernel
theorem dX3_justOfLength_31 : decode cX3_justOfLength 31 = .ok (.iload_n 3, 1) := by decide +kernel
theorem dX3_justOfLength_32 : decode cX3_justOfLength 32 = .ok (.iload_n 2, 1) := by decide +kernel
theorem dX3_justOfLength_33 : decode cX3_justOfLength 33 = .ok (.iadd, 1) := by decide +kernel
theorem dX3_justOfLength_34 : decode cX3_justOfLength 34 = .ok (.istore_n 3, 1) := by decide +kernel
theorem dX3_justOfLength_35 : decode cX3_justOfLength 35 = .ok (.goto (-24), 3) := by decide +kernel
theorem dX3_justOfLength_38 : decode cX3_justOfLength 38 = .ok (.iinc 2 1, 3) := by decide +kernel
theorem dX3_justOfLength_41 : decode cX3_justOfLength 41 = .ok (.goto (-39), 3) := by decide +kernel
theorem dX3_justOfLength_44 : decode cX3_justOfLength 44 = .ok (.aload_n 0, 1) := by decide +kernel
theorem dX3_justOfLength_45 : decode cX3_justOfLength 45 = .ok (.getfield 21, 3) := by decide +kernel
theorem dX3_justOfLength_48 : decode cX3_justOfLength 48 = .ok (.iload_n 1, 1) := by decide +kernel
theorem dX3_justOfLength_49 : decode cX3_justOfLength 49 = .ok (.iaload, 1) := by decide +kernel
theorem dX3_justOfLength_50 : decode cX3_justOfLength 50 = .ok (.ireturn, 1) := by decide +kernel
theorem dX3_amountThatComesBack_0 : decode cX3_amountThatComesBack 0 = .ok (.iconst 0, 1) := by decide +kernel
theorem dX3_amountThatComesBack_1 : decode cX3_amountThatComesBack 1 = .ok (.istore_n 1, 1) := by decide +kernel
theorem dX3_amountThatComesBack_2 : decode cX3_amountThatComesBack 2 = .ok (.iconst 0, 1) := by decide +kernel
theorem dX3_amountThatComesBack_3 : decode cX3_amountThatComesBack 3 = .ok (.istore_n 2, 1) := by decide +kernel
theorem dX3_amountThatComesBack_4 : decode cX3_amountThatComesBack 4 = .ok (.iload_n 2, 1) := by decide +kernel
theorem dX3_amountThatComesBack_5 : decode cX3_amountThatComesBack 5 = .ok (.aload_n 0, 1) := by decide +kernel
theorem dX3_amountThatComesBack_6 : decode cX3_amountThatComesBack 6 = .ok (.getfield 25, 3) := by decide +kernel
theorem dX3_amountThatComesBack_9 : decode cX3_amountThatComesBack 9 = .ok (.if_icmp .ge 29, 3) := by decide +kernel
theorem dX3_amountThatComesBack_12 : decode cX3_amountThatComesBack 12 = .ok (.aload_n 0, 1) := by decide +kernel
theorem dX3_amountThatComesBack_13 : decode cX3_amountThatComesBack 13 = .ok (.iload_n 2, 1) := by decide +kernel
theorem dX3_amountThatComesBack_14 : decode cX3_amountThatComesBack 14 = .ok (.invokevirtual 39, 3) := by decide +kernel
theorem dX3_amountThatComesBack_17 : decode cX3_amountThatComesBack 17 = .ok (.astore_n 3, 1) := by decide +kernel
theorem dX3_amountThatComesBack_18 : decode cX3_amountThatComesBack 18 = .ok (.aload_n 3, 1) := by decide +kernel
theorem dX3_amountThatComesBack_19 : decode cX3_amountThatComesBack 19 = .ok (.ifnull 13, 3) := by decide +kernel
theorem dX3_amountThatComesBack_22 : decode cX3_amountThatComesBack 22 = .ok (.aload_n 3, 1) := by decide +kernel
theorem dX3_amountThatComesBack_23 : decode cX3_amountThatComesBack 23 = .ok (.invokevirtual 86, 3) := by decide +kernel
theorem dX3_amountThatComesBack_26 : decode cX3_amountThatComesBack 26 = .ok (.ifCond .eq 6, 3) := by decide +kernel
theorem dX3_amountThatComesBack_29 : decode cX3_amountThatComesBack 29 = .ok (.iinc 1 1, 3) := by decide +kernel
theorem dX3_amountThatComesBack_32 : decode cX3_amountThatComesBack 32 = .ok (.iinc 2 1, 3) := by decide +kernel
theorem dX3_amountThatComesBack_35 : decode cX3_amountThatComesBack 35 = .ok (.goto (-31), 3) := by decide +kernel
theorem dX3_amountThatComesBack_38 : decode cX3_amountThatComesBack 38 = .ok (.iload_n 1, 1) := by decide +kernel
theorem dX3_amountThatComesBack_39 : decode cX3_amountThatComesBack 39 = .ok (.ireturn, 1) := by decide +kernel
theorem dX3_amountOfUnlike_0 : decode cX3_amountOfUnlike 0 = .ok (.iconst 0, 1) := by decide +kernel
theorem dX3_amountOfUnlike_1 : decode cX3_amountOfUnlike 1 = .ok (.istore_n 1, 1) := by decide +kernel
theorem dX3_amountOfUnlike_2 : decode cX3_amountOfUnlike 2 = .ok (.iconst 0, 1) := by decide +kernel
theorem dX3_amountOfUnlike_3 : decode cX3_amountOfUnlike 3 = .ok (.istore_n 2, 1) := by decide +kernel
theorem dX3_amountOfUnlike_4 : decode cX3_amountOfUnlike 4 = .ok (.iload_n 2, 1) := by decide +kernel
theorem dX3_amountOfUnlike_5 : decode cX3_amountOfUnlike 5 = .ok (.aload_n 0, 1) := by decide +kernel
theorem dX3_amountOfUnlike_6 : decode cX3_amountOfUnlike 6 = .ok (.getfield 25, 3) := by decide +kernel
theorem dX3_amountOfUnlike_9 : decode cX3_amountOfUnlike 9 = .ok (.if_icmp .ge 20, 3) := by decide +kernel
theorem dX3_amountOfUnlike_12 : decode cX3_amountOfUnlike 12 = .ok (.aload_n 0, 1) := by decide +kernel
theorem dX3_amountOfUnlike_13 : decode cX3_amountOfUnlike 13 = .ok (.iload_n 2, 1) := by decide +kernel
theorem dX3_amountOfUnlike_14 : decode cX3_amountOfUnlike 14 = .ok (.invokevirtual 212, 3) := by decide +kernel
theorem dX3_amountOfUnlike_17 : decode cX3_amountOfUnlike 17 = .ok (.ifCond .ne 6, 3) := by decide +kernel
theorem dX3_amountOfUnlike_20 : decode cX3_amountOfUnlike 20 = .ok (.iinc 1 1, 3) := by decide +kernel
theorem dX3_amountOfUnlike_23 : decode cX3_amountOfUnlike 23 = .ok (.iinc 2 1, 3) := by decide +kernel
theorem dX3_amountOfUnlike_26 : decode cX3_amountOfUnlike 26 = .ok (.goto (-22), 3) := by decide +kernel
theorem dX3_amountOfUnlike_29 : decode cX3_amountOfUnlike 29 = .ok (.iload_n 1, 1) := by decide +kernel
theorem dX3_amountOfUnlike_30 : decode cX3_amountOfUnlike 30 = .ok (.ireturn, 1) := by decide +kernel
theorem dX3_cameEarlier_0 : decode cX3_cameEarlier 0 = .ok (.aload_n 0, 1) := by decide +kernel
theorem dX3_cameEarlier_1 : decode cX3_cameEarlier 1 = .ok (.iload_n 1, 1) := by decide +kernel
theorem dX3_cameEarlier_2 : decode cX3_cameEarlier 2 = .ok (.invokevirtual 39, 3) := by decide +kernel
theorem dX3_cameEarlier_5 : decode cX3_cameEarlier 5 = .ok (.astore_n 2, 1) := by decide +kernel
theorem dX3_cameEarlier_6 : decode cX3_cameEarlier 6 = .ok (.iconst 0, 1) := by decide +kernel
theorem dX3_cameEarlier_7 : decode cX3_cameEarlier 7 = .ok (.istore_n 3, 1) := by decide +kernel
theorem dX3_cameEarlier_8 : decode cX3_cameEarlier 8 = .ok (.iload_n 3, 1) := by decide +kernel
theorem dX3_cameEarlier_9 : decode cX3_cameEarlier 9 = .ok (.iload_n 1, 1) := by decide +kernel
theorem dX3_cameEarlier_10 : decode cX3_cameEarlier 10 = .ok (.if_icmp .ge 36, 3) := by decide +kernel
theorem dX3_cameEarlier_13 : decode cX3_cameEarlier 13 = .ok (.aload_n 2, 1) := by decide +kernel
theorem dX3_cameEarlier_14 : decode cX3_cameEarlier 14 = .ok (.ifnull 32, 3) := by decide +kernel
theorem dX3_cameEarlier_17 : decode cX3_cameEarlier 17 = .ok (.aload_n 0, 1) := by decide +kernel
theorem dX3_cameEarlier_18 : decode cX3_cameEarlier 18 = .ok (.iload_n 3, 1) := by decide +kernel
theorem dX3_cameEarlier_19 : decode cX3_cameEarlier 19 = .ok (.invokevirtual 39, 3) := by decide +kernel
theorem dX3_cameEarlier_22 : decode cX3_cameEarlier 22 = .ok (.astore 4, 2) := by decide +kernel
theorem dX3_cameEarlier_24 : decode cX3_cameEarlier 24 = .ok (.aload 4, 2) := by decide +kernel
theorem dX3_cameEarlier_26 : decode cX3_cameEarlier 26 = .ok (.ifnull 14, 3) := by decide +kernel
theorem dX3_cameEarlier_29 : decode cX3_cameEarlier 29 = .ok (.aload_n 2, 1) := by decide +kernel
theorem dX3_cameEarlier_30 : decode cX3_cameEarlier 30 = .ok (.aload 4, 2) := by decide +kernel
theorem dX3_cameEarlier_32 : decode cX3_cameEarlier 32 = .ok (.invokevirtual 97, 3) := by decide +kernel
theorem dX3_cameEarlier_35 : decode cX3_cameEarlier 35 = .ok (.ifCond .ne 5, 3) := by decide +kernel
theorem dX3_cameEarlier_38 : decode cX3_cameEarlier 38 = .ok (.iconst 1, 1) := by decide +kernel
theorem dX3_cameEarlier_39 : decode cX3_cameEarlier 39 = .ok (.ireturn, 1) := by decide +kernel
theorem dX3_cameEarlier_40 : decode cX3_cameEarlier 40 = .ok (.iinc 3 1, 3) := by decide +kernel
theorem dX3_cameEarlier_43 : decode cX3_cameEarlier 43 = .ok (.goto (-35), 3) := by decide +kernel
theorem dX3_cameEarlier_46 : decode cX3_cameEarlier 46 = .ok (.iconst 0, 1) := by decide +kernel
theorem dX3_cameEarlier_47 : decode cX3_cameEarlier 47 = .ok (.ireturn, 1) := by decide +kernel
theorem dX3_writeInner_0 : decode cX3_writeInner 0 = .ok (.aload_n 1, 1) := by decide +kernel
theorem dX3_writeInner_1 : decode cX3_writeInner 1 = .ok (.getfield 43, 3) := by decide +kernel
theorem dX3_writeInner_4 : decode cX3_writeInner 4 = .ok (.istore_n 2, 1) := by decide +kernel
theorem dX3_writeInner_5 : decode cX3_writeInner 5 = .ok (.iconst 0, 1) := by decide +kernel
theorem dX3_writeInner_6 : decode cX3_writeInner 6 = .ok (.istore_n 3, 1) := by decide +kernel
theorem dX3_writeInner_7 : decode cX3_writeInner 7 = .ok (.iload_n 3, 1) := by decide +kernel
theorem dX3_writeInner_8 : decode cX3_writeInner 8 = .ok (.aload_n 1, 1) := by decide +kernel
theorem dX3_writeInner_9 : decode cX3_writeInner 9 = .ok (.getfield 52, 3) := by decide +kernel
theorem dX3_writeInner_12 : decode cX3_writeInner 12 = .ok (.if_icmp .ge 42, 3) := by decide +kernel
theorem dX3_writeInner_15 : decode cX3_writeInner 15 = .ok (.iload_n 3, 1) := by decide +kernel
theorem dX3_writeInner_16 : decode cX3_writeInner 16 = .ok (.aload_n 0, 1) := by decide +kernel
theorem dX3_writeInner_17 : decode cX3_writeInner 17 = .ok (.getfield 21, 3) := by decide +kernel
