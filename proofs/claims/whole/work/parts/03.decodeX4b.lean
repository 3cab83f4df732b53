theorem dX4_partner_12 : decode cX4_partner 12 = .ok (.invokevirtual 140, 3) := by decide +kernel
theorem dX4_partner_15 : decode cX4_partner 15 = .ok (.istore_n 2, 1) := by decide +kernel
theorem dX4_partner_16 : decode cX4_partner 16 = .ok (.iload_n 2, 1) := by decide +kernel
theorem dX4_partner_17 : decode cX4_partner 17 = .ok (.bipush (-4), 2) := by decide +kernel
theorem dX4_partner_19 : decode cX4_partner 19 = .ok (.if_icmp .ne 6, 3) := by decide +kernel
theorem dX4_partner_22 : decode cX4_partner 22 = .ok (.bipush (-2), 2) := by decide +kernel
theorem dX4_partner_24 : decode cX4_partner 24 = .ok (.ireturn, 1) := by decide +kernel
theorem dX4_partner_25 : decode cX4_partner 25 = .ok (.aload_n 0, 1) := by decide +kernel
theorem dX4_partner_26 : decode cX4_partner 26 = .ok (.getfield 16, 3) := by decide +kernel
theorem dX4_partner_29 : decode cX4_partner 29 = .ok (.iload_n 2, 1) := by decide +kernel
theorem dX4_partner_30 : decode cX4_partner 30 = .ok (.iaload, 1) := by decide +kernel
theorem dX4_partner_31 : decode cX4_partner 31 = .ok (.invokestatic 113, 3) := by decide +kernel
theorem dX4_partner_34 : decode cX4_partner 34 = .ok (.lstore_n 3, 1) := by decide +kernel
theorem dX4_partner_35 : decode cX4_partner 35 = .ok (.aload_n 0, 1) := by decide +kernel
theorem dX4_partner_36 : decode cX4_partner 36 = .ok (.getfield 7, 3) := by decide +kernel
theorem dX4_partner_39 : decode cX4_partner 39 = .ok (.iload_n 1, 1) := by decide +kernel
theorem dX4_partner_40 : decode cX4_partner 40 = .ok (.laload, 1) := by decide +kernel
theorem dX4_partner_41 : decode cX4_partner 41 = .ok (.lload_n 3, 1) := by decide +kernel
theorem dX4_partner_42 : decode cX4_partner 42 = .ok (.aload_n 0, 1) := by decide +kernel
theorem dX4_partner_43 : decode cX4_partner 43 = .ok (.getfield 13, 3) := by decide +kernel
theorem dX4_partner_46 : decode cX4_partner 46 = .ok (.iload_n 1, 1) := by decide +kernel
theorem dX4_partner_47 : decode cX4_partner 47 = .ok (.laload, 1) := by decide +kernel
theorem dX4_partner_48 : decode cX4_partner 48 = .ok (.ldiv, 1) := by decide +kernel
theorem dX4_partner_49 : decode cX4_partner 49 = .ok (.lmul, 1) := by decide +kernel
theorem dX4_partner_50 : decode cX4_partner 50 = .ok (.lstore 5, 2) := by decide +kernel
theorem dX4_partner_52 : decode cX4_partner 52 = .ok (.aload_n 0, 1) := by decide +kernel
theorem dX4_partner_53 : decode cX4_partner 53 = .ok (.lload 5, 2) := by decide +kernel
theorem dX4_partner_55 : decode cX4_partner 55 = .ok (.aload_n 0, 1) := by decide +kernel
theorem dX4_partner_56 : decode cX4_partner 56 = .ok (.getfield 20, 3) := by decide +kernel
theorem dX4_partner_59 : decode cX4_partner 59 = .ok (.iload_n 2, 1) := by decide +kernel
theorem dX4_partner_60 : decode cX4_partner 60 = .ok (.laload, 1) := by decide +kernel
theorem dX4_partner_61 : decode cX4_partner 61 = .ok (.lcmp, 1) := by decide +kernel
theorem dX4_partner_62 : decode cX4_partner 62 = .ok (.ifCond .ne 12, 3) := by decide +kernel
theorem dX4_partner_65 : decode cX4_partner 65 = .ok (.aload_n 0, 1) := by decide +kernel
theorem dX4_partner_66 : decode cX4_partner 66 = .ok (.getfield 23, 3) := by decide +kernel
theorem dX4_partner_69 : decode cX4_partner 69 = .ok (.iload_n 2, 1) := by decide +kernel
theorem dX4_partner_70 : decode cX4_partner 70 = .ok (.laload, 1) := by decide +kernel
theorem dX4_partner_71 : decode cX4_partner 71 = .ok (.goto 9, 3) := by decide +kernel
theorem dX4_partner_74 : decode cX4_partner 74 = .ok (.aload_n 0, 1) := by decide +kernel
theorem dX4_partner_75 : decode cX4_partner 75 = .ok (.getfield 20, 3) := by decide +kernel
theorem dX4_partner_78 : decode cX4_partner 78 = .ok (.iload_n 2, 1) := by decide +kernel
theorem dX4_partner_79 : decode cX4_partner 79 = .ok (.laload, 1) := by decide +kernel
theorem dX4_partner_80 : decode cX4_partner 80 = .ok (.lload_n 3, 1) := by decide +kernel
theorem dX4_partner_81 : decode cX4_partner 81 = .ok (.invokevirtual 52, 3) := by decide +kernel
theorem dX4_partner_84 : decode cX4_partner 84 = .ok (.ireturn, 1) := by decide +kernel
theorem dX4_holdsAngle_0 : decode cX4_holdsAngle 0 = .ok (.aload_n 0, 1) := by decide +kernel
theorem dX4_holdsAngle_1 : decode cX4_holdsAngle 1 = .ok (.getfield 16, 3) := by decide +kernel
theorem dX4_holdsAngle_4 : decode cX4_holdsAngle 4 = .ok (.iload_n 1, 1) := by decide +kernel
theorem dX4_holdsAngle_5 : decode cX4_holdsAngle 5 = .ok (.iaload, 1) := by decide +kernel
theorem dX4_holdsAngle_6 : decode cX4_holdsAngle 6 = .ok (.invokestatic 113, 3) := by decide +kernel
theorem dX4_holdsAngle_9 : decode cX4_holdsAngle 9 = .ok (.lstore_n 3, 1) := by decide +kernel
theorem dX4_holdsAngle_10 : decode cX4_holdsAngle 10 = .ok (.aload_n 0, 1) := by decide +kernel
theorem dX4_holdsAngle_11 : decode cX4_holdsAngle 11 = .ok (.getfield 7, 3) := by decide +kernel
theorem dX4_holdsAngle_14 : decode cX4_holdsAngle 14 = .ok (.iload_n 2, 1) := by decide +kernel
theorem dX4_holdsAngle_15 : decode cX4_holdsAngle 15 = .ok (.laload, 1) := by decide +kernel
theorem dX4_holdsAngle_16 : decode cX4_holdsAngle 16 = .ok (.aload_n 0, 1) := by decide +kernel
theorem dX4_holdsAngle_17 : decode cX4_holdsAngle 17 = .ok (.getfield 13, 3) := by decide +kernel
theorem dX4_holdsAngle_20 : decode cX4_holdsAngle 20 = .ok (.iload_n 2, 1) := by decide +kernel
theorem dX4_holdsAngle_21 : decode cX4_holdsAngle 21 = .ok (.laload, 1) := by decide +kernel
theorem dX4_holdsAngle_22 : decode cX4_holdsAngle 22 = .ok (.aload_n 0, 1) := by decide +kernel
theorem dX4_holdsAngle_23 : decode cX4_holdsAngle 23 = .ok (.getfield 20, 3) := by decide +kernel
theorem dX4_holdsAngle_26 : decode cX4_holdsAngle 26 = .ok (.iload_n 1, 1) := by decide +kernel
theorem dX4_holdsAngle_27 : decode cX4_holdsAngle 27 = .ok (.laload, 1) := by decide +kernel
theorem dX4_holdsAngle_28 : decode cX4_holdsAngle 28 = .ok (.lload_n 3, 1) := by decide +kernel
theorem dX4_holdsAngle_29 : decode cX4_holdsAngle 29 = .ok (.invokestatic 98, 3) := by decide +kernel
theorem dX4_holdsAngle_32 : decode cX4_holdsAngle 32 = .ok (.ifCond .ne 32, 3) := by decide +kernel
theorem dX4_holdsAngle_35 : decode cX4_holdsAngle 35 = .ok (.aload_n 0, 1) := by decide +kernel
theorem dX4_holdsAngle_36 : decode cX4_holdsAngle 36 = .ok (.getfield 23, 3) := by decide +kernel
theorem dX4_holdsAngle_39 : decode cX4_holdsAngle 39 = .ok (.iload_n 1, 1) := by decide +kernel
theorem dX4_holdsAngle_40 : decode cX4_holdsAngle 40 = .ok (.laload, 1) := by decide +kernel
theorem dX4_holdsAngle_41 : decode cX4_holdsAngle 41 = .ok (.lload_n 3, 1) := by decide +kernel
theorem dX4_holdsAngle_42 : decode cX4_holdsAngle 42 = .ok (.aload_n 0, 1) := by decide +kernel
theorem dX4_holdsAngle_43 : decode cX4_holdsAngle 43 = .ok (.getfield 7, 3) := by decide +kernel
theorem dX4_holdsAngle_46 : decode cX4_holdsAngle 46 = .ok (.iload_n 2, 1) := by decide +kernel
theorem dX4_holdsAngle_47 : decode cX4_holdsAngle 47 = .ok (.laload, 1) := by decide +kernel
theorem dX4_holdsAngle_48 : decode cX4_holdsAngle 48 = .ok (.aload_n 0, 1) := by decide +kernel
theorem dX4_holdsAngle_49 : decode cX4_holdsAngle 49 = .ok (.getfield 13, 3) := by decide +kernel
theorem dX4_holdsAngle_52 : decode cX4_holdsAngle 52 = .ok (.iload_n 2, 1) := by decide +kernel
theorem dX4_holdsAngle_53 : decode cX4_holdsAngle 53 = .ok (.laload, 1) := by decide +kernel
theorem dX4_holdsAngle_54 : decode cX4_holdsAngle 54 = .ok (.invokestatic 98, 3) := by decide +kernel
theorem dX4_holdsAngle_57 : decode cX4_holdsAngle 57 = .ok (.ifCond .ne 7, 3) := by decide +kernel
theorem dX4_holdsAngle_60 : decode cX4_holdsAngle 60 = .ok (.iconst 1, 1) := by decide +kernel
theorem dX4_holdsAngle_61 : decode cX4_holdsAngle 61 = .ok (.goto 4, 3) := by decide +kernel
theorem dX4_holdsAngle_64 : decode cX4_holdsAngle 64 = .ok (.iconst 0, 1) := by decide +kernel
theorem dX4_holdsAngle_65 : decode cX4_holdsAngle 65 = .ok (.ireturn, 1) := by decide +kernel
theorem dX4_isOrHolds_0 : decode cX4_isOrHolds 0 = .ok (.aload_n 0, 1) := by decide +kernel
theorem dX4_isOrHolds_1 : decode cX4_isOrHolds 1 = .ok (.getfield 16, 3) := by decide +kernel
theorem dX4_isOrHolds_4 : decode cX4_isOrHolds 4 = .ok (.iload_n 1, 1) := by decide +kernel
theorem dX4_isOrHolds_5 : decode cX4_isOrHolds 5 = .ok (.iaload, 1) := by decide +kernel
theorem dX4_isOrHolds_6 : decode cX4_isOrHolds 6 = .ok (.invokestatic 113, 3) := by decide +kernel
theorem dX4_isOrHolds_9 : decode cX4_isOrHolds 9 = .ok (.lstore_n 3, 1) := by decide +kernel
theorem dX4_isOrHolds_10 : decode cX4_isOrHolds 10 = .ok (.aload_n 0, 1) := by decide +kernel
theorem dX4_isOrHolds_11 : decode cX4_isOrHolds 11 = .ok (.getfield 16, 3) := by decide +kernel
theorem dX4_isOrHolds_14 : decode cX4_isOrHolds 14 = .ok (.iload_n 2, 1) := by decide +kernel
theorem dX4_isOrHolds_15 : decode cX4_isOrHolds 15 = .ok (.iaload, 1) := by decide +kernel
theorem dX4_isOrHolds_16 : decode cX4_isOrHolds 16 = .ok (.invokestatic 113, 3) := by decide +kernel
theorem dX4_isOrHolds_19 : decode cX4_isOrHolds 19 = .ok (.lstore 5, 2) := by decide +kernel
theorem dX4_isOrHolds_21 : decode cX4_isOrHolds 21 = .ok (.aload_n 0, 1) := by decide +kernel
theorem dX4_isOrHolds_22 : decode cX4_isOrHolds 22 = .ok (.getfield 20, 3) := by decide +kernel
theorem dX4_isOrHolds_25 : decode cX4_isOrHolds 25 = .ok (.iload_n 2, 1) := by decide +kernel
theorem dX4_isOrHolds_26 : decode cX4_isOrHolds 26 = .ok (.laload, 1) := by decide +kernel
theorem dX4_isOrHolds_27 : decode cX4_isOrHolds 27 = .ok (.lload 5, 2) := by decide +kernel
theorem dX4_isOrHolds_29 : decode cX4_isOrHolds 29 = .ok (.aload_n 0, 1) := by decide +kernel
theorem dX4_isOrHolds_30 : decode cX4_isOrHolds 30 = .ok (.getfield 20, 3) := by decide +kernel
theorem dX4_isOrHolds_33 : decode cX4_isOrHolds 33 = .ok (.iload_n 1, 1) := by decide +kernel
theorem dX4_isOrHolds_34 : decode cX4_isOrHolds 34 = .ok (.laload, 1) := by decide +kernel
theorem dX4_isOrHolds_35 : decode cX4_isOrHolds 35 = .ok (.lload_n 3, 1) := by decide +kernel
theorem dX4_isOrHolds_36 : decode cX4_isOrHolds 36 = .ok (.invokestatic 98, 3) := by decide +kernel
theorem dX4_isOrHolds_39 : decode cX4_isOrHolds 39 = .ok (.ifCond .ne 28, 3) := by decide +kernel
theorem dX4_isOrHolds_42 : decode cX4_isOrHolds 42 = .ok (.aload_n 0, 1) := by decide +kernel
theorem dX4_isOrHolds_43 : decode cX4_isOrHolds 43 = .ok (.getfield 23, 3) := by decide +kernel
theorem dX4_isOrHolds_46 : decode cX4_isOrHolds 46 = .ok (.iload_n 1, 1) := by decide +kernel
theorem dX4_isOrHolds_47 : decode cX4_isOrHolds 47 = .ok (.laload, 1) := by decide +kernel
theorem dX4_isOrHolds_48 : decode cX4_isOrHolds 48 = .ok (.lload_n 3, 1) := by decide +kernel
theorem dX4_isOrHolds_49 : decode cX4_isOrHolds 49 = .ok (.aload_n 0, 1) := by decide +kernel
theorem dX4_isOrHolds_50 : decode cX4_isOrHolds 50 = .ok (.getfield 23, 3) := by decide +kernel
theorem dX4_isOrHolds_53 : decode cX4_isOrHolds 53 = .ok (.iload_n 2, 1) := by decide +kernel
theorem dX4_isOrHolds_54 : decode cX4_isOrHolds 54 = .ok (.laload, 1) := by decide +kernel
theorem dX4_isOrHolds_55 : decode cX4_isOrHolds 55 = .ok (.lload 5, 2) := by decide +kernel
theorem dX4_isOrHolds_57 : decode cX4_isOrHolds 57 = .ok (.invokestatic 98, 3) := by decide +kernel
theorem dX4_isOrHolds_60 : decode cX4_isOrHolds 60 = .ok (.ifCond .ne 7, 3) := by decide +kernel
theorem dX4_isOrHolds_63 : decode cX4_isOrHolds 63 = .ok (.iconst 1, 1) := by decide +kernel
theorem dX4_isOrHolds_64 : decode cX4_isOrHolds 64 = .ok (.goto 4, 3) := by decide +kernel
theorem dX4_isOrHolds_67 : decode cX4_isOrHolds 67 = .ok (.iconst 0, 1) := by decide +kernel
theorem dX4_isOrHolds_68 : decode cX4_isOrHolds 68 = .ok (.ireturn, 1) := by decide +kernel
theorem dX4_held_0 : decode cX4_held 0 = .ok (.aload_n 0, 1) := by decide +kernel
theorem dX4_held_1 : decode cX4_held 1 = .ok (.iload_n 1, 1) := by decide +kernel
theorem dX4_held_2 : decode cX4_held 2 = .ok (.invokevirtual 58, 3) := by decide +kernel
theorem dX4_held_5 : decode cX4_held 5 = .ok (.ifCond .eq 15, 3) := by decide +kernel
theorem dX4_held_8 : decode cX4_held 8 = .ok (.iload_n 2, 1) := by decide +kernel
theorem dX4_held_9 : decode cX4_held 9 = .ok (.i2l, 1) := by decide +kernel
theorem dX4_held_10 : decode cX4_held 10 = .ok (.lconst 1, 1) := by decide +kernel
theorem dX4_held_11 : decode cX4_held 11 = .ok (.ldc2_w 132, 3) := by decide +kernel
theorem dX4_held_14 : decode cX4_held 14 = .ok (.invokestatic 46, 3) := by decide +kernel
theorem dX4_held_17 : decode cX4_held 17 = .ok (.ifCond .ne 5, 3) := by decide +kernel
theorem dX4_held_20 : decode cX4_held 20 = .ok (.iconst (-1), 1) := by decide +kernel
theorem dX4_held_21 : decode cX4_held 21 = .ok (.ireturn, 1) := by decide +kernel
theorem dX4_held_22 : decode cX4_held 22 = .ok (.iconst 0, 1) := by decide +kernel
theorem dX4_held_23 : decode cX4_held 23 = .ok (.istore_n 3, 1) := by decide +kernel
theorem dX4_held_24 : decode cX4_held 24 = .ok (.iconst 0, 1) := by decide +kernel
theorem dX4_held_25 : decode cX4_held 25 = .ok (.istore 4, 2) := by decide +kernel
theorem dX4_held_27 : decode cX4_held 27 = .ok (.iload 4, 2) := by decide +kernel
theorem dX4_held_29 : decode cX4_held 29 = .ok (.aload_n 0, 1) := by decide +kernel
theorem dX4_held_30 : decode cX4_held 30 = .ok (.getfield 117, 3) := by decide +kernel
theorem dX4_held_33 : decode cX4_held 33 = .ok (.if_icmp .ge 38, 3) := by decide +kernel
theorem dX4_held_36 : decode cX4_held 36 = .ok (.iload_n 3, 1) := by decide +kernel
theorem dX4_held_37 : decode cX4_held 37 = .ok (.aload_n 0, 1) := by decide +kernel
theorem dX4_held_38 : decode cX4_held 38 = .ok (.getfield 16, 3) := by decide +kernel
theorem dX4_held_41 : decode cX4_held 41 = .ok (.iload 4, 2) := by decide +kernel
theorem dX4_held_43 : decode cX4_held 43 = .ok (.iaload, 1) := by decide +kernel
theorem dX4_held_44 : decode cX4_held 44 = .ok (.iload_n 2, 1) := by decide +kernel
theorem dX4_held_45 : decode cX4_held 45 = .ok (.if_icmp .gt 17, 3) := by decide +kernel
theorem dX4_held_48 : decode cX4_held 48 = .ok (.aload_n 0, 1) := by decide +kernel
theorem dX4_held_49 : decode cX4_held 49 = .ok (.iload 4, 2) := by decide +kernel
theorem dX4_held_51 : decode cX4_held 51 = .ok (.iload_n 1, 1) := by decide +kernel
theorem dX4_held_52 : decode cX4_held 52 = .ok (.invokevirtual 143, 3) := by decide +kernel
theorem dX4_held_55 : decode cX4_held 55 = .ok (.ifCond .eq 7, 3) := by decide +kernel
theorem dX4_held_58 : decode cX4_held 58 = .ok (.iconst 1, 1) := by decide +kernel
theorem dX4_held_59 : decode cX4_held 59 = .ok (.goto 4, 3) := by decide +kernel
theorem dX4_held_62 : decode cX4_held 62 = .ok (.iconst 0, 1) := by decide +kernel
theorem dX4_held_63 : decode cX4_held 63 = .ok (.iadd, 1) := by decide +kernel
theorem dX4_held_64 : decode cX4_held 64 = .ok (.istore_n 3, 1) := by decide +kernel
theorem dX4_held_65 : decode cX4_held 65 = .ok (.iinc 4 1, 3) := by decide +kernel
theorem dX4_held_68 : decode cX4_held 68 = .ok (.goto (-41), 3) := by decide +kernel
theorem dX4_held_71 : decode cX4_held 71 = .ok (.iload_n 3, 1) := by decide +kernel
theorem dX4_held_72 : decode cX4_held 72 = .ok (.ireturn, 1) := by decide +kernel
theorem dX4_holder_0 : decode cX4_holder 0 = .ok (.aload_n 0, 1) := by decide +kernel
theorem dX4_holder_1 : decode cX4_holder 1 = .ok (.iload_n 1, 1) := by decide +kernel
theorem dX4_holder_2 : decode cX4_holder 2 = .ok (.invokevirtual 58, 3) := by decide +kernel
theorem dX4_holder_5 : decode cX4_holder 5 = .ok (.ifCond .eq 30, 3) := by decide +kernel
theorem dX4_holder_8 : decode cX4_holder 8 = .ok (.iload_n 2, 1) := by decide +kernel
theorem dX4_holder_9 : decode cX4_holder 9 = .ok (.i2l, 1) := by decide +kernel
theorem dX4_holder_10 : decode cX4_holder 10 = .ok (.lconst 1, 1) := by decide +kernel
theorem dX4_holder_11 : decode cX4_holder 11 = .ok (.ldc2_w 132, 3) := by decide +kernel
theorem dX4_holder_14 : decode cX4_holder 14 = .ok (.invokestatic 46, 3) := by decide +kernel
theorem dX4_holder_17 : decode cX4_holder 17 = .ok (.ifCond .eq 18, 3) := by decide +kernel
theorem dX4_holder_20 : decode cX4_holder 20 = .ok (.iload_n 3, 1) := by decide +kernel
theorem dX4_holder_21 : decode cX4_holder 21 = .ok (.ifCond .lt 14, 3) := by decide +kernel
theorem dX4_holder_24 : decode cX4_holder 24 = .ok (.iload 4, 2) := by decide +kernel
theorem dX4_holder_26 : decode cX4_holder 26 = .ok (.i2l, 1) := by decide +kernel
theorem dX4_holder_27 : decode cX4_holder 27 = .ok (.lconst 0, 1) := by decide +kernel
theorem dX4_holder_28 : decode cX4_holder 28 = .ok (.lconst 1, 1) := by decide +kernel
theorem dX4_holder_29 : decode cX4_holder 29 = .ok (.invokestatic 46, 3) := by decide +kernel
theorem dX4_holder_32 : decode cX4_holder 32 = .ok (.ifCond .ne 5, 3) := by decide +kernel
theorem dX4_holder_35 : decode cX4_holder 35 = .ok (.iconst (-1), 1) := by decide +kernel
theorem dX4_holder_36 : decode cX4_holder 36 = .ok (.ireturn, 1) := by decide +kernel
theorem dX4_holder_37 : decode cX4_holder 37 = .ok (.iconst 0, 1) := by decide +kernel
theorem dX4_holder_38 : decode cX4_holder 38 = .ok (.istore 5, 2) := by decide +kernel
theorem dX4_holder_40 : decode cX4_holder 40 = .ok (.iload 5, 2) := by decide +kernel
theorem dX4_holder_42 : decode cX4_holder 42 = .ok (.aload_n 0, 1) := by decide +kernel
theorem dX4_holder_43 : decode cX4_holder 43 = .ok (.getfield 117, 3) := by decide +kernel
theorem dX4_holder_46 : decode cX4_holder 46 = .ok (.if_icmp .ge 136, 3) := by decide +kernel
theorem dX4_holder_49 : decode cX4_holder 49 = .ok (.aload_n 0, 1) := by decide +kernel
theorem dX4_holder_50 : decode cX4_holder 50 = .ok (.getfield 16, 3) := by decide +kernel
theorem dX4_holder_53 : decode cX4_holder 53 = .ok (.iload 5, 2) := by decide +kernel
theorem dX4_holder_55 : decode cX4_holder 55 = .ok (.iaload, 1) := by decide +kernel
theorem dX4_holder_56 : decode cX4_holder 56 = .ok (.iload_n 2, 1) := by decide +kernel
theorem dX4_holder_57 : decode cX4_holder 57 = .ok (.if_icmp .gt 119, 3) := by decide +kernel
theorem dX4_holder_60 : decode cX4_holder 60 = .ok (.aload_n 0, 1) := by decide +kernel
theorem dX4_holder_61 : decode cX4_holder 61 = .ok (.iload 5, 2) := by decide +kernel
theorem dX4_holder_63 : decode cX4_holder 63 = .ok (.iload_n 1, 1) := by decide +kernel
theorem dX4_holder_64 : decode cX4_holder 64 = .ok (.invokevirtual 143, 3) := by decide +kernel
theorem dX4_holder_67 : decode cX4_holder 67 = .ok (.ifCond .eq 109, 3) := by decide +kernel
theorem dX4_holder_70 : decode cX4_holder 70 = .ok (.iconst 0, 1) := by decide +kernel
theorem dX4_holder_71 : decode cX4_holder 71 = .ok (.istore 6, 2) := by decide +kernel
theorem dX4_holder_73 : decode cX4_holder 73 = .ok (.iconst 0, 1) := by decide +kernel
theorem dX4_holder_74 : decode cX4_holder 74 = .ok (.istore 7, 2) := by decide +kernel
theorem dX4_holder_76 : decode cX4_holder 76 = .ok (.iload 7, 2) := by decide +kernel
theorem dX4_holder_78 : decode cX4_holder 78 = .ok (.aload_n 0, 1) := by decide +kernel
theorem dX4_holder_79 : decode cX4_holder 79 = .ok (.getfield 117, 3) := by decide +kernel
theorem dX4_holder_82 : decode cX4_holder 82 = .ok (.if_icmp .ge 58, 3) := by decide +kernel
theorem dX4_holder_85 : decode cX4_holder 85 = .ok (.iload 6, 2) := by decide +kernel
theorem dX4_holder_87 : decode cX4_holder 87 = .ok (.iload 7, 2) := by decide +kernel
theorem dX4_holder_89 : decode cX4_holder 89 = .ok (.iload 5, 2) := by decide +kernel
theorem dX4_holder_91 : decode cX4_holder 91 = .ok (.if_icmp .eq 39, 3) := by decide +kernel
theorem dX4_holder_94 : decode cX4_holder 94 = .ok (.aload_n 0, 1) := by decide +kernel
theorem dX4_holder_95 : decode cX4_holder 95 = .ok (.getfield 16, 3) := by decide +kernel
theorem dX4_holder_98 : decode cX4_holder 98 = .ok (.iload 7, 2) := by decide +kernel
theorem dX4_holder_100 : decode cX4_holder 100 = .ok (.iaload, 1) := by decide +kernel
theorem dX4_holder_101 : decode cX4_holder 101 = .ok (.iload_n 2, 1) := by decide +kernel
theorem dX4_holder_102 : decode cX4_holder 102 = .ok (.if_icmp .gt 28, 3) := by decide +kernel
theorem dX4_holder_105 : decode cX4_holder 105 = .ok (.aload_n 0, 1) := by decide +kernel
theorem dX4_holder_106 : decode cX4_holder 106 = .ok (.iload 7, 2) := by decide +kernel
theorem dX4_holder_108 : decode cX4_holder 108 = .ok (.iload_n 1, 1) := by decide +kernel
theorem dX4_holder_109 : decode cX4_holder 109 = .ok (.invokevirtual 143, 3) := by decide +kernel
theorem dX4_holder_112 : decode cX4_holder 112 = .ok (.ifCond .eq 18, 3) := by decide +kernel
theorem dX4_holder_115 : decode cX4_holder 115 = .ok (.aload_n 0, 1) := by decide +kernel
theorem dX4_holder_116 : decode cX4_holder 116 = .ok (.iload 7, 2) := by decide +kernel
theorem dX4_holder_118 : decode cX4_holder 118 = .ok (.iload 5, 2) := by decide +kernel
theorem dX4_holder_120 : decode cX4_holder 120 = .ok (.invokevirtual 146, 3) := by decide +kernel
theorem dX4_holder_123 : decode cX4_holder 123 = .ok (.ifCond .eq 7, 3) := by decide +kernel
theorem dX4_holder_126 : decode cX4_holder 126 = .ok (.iconst 1, 1) := by decide +kernel
theorem dX4_holder_127 : decode cX4_holder 127 = .ok (.goto 4, 3) := by decide +kernel
theorem dX4_holder_130 : decode cX4_holder 130 = .ok (.iconst 0, 1) := by decide +kernel
theorem dX4_holder_131 : decode cX4_holder 131 = .ok (.iadd, 1) := by decide +kernel
theorem dX4_holder_132 : decode cX4_holder 132 = .ok (.istore 6, 2) := by decide +kernel
theorem dX4_holder_134 : decode cX4_holder 134 = .ok (.iinc 7 1, 3) := by decide +kernel
theorem dX4_holder_137 : decode cX4_holder 137 = .ok (.goto (-61), 3) := by decide +kernel
theorem dX4_holder_140 : decode cX4_holder 140 = .ok (.iload 6, 2) := by decide +kernel
theorem dX4_holder_142 : decode cX4_holder 142 = .ok (.iload_n 3, 1) := by decide +kernel
theorem dX4_holder_143 : decode cX4_holder 143 = .ok (.if_icmp .ne 33, 3) := by decide +kernel
theorem dX4_holder_146 : decode cX4_holder 146 = .ok (.iload 4, 2) := by decide +kernel
theorem dX4_holder_148 : decode cX4_holder 148 = .ok (.ifCond .ne 13, 3) := by decide +kernel
theorem dX4_holder_151 : decode cX4_holder 151 = .ok (.aload_n 0, 1) := by decide +kernel
theorem dX4_holder_152 : decode cX4_holder 152 = .ok (.getfield 16, 3) := by decide +kernel
theorem dX4_holder_155 : decode cX4_holder 155 = .ok (.iload 5, 2) := by decide +kernel
theorem dX4_holder_157 : decode cX4_holder 157 = .ok (.iaload, 1) := by decide +kernel
theorem dX4_holder_158 : decode cX4_holder 158 = .ok (.goto 17, 3) := by decide +kernel
theorem dX4_holder_161 : decode cX4_holder 161 = .ok (.iload 5, 2) := by decide +kernel
theorem dX4_holder_163 : decode cX4_holder 163 = .ok (.aload_n 0, 1) := by decide +kernel
theorem dX4_holder_164 : decode cX4_holder 164 = .ok (.aload_n 0, 1) := by decide +kernel
theorem dX4_holder_165 : decode cX4_holder 165 = .ok (.getfield 16, 3) := by decide +kernel
theorem dX4_holder_168 : decode cX4_holder 168 = .ok (.iload 5, 2) := by decide +kernel
theorem dX4_holder_170 : decode cX4_holder 170 = .ok (.iaload, 1) := by decide +kernel
theorem dX4_holder_171 : decode cX4_holder 171 = .ok (.invokevirtual 137, 3) := by decide +kernel
theorem dX4_holder_174 : decode cX4_holder 174 = .ok (.isub, 1) := by decide +kernel
theorem dX4_holder_175 : decode cX4_holder 175 = .ok (.ireturn, 1) := by decide +kernel
theorem dX4_holder_176 : decode cX4_holder 176 = .ok (.iinc 5 1, 3) := by decide +kernel
theorem dX4_holder_179 : decode cX4_holder 179 = .ok (.goto (-139), 3) := by decide +kernel
theorem dX4_holder_182 : decode cX4_holder 182 = .ok (.bipush (-4), 2) := by decide +kernel
theorem dX4_holder_184 : decode cX4_holder 184 = .ok (.ireturn, 1) := by decide +kernel
theorem dX4_holds_0 : decode cX4_holds 0 = .ok (.aload_n 0, 1) := by decide +kernel
theorem dX4_holds_1 : decode cX4_holds 1 = .ok (.iload_n 1, 1) := by decide +kernel
theorem dX4_holds_2 : decode cX4_holds 2 = .ok (.invokevirtual 58, 3) := by decide +kernel
theorem dX4_holds_5 : decode cX4_holds 5 = .ok (.ifCond .eq 11, 3) := by decide +kernel
theorem dX4_holds_8 : decode cX4_holds 8 = .ok (.aload_n 0, 1) := by decide +kernel
theorem dX4_holds_9 : decode cX4_holds 9 = .ok (.iload_n 2, 1) := by decide +kernel
theorem dX4_holds_10 : decode cX4_holds 10 = .ok (.invokevirtual 58, 3) := by decide +kernel
theorem dX4_holds_13 : decode cX4_holds 13 = .ok (.ifCond .ne 5, 3) := by decide +kernel
theorem dX4_holds_16 : decode cX4_holds 16 = .ok (.iconst (-1), 1) := by decide +kernel
theorem dX4_holds_17 : decode cX4_holds 17 = .ok (.ireturn, 1) := by decide +kernel
theorem dX4_holds_18 : decode cX4_holds 18 = .ok (.aload_n 0, 1) := by decide +kernel
theorem dX4_holds_19 : decode cX4_holds 19 = .ok (.iload_n 1, 1) := by decide +kernel
theorem dX4_holds_20 : decode cX4_holds 20 = .ok (.invokevirtual 140, 3) := by decide +kernel
theorem dX4_holds_23 : decode cX4_holds 23 = .ok (.istore_n 3, 1) := by decide +kernel
theorem dX4_holds_24 : decode cX4_holds 24 = .ok (.aload_n 0, 1) := by decide +kernel
theorem dX4_holds_25 : decode cX4_holds 25 = .ok (.iload_n 2, 1) := by decide +kernel
theorem dX4_holds_26 : decode cX4_holds 26 = .ok (.invokevirtual 140, 3) := by decide +kernel
theorem dX4_holds_29 : decode cX4_holds 29 = .ok (.istore 4, 2) := by decide +kernel
theorem dX4_holds_31 : decode cX4_holds 31 = .ok (.iload_n 3, 1) := by decide +kernel
theorem dX4_holds_32 : decode cX4_holds 32 = .ok (.bipush (-4), 2) := by decide +kernel
theorem dX4_holds_34 : decode cX4_holds 34 = .ok (.if_icmp .eq 10, 3) := by decide +kernel
theorem dX4_holds_37 : decode cX4_holds 37 = .ok (.iload 4, 2) := by decide +kernel
theorem dX4_holds_39 : decode cX4_holds 39 = .ok (.bipush (-4), 2) := by decide +kernel
theorem dX4_holds_41 : decode cX4_holds 41 = .ok (.if_icmp .ne 8, 3) := by decide +kernel
theorem dX4_holds_44 : decode cX4_holds 44 = .ok (.bipush (-2), 2) := by decide +kernel
theorem dX4_holds_46 : decode cX4_holds 46 = .ok (.goto 18, 3) := by decide +kernel
theorem dX4_holds_49 : decode cX4_holds 49 = .ok (.aload_n 0, 1) := by decide +kernel
theorem dX4_holds_50 : decode cX4_holds 50 = .ok (.iload_n 3, 1) := by decide +kernel
theorem dX4_holds_51 : decode cX4_holds 51 = .ok (.iload 4, 2) := by decide +kernel
theorem dX4_holds_53 : decode cX4_holds 53 = .ok (.invokevirtual 146, 3) := by decide +kernel
theorem dX4_holds_56 : decode cX4_holds 56 = .ok (.ifCond .eq 7, 3) := by decide +kernel
theorem dX4_holds_59 : decode cX4_holds 59 = .ok (.iconst 1, 1) := by decide +kernel
theorem dX4_holds_60 : decode cX4_holds 60 = .ok (.goto 4, 3) := by decide +kernel
theorem dX4_holds_63 : decode cX4_holds 63 = .ok (.iconst 0, 1) := by decide +kernel
theorem dX4_holds_64 : decode cX4_holds 64 = .ok (.ireturn, 1) := by decide +kernel
theorem dX4_between_0 : decode cX4_between 0 = .ok (.aload_n 0, 1) := by decide +kernel
theorem dX4_between_1 : decode cX4_between 1 = .ok (.iload_n 1, 1) := by decide +kernel
theorem dX4_between_2 : decode cX4_between 2 = .ok (.invokevirtual 58, 3) := by decide +kernel
theorem dX4_between_5 : decode cX4_between 5 = .ok (.ifCond .eq 23, 3) := by decide +kernel
theorem dX4_between_8 : decode cX4_between 8 = .ok (.aload_n 0, 1) := by decide +kernel
theorem dX4_between_9 : decode cX4_between 9 = .ok (.iload_n 2, 1) := by decide +kernel
theorem dX4_between_10 : decode cX4_between 10 = .ok (.invokevirtual 58, 3) := by decide +kernel
theorem dX4_between_13 : decode cX4_between 13 = .ok (.ifCond .eq 15, 3) := by decide +kernel
theorem dX4_between_16 : decode cX4_between 16 = .ok (.iload_n 3, 1) := by decide +kernel
theorem dX4_between_17 : decode cX4_between 17 = .ok (.i2l, 1) := by decide +kernel
theorem dX4_between_18 : decode cX4_between 18 = .ok (.lconst 1, 1) := by decide +kernel
theorem dX4_between_19 : decode cX4_between 19 = .ok (.ldc2_w 132, 3) := by decide +kernel
theorem dX4_between_22 : decode cX4_between 22 = .ok (.invokestatic 46, 3) := by decide +kernel
theorem dX4_between_25 : decode cX4_between 25 = .ok (.ifCond .ne 5, 3) := by decide +kernel
theorem dX4_between_28 : decode cX4_between 28 = .ok (.iconst (-1), 1) := by decide +kernel
theorem dX4_between_29 : decode cX4_between 29 = .ok (.ireturn, 1) := by decide +kernel
theorem dX4_between_30 : decode cX4_between 30 = .ok (.aload_n 0, 1) := by decide +kernel
theorem dX4_between_31 : decode cX4_between 31 = .ok (.iload_n 1, 1) := by decide +kernel
theorem dX4_between_32 : decode cX4_between 32 = .ok (.invokevirtual 140, 3) := by decide +kernel
theorem dX4_between_35 : decode cX4_between 35 = .ok (.istore 4, 2) := by decide +kernel
theorem dX4_between_37 : decode cX4_between 37 = .ok (.aload_n 0, 1) := by decide +kernel
theorem dX4_between_38 : decode cX4_between 38 = .ok (.iload_n 2, 1) := by decide +kernel
theorem dX4_between_39 : decode cX4_between 39 = .ok (.invokevirtual 140, 3) := by decide +kernel
theorem dX4_between_42 : decode cX4_between 42 = .ok (.istore 5, 2) := by decide +kernel
theorem dX4_between_44 : decode cX4_between 44 = .ok (.iload 4, 2) := by decide +kernel
theorem dX4_between_46 : decode cX4_between 46 = .ok (.bipush (-4), 2) := by decide +kernel
theorem dX4_between_48 : decode cX4_between 48 = .ok (.if_icmp .eq 32, 3) := by decide +kernel
theorem dX4_between_51 : decode cX4_between 51 = .ok (.iload 5, 2) := by decide +kernel
theorem dX4_between_53 : decode cX4_between 53 = .ok (.bipush (-4), 2) := by decide +kernel
theorem dX4_between_55 : decode cX4_between 55 = .ok (.if_icmp .eq 25, 3) := by decide +kernel
theorem dX4_between_58 : decode cX4_between 58 = .ok (.aload_n 0, 1) := by decide +kernel
theorem dX4_between_59 : decode cX4_between 59 = .ok (.iload 4, 2) := by decide +kernel
theorem dX4_between_61 : decode cX4_between 61 = .ok (.iload 5, 2) := by decide +kernel
theorem dX4_between_63 : decode cX4_between 63 = .ok (.invokevirtual 146, 3) := by decide +kernel
theorem dX4_between_66 : decode cX4_between 66 = .ok (.ifCond .ne 17, 3) := by decide +kernel
theorem dX4_between_69 : decode cX4_between 69 = .ok (.aload_n 0, 1) := by decide +kernel
theorem dX4_between_70 : decode cX4_between 70 = .ok (.iload 5, 2) := by decide +kernel
theorem dX4_between_72 : decode cX4_between 72 = .ok (.iload 4, 2) := by decide +kernel
theorem dX4_between_74 : decode cX4_between 74 = .ok (.invokevirtual 146, 3) := by decide +kernel
theorem dX4_between_77 : decode cX4_between 77 = .ok (.ifCond .ne 6, 3) := by decide +kernel
theorem dX4_between_80 : decode cX4_between 80 = .ok (.bipush (-2), 2) := by decide +kernel
theorem dX4_between_82 : decode cX4_between 82 = .ok (.ireturn, 1) := by decide +kernel
theorem dX4_between_83 : decode cX4_between 83 = .ok (.aload_n 0, 1) := by decide +kernel
theorem dX4_between_84 : decode cX4_between 84 = .ok (.iload 4, 2) := by decide +kernel
theorem dX4_between_86 : decode cX4_between 86 = .ok (.iload 5, 2) := by decide +kernel
theorem dX4_between_88 : decode cX4_between 88 = .ok (.invokevirtual 146, 3) := by decide +kernel
theorem dX4_between_91 : decode cX4_between 91 = .ok (.ifCond .eq 8, 3) := by decide +kernel
theorem dX4_between_94 : decode cX4_between 94 = .ok (.iload 4, 2) := by decide +kernel
theorem dX4_between_96 : decode cX4_between 96 = .ok (.goto 5, 3) := by decide +kernel
theorem dX4_between_99 : decode cX4_between 99 = .ok (.iload 5, 2) := by decide +kernel
theorem dX4_between_101 : decode cX4_between 101 = .ok (.istore 6, 2) := by decide +kernel
theorem dX4_between_103 : decode cX4_between 103 = .ok (.iload 6, 2) := by decide +kernel
theorem dX4_between_105 : decode cX4_between 105 = .ok (.iload 4, 2) := by decide +kernel
theorem dX4_between_107 : decode cX4_between 107 = .ok (.if_icmp .ne 8, 3) := by decide +kernel
theorem dX4_between_110 : decode cX4_between 110 = .ok (.iload 5, 2) := by decide +kernel
theorem dX4_between_112 : decode cX4_between 112 = .ok (.goto 5, 3) := by decide +kernel
theorem dX4_between_115 : decode cX4_between 115 = .ok (.iload 4, 2) := by decide +kernel
theorem dX4_between_117 : decode cX4_between 117 = .ok (.istore 7, 2) := by decide +kernel
theorem dX4_between_119 : decode cX4_between 119 = .ok (.iconst 0, 1) := by decide +kernel
theorem dX4_between_120 : decode cX4_between 120 = .ok (.istore 8, 2) := by decide +kernel
theorem dX4_between_122 : decode cX4_between 122 = .ok (.iconst 0, 1) := by decide +kernel
theorem dX4_between_123 : decode cX4_between 123 = .ok (.istore 9, 2) := by decide +kernel
theorem dX4_between_125 : decode cX4_between 125 = .ok (.iload 9, 2) := by decide +kernel
theorem dX4_between_127 : decode cX4_between 127 = .ok (.aload_n 0, 1) := by decide +kernel
theorem dX4_between_128 : decode cX4_between 128 = .ok (.getfield 117, 3) := by decide +kernel
theorem dX4_between_131 : decode cX4_between 131 = .ok (.if_icmp .ge 66, 3) := by decide +kernel
theorem dX4_between_134 : decode cX4_between 134 = .ok (.iload 8, 2) := by decide +kernel
theorem dX4_between_136 : decode cX4_between 136 = .ok (.iload 9, 2) := by decide +kernel
theorem dX4_between_138 : decode cX4_between 138 = .ok (.iload 6, 2) := by decide +kernel
theorem dX4_between_140 : decode cX4_between 140 = .ok (.if_icmp .eq 47, 3) := by decide +kernel
theorem dX4_between_143 : decode cX4_between 143 = .ok (.iload 9, 2) := by decide +kernel
theorem dX4_between_145 : decode cX4_between 145 = .ok (.iload 7, 2) := by decide +kernel
theorem dX4_between_147 : decode cX4_between 147 = .ok (.if_icmp .eq 40, 3) := by decide +kernel
theorem dX4_between_150 : decode cX4_between 150 = .ok (.aload_n 0, 1) := by decide +kernel
theorem dX4_between_151 : decode cX4_between 151 = .ok (.getfield 16, 3) := by decide +kernel
theorem dX4_between_154 : decode cX4_between 154 = .ok (.iload 9, 2) := by decide +kernel
theorem dX4_between_156 : decode cX4_between 156 = .ok (.iaload, 1) := by decide +kernel
theorem dX4_between_157 : decode cX4_between 157 = .ok (.iload_n 3, 1) := by decide +kernel
theorem dX4_between_158 : decode cX4_between 158 = .ok (.if_icmp .gt 29, 3) := by decide +kernel
theorem dX4_between_161 : decode cX4_between 161 = .ok (.aload_n 0, 1) := by decide +kernel
theorem dX4_between_162 : decode cX4_between 162 = .ok (.iload 6, 2) := by decide +kernel
theorem dX4_between_164 : decode cX4_between 164 = .ok (.iload 9, 2) := by decide +kernel
theorem dX4_between_166 : decode cX4_between 166 = .ok (.invokevirtual 146, 3) := by decide +kernel
theorem dX4_between_169 : decode cX4_between 169 = .ok (.ifCond .eq 18, 3) := by decide +kernel
theorem dX4_between_172 : decode cX4_between 172 = .ok (.aload_n 0, 1) := by decide +kernel
theorem dX4_between_173 : decode cX4_between 173 = .ok (.iload 9, 2) := by decide +kernel
theorem dX4_between_175 : decode cX4_between 175 = .ok (.iload 7, 2) := by decide +kernel
theorem dX4_between_177 : decode cX4_between 177 = .ok (.invokevirtual 146, 3) := by decide +kernel
theorem dX4_between_180 : decode cX4_between 180 = .ok (.ifCond .eq 7, 3) := by decide +kernel
theorem dX4_between_183 : decode cX4_between 183 = .ok (.iconst 1, 1) := by decide +kernel
theorem dX4_between_184 : decode cX4_between 184 = .ok (.goto 4, 3) := by decide +kernel
theorem dX4_between_187 : decode cX4_between 187 = .ok (.iconst 0, 1) := by decide +kernel
theorem dX4_between_188 : decode cX4_between 188 = .ok (.iadd, 1) := by decide +kernel
theorem dX4_between_189 : decode cX4_between 189 = .ok (.istore 8, 2) := by decide +kernel
theorem dX4_between_191 : decode cX4_between 191 = .ok (.iinc 9 1, 3) := by decide +kernel
theorem dX4_between_194 : decode cX4_between 194 = .ok (.goto (-69), 3) := by decide +kernel
theorem dX4_between_197 : decode cX4_between 197 = .ok (.iload 8, 2) := by decide +kernel
theorem dX4_between_199 : decode cX4_between 199 = .ok (.ireturn, 1) := by decide +kernel
theorem dX4_within_0 : decode cX4_within 0 = .ok (.aload_n 0, 1) := by decide +kernel
theorem dX4_within_1 : decode cX4_within 1 = .ok (.getfield 16, 3) := by decide +kernel
theorem dX4_within_4 : decode cX4_within 4 = .ok (.iload_n 1, 1) := by decide +kernel
theorem dX4_within_5 : decode cX4_within 5 = .ok (.iaload, 1) := by decide +kernel
theorem dX4_within_6 : decode cX4_within 6 = .ok (.invokestatic 113, 3) := by decide +kernel
theorem dX4_within_9 : decode cX4_within 9 = .ok (.lstore_n 3, 1) := by decide +kernel
theorem dX4_within_10 : decode cX4_within 10 = .ok (.aload_n 0, 1) := by decide +kernel
theorem dX4_within_11 : decode cX4_within 11 = .ok (.getfield 20, 3) := by decide +kernel
theorem dX4_within_14 : decode cX4_within 14 = .ok (.iload_n 1, 1) := by decide +kernel
theorem dX4_within_15 : decode cX4_within 15 = .ok (.laload, 1) := by decide +kernel
theorem dX4_within_16 : decode cX4_within 16 = .ok (.iload_n 2, 1) := by decide +kernel
theorem dX4_within_17 : decode cX4_within 17 = .ok (.invokestatic 113, 3) := by decide +kernel
theorem dX4_within_20 : decode cX4_within 20 = .ok (.lmul, 1) := by decide +kernel
theorem dX4_within_21 : decode cX4_within 21 = .ok (.lload_n 3, 1) := by decide +kernel
theorem dX4_within_22 : decode cX4_within 22 = .ok (.ladd, 1) := by decide +kernel
theorem dX4_within_23 : decode cX4_within 23 = .ok (.lconst 1, 1) := by decide +kernel
theorem dX4_within_24 : decode cX4_within 24 = .ok (.lsub, 1) := by decide +kernel
theorem dX4_within_25 : decode cX4_within 25 = .ok (.lload_n 3, 1) := by decide +kernel
theorem dX4_within_26 : decode cX4_within 26 = .ok (.ldiv, 1) := by decide +kernel
theorem dX4_within_27 : decode cX4_within 27 = .ok (.lstore 5, 2) := by decide +kernel
theorem dX4_within_29 : decode cX4_within 29 = .ok (.aload_n 0, 1) := by decide +kernel
theorem dX4_within_30 : decode cX4_within 30 = .ok (.getfield 23, 3) := by decide +kernel
theorem dX4_within_33 : decode cX4_within 33 = .ok (.iload_n 1, 1) := by decide +kernel
theorem dX4_within_34 : decode cX4_within 34 = .ok (.laload, 1) := by decide +kernel
theorem dX4_within_35 : decode cX4_within 35 = .ok (.iload_n 2, 1) := by decide +kernel
theorem dX4_within_36 : decode cX4_within 36 = .ok (.invokestatic 113, 3) := by decide +kernel
theorem dX4_within_39 : decode cX4_within 39 = .ok (.lmul, 1) := by decide +kernel
theorem dX4_within_40 : decode cX4_within 40 = .ok (.lload_n 3, 1) := by decide +kernel
theorem dX4_within_41 : decode cX4_within 41 = .ok (.ldiv, 1) := by decide +kernel
theorem dX4_within_42 : decode cX4_within 42 = .ok (.lstore 7, 2) := by decide +kernel
theorem dX4_within_44 : decode cX4_within 44 = .ok (.lload 7, 2) := by decide +kernel
theorem dX4_within_46 : decode cX4_within 46 = .ok (.lload 5, 2) := by decide +kernel
theorem dX4_within_48 : decode cX4_within 48 = .ok (.lsub, 1) := by decide +kernel
theorem dX4_within_49 : decode cX4_within 49 = .ok (.lconst 1, 1) := by decide +kernel
theorem dX4_within_50 : decode cX4_within 50 = .ok (.ladd, 1) := by decide +kernel
theorem dX4_within_51 : decode cX4_within 51 = .ok (.lreturn, 1) := by decide +kernel
theorem dX4_wide_0 : decode cX4_wide 0 = .ok (.aload_n 0, 1) := by decide +kernel
theorem dX4_wide_1 : decode cX4_wide 1 = .ok (.iload_n 1, 1) := by decide +kernel
theorem dX4_wide_2 : decode cX4_wide 2 = .ok (.invokevirtual 58, 3) := by decide +kernel
theorem dX4_wide_5 : decode cX4_wide 5 = .ok (.ifCond .eq 15, 3) := by decide +kernel
theorem dX4_wide_8 : decode cX4_wide 8 = .ok (.iload_n 2, 1) := by decide +kernel
theorem dX4_wide_9 : decode cX4_wide 9 = .ok (.i2l, 1) := by decide +kernel
theorem dX4_wide_10 : decode cX4_wide 10 = .ok (.lconst 1, 1) := by decide +kernel
theorem dX4_wide_11 : decode cX4_wide 11 = .ok (.ldc2_w 81, 3) := by decide +kernel
theorem dX4_wide_14 : decode cX4_wide 14 = .ok (.invokestatic 46, 3) := by decide +kernel
theorem dX4_wide_17 : decode cX4_wide 17 = .ok (.ifCond .ne 5, 3) := by decide +kernel
theorem dX4_wide_20 : decode cX4_wide 20 = .ok (.iconst (-1), 1) := by decide +kernel
theorem dX4_wide_21 : decode cX4_wide 21 = .ok (.ireturn, 1) := by decide +kernel
theorem dX4_wide_22 : decode cX4_wide 22 = .ok (.aload_n 0, 1) := by decide +kernel
theorem dX4_wide_23 : decode cX4_wide 23 = .ok (.iload_n 1, 1) := by decide +kernel
theorem dX4_wide_24 : decode cX4_wide 24 = .ok (.invokevirtual 140, 3) := by decide +kernel
theorem dX4_wide_27 : decode cX4_wide 27 = .ok (.istore_n 3, 1) := by decide +kernel
theorem dX4_wide_28 : decode cX4_wide 28 = .ok (.iload_n 3, 1) := by decide +kernel
theorem dX4_wide_29 : decode cX4_wide 29 = .ok (.bipush (-4), 2) := by decide +kernel
theorem dX4_wide_31 : decode cX4_wide 31 = .ok (.if_icmp .ne 6, 3) := by decide +kernel
theorem dX4_wide_34 : decode cX4_wide 34 = .ok (.bipush (-2), 2) := by decide +kernel
theorem dX4_wide_36 : decode cX4_wide 36 = .ok (.ireturn, 1) := by decide +kernel
theorem dX4_wide_37 : decode cX4_wide 37 = .ok (.lconst 0, 1) := by decide +kernel
theorem dX4_wide_38 : decode cX4_wide 38 = .ok (.lstore 4, 2) := by decide +kernel
theorem dX4_wide_40 : decode cX4_wide 40 = .ok (.iconst 1, 1) := by decide +kernel
theorem dX4_wide_41 : decode cX4_wide 41 = .ok (.istore 6, 2) := by decide +kernel
theorem dX4_wide_43 : decode cX4_wide 43 = .ok (.iload 6, 2) := by decide +kernel
theorem dX4_wide_45 : decode cX4_wide 45 = .ok (.iload_n 2, 1) := by decide +kernel
theorem dX4_wide_46 : decode cX4_wide 46 = .ok (.if_icmp .gt 41, 3) := by decide +kernel
theorem dX4_wide_49 : decode cX4_wide 49 = .ok (.lload 4, 2) := by decide +kernel
theorem dX4_wide_51 : decode cX4_wide 51 = .ok (.iload_n 2, 1) := by decide +kernel
theorem dX4_wide_52 : decode cX4_wide 52 = .ok (.iload 6, 2) := by decide +kernel
theorem dX4_wide_54 : decode cX4_wide 54 = .ok (.irem, 1) := by decide +kernel
theorem dX4_wide_55 : decode cX4_wide 55 = .ok (.ifCond .ne 22, 3) := by decide +kernel
theorem dX4_wide_58 : decode cX4_wide 58 = .ok (.iload_n 2, 1) := by decide +kernel
theorem dX4_wide_59 : decode cX4_wide 59 = .ok (.iload 6, 2) := by decide +kernel
theorem dX4_wide_61 : decode cX4_wide 61 = .ok (.idiv, 1) := by decide +kernel
theorem dX4_wide_62 : decode cX4_wide 62 = .ok (.invokestatic 83, 3) := by decide +kernel
theorem dX4_wide_65 : decode cX4_wide 65 = .ok (.i2l, 1) := by decide +kernel
theorem dX4_wide_66 : decode cX4_wide 66 = .ok (.aload_n 0, 1) := by decide +kernel
theorem dX4_wide_67 : decode cX4_wide 67 = .ok (.iload_n 3, 1) := by decide +kernel
theorem dX4_wide_68 : decode cX4_wide 68 = .ok (.iload 6, 2) := by decide +kernel
theorem dX4_wide_70 : decode cX4_wide 70 = .ok (.invokevirtual 149, 3) := by decide +kernel
theorem dX4_wide_73 : decode cX4_wide 73 = .ok (.lmul, 1) := by decide +kernel
theorem dX4_wide_74 : decode cX4_wide 74 = .ok (.goto 4, 3) := by decide +kernel
theorem dX4_wide_77 : decode cX4_wide 77 = .ok (.lconst 0, 1) := by decide +kernel
theorem dX4_wide_78 : decode cX4_wide 78 = .ok (.ladd, 1) := by decide +kernel
theorem dX4_wide_79 : decode cX4_wide 79 = .ok (.lstore 4, 2) := by decide +kernel
theorem dX4_wide_81 : decode cX4_wide 81 = .ok (.iinc 6 1, 3) := by decide +kernel
theorem dX4_wide_84 : decode cX4_wide 84 = .ok (.goto (-41), 3) := by decide +kernel
theorem dX4_wide_87 : decode cX4_wide 87 = .ok (.lload 4, 2) := by decide +kernel
theorem dX4_wide_89 : decode cX4_wide 89 = .ok (.l2i, 1) := by decide +kernel
theorem dX4_wide_90 : decode cX4_wide 90 = .ok (.ireturn, 1) := by decide +kernel
theorem dX4_digitOf_0 : decode cX4_digitOf 0 = .ok (.ldc2_w 56, 3) := by decide +kernel
theorem dX4_digitOf_3 : decode cX4_digitOf 3 = .ok (.aload_n 0, 1) := by decide +kernel
theorem dX4_digitOf_4 : decode cX4_digitOf 4 = .ok (.getfield 7, 3) := by decide +kernel
theorem dX4_digitOf_7 : decode cX4_digitOf 7 = .ok (.iload_n 1, 1) := by decide +kernel
theorem dX4_digitOf_8 : decode cX4_digitOf 8 = .ok (.laload, 1) := by decide +kernel
theorem dX4_digitOf_9 : decode cX4_digitOf 9 = .ok (.aload_n 0, 1) := by decide +kernel
theorem dX4_digitOf_10 : decode cX4_digitOf 10 = .ok (.getfield 13, 3) := by decide +kernel
theorem dX4_digitOf_13 : decode cX4_digitOf 13 = .ok (.iload_n 1, 1) := by decide +kernel
theorem dX4_digitOf_14 : decode cX4_digitOf 14 = .ok (.laload, 1) := by decide +kernel
theorem dX4_digitOf_15 : decode cX4_digitOf 15 = .ok (.iload_n 2, 1) := by decide +kernel
theorem dX4_digitOf_16 : decode cX4_digitOf 16 = .ok (.invokestatic 73, 3) := by decide +kernel
theorem dX4_digitOf_19 : decode cX4_digitOf 19 = .ok (.lmul, 1) := by decide +kernel
theorem dX4_digitOf_20 : decode cX4_digitOf 20 = .ok (.aload_n 0, 1) := by decide +kernel
theorem dX4_digitOf_21 : decode cX4_digitOf 21 = .ok (.getfield 13, 3) := by decide +kernel
theorem dX4_digitOf_24 : decode cX4_digitOf 24 = .ok (.iload_n 1, 1) := by decide +kernel
theorem dX4_digitOf_25 : decode cX4_digitOf 25 = .ok (.laload, 1) := by decide +kernel
theorem dX4_digitOf_26 : decode cX4_digitOf 26 = .ok (.lcmp, 1) := by decide +kernel
theorem dX4_digitOf_27 : decode cX4_digitOf 27 = .ok (.ifCond .lt 7, 3) := by decide +kernel
theorem dX4_digitOf_30 : decode cX4_digitOf 30 = .ok (.iconst 1, 1) := by decide +kernel
theorem dX4_digitOf_31 : decode cX4_digitOf 31 = .ok (.goto 4, 3) := by decide +kernel
theorem dX4_digitOf_34 : decode cX4_digitOf 34 = .ok (.iconst 0, 1) := by decide +kernel
theorem dX4_digitOf_35 : decode cX4_digitOf 35 = .ok (.ireturn, 1) := by decide +kernel
theorem dX4_digit_0 : decode cX4_digit 0 = .ok (.aload_n 0, 1) := by decide +kernel
theorem dX4_digit_1 : decode cX4_digit 1 = .ok (.iload_n 1, 1) := by decide +kernel
theorem dX4_digit_2 : decode cX4_digit 2 = .ok (.invokevirtual 58, 3) := by decide +kernel
theorem dX4_digit_5 : decode cX4_digit 5 = .ok (.ifCond .eq 15, 3) := by decide +kernel
theorem dX4_digit_8 : decode cX4_digit 8 = .ok (.iload_n 2, 1) := by decide +kernel
theorem dX4_digit_9 : decode cX4_digit 9 = .ok (.i2l, 1) := by decide +kernel
theorem dX4_digit_10 : decode cX4_digit 10 = .ok (.lconst 0, 1) := by decide +kernel
theorem dX4_digit_11 : decode cX4_digit 11 = .ok (.ldc2_w 71, 3) := by decide +kernel
theorem dX4_digit_14 : decode cX4_digit 14 = .ok (.invokestatic 46, 3) := by decide +kernel
theorem dX4_digit_17 : decode cX4_digit 17 = .ok (.ifCond .ne 5, 3) := by decide +kernel
theorem dX4_digit_20 : decode cX4_digit 20 = .ok (.iconst (-1), 1) := by decide +kernel
theorem dX4_digit_21 : decode cX4_digit 21 = .ok (.ireturn, 1) := by decide +kernel
theorem dX4_digit_22 : decode cX4_digit 22 = .ok (.aload_n 0, 1) := by decide +kernel
theorem dX4_digit_23 : decode cX4_digit 23 = .ok (.iload_n 1, 1) := by decide +kernel
theorem dX4_digit_24 : decode cX4_digit 24 = .ok (.invokevirtual 95, 3) := by decide +kernel
theorem dX4_digit_27 : decode cX4_digit 27 = .ok (.ifCond .eq 12, 3) := by decide +kernel
theorem dX4_digit_30 : decode cX4_digit 30 = .ok (.aload_n 0, 1) := by decide +kernel
theorem dX4_digit_31 : decode cX4_digit 31 = .ok (.iload_n 1, 1) := by decide +kernel
theorem dX4_digit_32 : decode cX4_digit 32 = .ok (.iload_n 2, 1) := by decide +kernel
theorem dX4_digit_33 : decode cX4_digit 33 = .ok (.invokevirtual 153, 3) := by decide +kernel
theorem dX4_digit_36 : decode cX4_digit 36 = .ok (.goto 5, 3) := by decide +kernel
theorem dX4_digit_39 : decode cX4_digit 39 = .ok (.bipush (-2), 2) := by decide +kernel
theorem dX4_digit_41 : decode cX4_digit 41 = .ok (.ireturn, 1) := by decide +kernel
theorem dX4_canPut_0 : decode cX4_canPut 0 = .ok (.aload_n 0, 1) := by decide +kernel
theorem dX4_canPut_1 : decode cX4_canPut 1 = .ok (.iload_n 2, 1) := by decide +kernel
theorem dX4_canPut_2 : decode cX4_canPut 2 = .ok (.invokevirtual 95, 3) := by decide +kernel
theorem dX4_canPut_5 : decode cX4_canPut 5 = .ok (.ifCond .eq 28, 3) := by decide +kernel
theorem dX4_canPut_8 : decode cX4_canPut 8 = .ok (.aload_n 0, 1) := by decide +kernel
theorem dX4_canPut_9 : decode cX4_canPut 9 = .ok (.iload_n 1, 1) := by decide +kernel
theorem dX4_canPut_10 : decode cX4_canPut 10 = .ok (.invokevirtual 140, 3) := by decide +kernel
theorem dX4_canPut_13 : decode cX4_canPut 13 = .ok (.bipush (-4), 2) := by decide +kernel
theorem dX4_canPut_15 : decode cX4_canPut 15 = .ok (.if_icmp .eq 18, 3) := by decide +kernel
theorem dX4_canPut_18 : decode cX4_canPut 18 = .ok (.aload_n 0, 1) := by decide +kernel
theorem dX4_canPut_19 : decode cX4_canPut 19 = .ok (.getfield 7, 3) := by decide +kernel
theorem dX4_canPut_22 : decode cX4_canPut 22 = .ok (.iload_n 1, 1) := by decide +kernel
theorem dX4_canPut_23 : decode cX4_canPut 23 = .ok (.laload, 1) := by decide +kernel
theorem dX4_canPut_24 : decode cX4_canPut 24 = .ok (.lconst 0, 1) := by decide +kernel
theorem dX4_canPut_25 : decode cX4_canPut 25 = .ok (.lcmp, 1) := by decide +kernel
theorem dX4_canPut_26 : decode cX4_canPut 26 = .ok (.ifCond .eq 7, 3) := by decide +kernel
theorem dX4_canPut_29 : decode cX4_canPut 29 = .ok (.iconst 1, 1) := by decide +kernel
theorem dX4_canPut_30 : decode cX4_canPut 30 = .ok (.goto 4, 3) := by decide +kernel
theorem dX4_canPut_33 : decode cX4_canPut 33 = .ok (.iconst 0, 1) := by decide +kernel
theorem dX4_canPut_34 : decode cX4_canPut 34 = .ok (.ireturn, 1) := by decide +kernel
theorem dX4_put_0 : decode cX4_put 0 = .ok (.aload_n 0, 1) := by decide +kernel
theorem dX4_put_1 : decode cX4_put 1 = .ok (.iload_n 1, 1) := by decide +kernel
theorem dX4_put_2 : decode cX4_put 2 = .ok (.invokevirtual 58, 3) := by decide +kernel
theorem dX4_put_5 : decode cX4_put 5 = .ok (.ifCond .eq 11, 3) := by decide +kernel
theorem dX4_put_8 : decode cX4_put 8 = .ok (.aload_n 0, 1) := by decide +kernel
theorem dX4_put_9 : decode cX4_put 9 = .ok (.iload_n 2, 1) := by decide +kernel
theorem dX4_put_10 : decode cX4_put 10 = .ok (.invokevirtual 58, 3) := by decide +kernel
theorem dX4_put_13 : decode cX4_put 13 = .ok (.ifCond .ne 5, 3) := by decide +kernel
theorem dX4_put_16 : decode cX4_put 16 = .ok (.iconst (-1), 1) := by decide +kernel
theorem dX4_put_17 : decode cX4_put 17 = .ok (.ireturn, 1) := by decide +kernel
theorem dX4_put_18 : decode cX4_put 18 = .ok (.aload_n 0, 1) := by decide +kernel
theorem dX4_put_19 : decode cX4_put 19 = .ok (.iload_n 1, 1) := by decide +kernel
theorem dX4_put_20 : decode cX4_put 20 = .ok (.iload_n 2, 1) := by decide +kernel
theorem dX4_put_21 : decode cX4_put 21 = .ok (.invokevirtual 157, 3) := by decide +kernel
theorem dX4_put_24 : decode cX4_put 24 = .ok (.ifCond .ne 6, 3) := by decide +kernel
theorem dX4_put_27 : decode cX4_put 27 = .ok (.bipush (-2), 2) := by decide +kernel
theorem dX4_put_29 : decode cX4_put 29 = .ok (.ireturn, 1) := by decide +kernel
theorem dX4_put_30 : decode cX4_put 30 = .ok (.aload_n 0, 1) := by decide +kernel
theorem dX4_put_31 : decode cX4_put 31 = .ok (.iload_n 1, 1) := by decide +kernel
theorem dX4_put_32 : decode cX4_put 32 = .ok (.invokevirtual 140, 3) := by decide +kernel
theorem dX4_put_35 : decode cX4_put 35 = .ok (.istore_n 3, 1) := by decide +kernel
theorem dX4_put_36 : decode cX4_put 36 = .ok (.aload_n 0, 1) := by decide +kernel
theorem dX4_put_37 : decode cX4_put 37 = .ok (.getfield 13, 3) := by decide +kernel
theorem dX4_put_40 : decode cX4_put 40 = .ok (.iload_n 2, 1) := by decide +kernel
theorem dX4_put_41 : decode cX4_put 41 = .ok (.laload, 1) := by decide +kernel
theorem dX4_put_42 : decode cX4_put 42 = .ok (.invokestatic 68, 3) := by decide +kernel
theorem dX4_put_45 : decode cX4_put 45 = .ok (.istore 4, 2) := by decide +kernel
theorem dX4_put_47 : decode cX4_put 47 = .ok (.iload 4, 2) := by decide +kernel
theorem dX4_put_49 : decode cX4_put 49 = .ok (.aload_n 0, 1) := by decide +kernel
theorem dX4_put_50 : decode cX4_put 50 = .ok (.getfield 16, 3) := by decide +kernel
theorem dX4_put_53 : decode cX4_put 53 = .ok (.iload_n 3, 1) := by decide +kernel
theorem dX4_put_54 : decode cX4_put 54 = .ok (.iaload, 1) := by decide +kernel
theorem dX4_put_55 : decode cX4_put 55 = .ok (.imul, 1) := by decide +kernel
theorem dX4_put_56 : decode cX4_put 56 = .ok (.bipush 20, 2) := by decide +kernel
theorem dX4_put_58 : decode cX4_put 58 = .ok (.if_icmp .le 6, 3) := by decide +kernel
theorem dX4_put_61 : decode cX4_put 61 = .ok (.bipush (-2), 2) := by decide +kernel
theorem dX4_put_63 : decode cX4_put 63 = .ok (.ireturn, 1) := by decide +kernel
theorem dX4_put_64 : decode cX4_put 64 = .ok (.lconst 0, 1) := by decide +kernel
theorem dX4_put_65 : decode cX4_put 65 = .ok (.lstore 5, 2) := by decide +kernel
theorem dX4_put_67 : decode cX4_put 67 = .ok (.iconst 0, 1) := by decide +kernel
theorem dX4_put_68 : decode cX4_put 68 = .ok (.istore 7, 2) := by decide +kernel
theorem dX4_put_70 : decode cX4_put 70 = .ok (.iload 7, 2) := by decide +kernel
theorem dX4_put_72 : decode cX4_put 72 = .ok (.iload 4, 2) := by decide +kernel
theorem dX4_put_74 : decode cX4_put 74 = .ok (.if_icmp .ge 47, 3) := by decide +kernel
theorem dX4_put_77 : decode cX4_put 77 = .ok (.lload 5, 2) := by decide +kernel
theorem dX4_put_79 : decode cX4_put 79 = .ok (.aload_n 0, 1) := by decide +kernel
theorem dX4_put_80 : decode cX4_put 80 = .ok (.getfield 16, 3) := by decide +kernel
theorem dX4_put_83 : decode cX4_put 83 = .ok (.iload_n 3, 1) := by decide +kernel
theorem dX4_put_84 : decode cX4_put 84 = .ok (.iaload, 1) := by decide +kernel
theorem dX4_put_85 : decode cX4_put 85 = .ok (.lshl, 1) := by decide +kernel
theorem dX4_put_86 : decode cX4_put 86 = .ok (.aload_n 0, 1) := by decide +kernel
theorem dX4_put_87 : decode cX4_put 87 = .ok (.iload_n 2, 1) := by decide +kernel
theorem dX4_put_88 : decode cX4_put 88 = .ok (.iload 7, 2) := by decide +kernel
theorem dX4_put_90 : decode cX4_put 90 = .ok (.invokevirtual 153, 3) := by decide +kernel
theorem dX4_put_93 : decode cX4_put 93 = .ok (.iconst 1, 1) := by decide +kernel
theorem dX4_put_94 : decode cX4_put 94 = .ok (.if_icmp .ne 12, 3) := by decide +kernel
theorem dX4_put_97 : decode cX4_put 97 = .ok (.aload_n 0, 1) := by decide +kernel
theorem dX4_put_98 : decode cX4_put 98 = .ok (.getfield 23, 3) := by decide +kernel
theorem dX4_put_101 : decode cX4_put 101 = .ok (.iload_n 3, 1) := by decide +kernel
theorem dX4_put_102 : decode cX4_put 102 = .ok (.laload, 1) := by decide +kernel
theorem dX4_put_103 : decode cX4_put 103 = .ok (.goto 9, 3) := by decide +kernel
theorem dX4_put_106 : decode cX4_put 106 = .ok (.aload_n 0, 1) := by decide +kernel
theorem dX4_put_107 : decode cX4_put 107 = .ok (.getfield 20, 3) := by decide +kernel
theorem dX4_put_110 : decode cX4_put 110 = .ok (.iload_n 3, 1) := by decide +kernel
theorem dX4_put_111 : decode cX4_put 111 = .ok (.laload, 1) := by decide +kernel
theorem dX4_put_112 : decode cX4_put 112 = .ok (.ladd, 1) := by decide +kernel
theorem dX4_put_113 : decode cX4_put 113 = .ok (.lstore 5, 2) := by decide +kernel
theorem dX4_put_115 : decode cX4_put 115 = .ok (.iinc 7 1, 3) := by decide +kernel
theorem dX4_put_118 : decode cX4_put 118 = .ok (.goto (-48), 3) := by decide +kernel
theorem dX4_put_121 : decode cX4_put 121 = .ok (.aload_n 0, 1) := by decide +kernel
theorem dX4_put_122 : decode cX4_put 122 = .ok (.lload 5, 2) := by decide +kernel
theorem dX4_put_124 : decode cX4_put 124 = .ok (.iload 4, 2) := by decide +kernel
theorem dX4_put_126 : decode cX4_put 126 = .ok (.aload_n 0, 1) := by decide +kernel
theorem dX4_put_127 : decode cX4_put 127 = .ok (.getfield 16, 3) := by decide +kernel
theorem dX4_put_130 : decode cX4_put 130 = .ok (.iload_n 3, 1) := by decide +kernel
theorem dX4_put_131 : decode cX4_put 131 = .ok (.iaload, 1) := by decide +kernel
theorem dX4_put_132 : decode cX4_put 132 = .ok (.imul, 1) := by decide +kernel
theorem dX4_put_133 : decode cX4_put 133 = .ok (.invokestatic 113, 3) := by decide +kernel
theorem dX4_put_136 : decode cX4_put 136 = .ok (.invokevirtual 52, 3) := by decide +kernel
theorem dX4_put_139 : decode cX4_put 139 = .ok (.ireturn, 1) := by decide +kernel
theorem dX4_take_0 : decode cX4_take 0 = .ok (.aload_n 0, 1) := by decide +kernel
theorem dX4_take_1 : decode cX4_take 1 = .ok (.iload_n 1, 1) := by decide +kernel
theorem dX4_take_2 : decode cX4_take 2 = .ok (.invokevirtual 58, 3) := by decide +kernel
theorem dX4_take_5 : decode cX4_take 5 = .ok (.ifCond .eq 11, 3) := by decide +kernel
theorem dX4_take_8 : decode cX4_take 8 = .ok (.aload_n 0, 1) := by decide +kernel
theorem dX4_take_9 : decode cX4_take 9 = .ok (.iload_n 2, 1) := by decide +kernel
theorem dX4_take_10 : decode cX4_take 10 = .ok (.invokevirtual 58, 3) := by decide +kernel
theorem dX4_take_13 : decode cX4_take 13 = .ok (.ifCond .ne 5, 3) := by decide +kernel
theorem dX4_take_16 : decode cX4_take 16 = .ok (.iconst (-1), 1) := by decide +kernel
theorem dX4_take_17 : decode cX4_take 17 = .ok (.ireturn, 1) := by decide +kernel
theorem dX4_take_18 : decode cX4_take 18 = .ok (.aload_n 0, 1) := by decide +kernel
theorem dX4_take_19 : decode cX4_take 19 = .ok (.iload_n 1, 1) := by decide +kernel
theorem dX4_take_20 : decode cX4_take 20 = .ok (.iload_n 2, 1) := by decide +kernel
theorem dX4_take_21 : decode cX4_take 21 = .ok (.invokevirtual 157, 3) := by decide +kernel
theorem dX4_take_24 : decode cX4_take 24 = .ok (.ifCond .eq 17, 3) := by decide +kernel
theorem dX4_take_27 : decode cX4_take 27 = .ok (.aload_n 0, 1) := by decide +kernel
theorem dX4_take_28 : decode cX4_take 28 = .ok (.getfield 13, 3) := by decide +kernel
theorem dX4_take_31 : decode cX4_take 31 = .ok (.iload_n 2, 1) := by decide +kernel
theorem dX4_take_32 : decode cX4_take 32 = .ok (.laload, 1) := by decide +kernel
theorem dX4_take_33 : decode cX4_take 33 = .ok (.invokestatic 68, 3) := by decide +kernel
theorem dX4_take_36 : decode cX4_take 36 = .ok (.bipush 20, 2) := by decide +kernel
theorem dX4_take_38 : decode cX4_take 38 = .ok (.if_icmp .le 6, 3) := by decide +kernel
theorem dX4_take_41 : decode cX4_take 41 = .ok (.bipush (-2), 2) := by decide +kernel
theorem dX4_take_43 : decode cX4_take 43 = .ok (.ireturn, 1) := by decide +kernel
theorem dX4_take_44 : decode cX4_take 44 = .ok (.aload_n 0, 1) := by decide +kernel
theorem dX4_take_45 : decode cX4_take 45 = .ok (.iload_n 1, 1) := by decide +kernel
theorem dX4_take_46 : decode cX4_take 46 = .ok (.invokevirtual 140, 3) := by decide +kernel
theorem dX4_take_49 : decode cX4_take 49 = .ok (.istore_n 3, 1) := by decide +kernel
theorem dX4_take_50 : decode cX4_take 50 = .ok (.aload_n 0, 1) := by decide +kernel
theorem dX4_take_51 : decode cX4_take 51 = .ok (.getfield 16, 3) := by decide +kernel
theorem dX4_take_54 : decode cX4_take 54 = .ok (.iload_n 3, 1) := by decide +kernel
theorem dX4_take_55 : decode cX4_take 55 = .ok (.iaload, 1) := by decide +kernel
theorem dX4_take_56 : decode cX4_take 56 = .ok (.istore 4, 2) := by decide +kernel
theorem dX4_take_58 : decode cX4_take 58 = .ok (.aload_n 0, 1) := by decide +kernel
theorem dX4_take_59 : decode cX4_take 59 = .ok (.getfield 13, 3) := by decide +kernel
theorem dX4_take_62 : decode cX4_take 62 = .ok (.iload_n 2, 1) := by decide +kernel
theorem dX4_take_63 : decode cX4_take 63 = .ok (.laload, 1) := by decide +kernel
theorem dX4_take_64 : decode cX4_take 64 = .ok (.invokestatic 68, 3) := by decide +kernel
theorem dX4_take_67 : decode cX4_take 67 = .ok (.istore 5, 2) := by decide +kernel
theorem dX4_take_69 : decode cX4_take 69 = .ok (.iload 5, 2) := by decide +kernel
theorem dX4_take_71 : decode cX4_take 71 = .ok (.iload 5, 2) := by decide +kernel
theorem dX4_take_73 : decode cX4_take 73 = .ok (.i2l, 1) := by decide +kernel
theorem dX4_take_74 : decode cX4_take 74 = .ok (.iload 4, 2) := by decide +kernel
theorem dX4_take_76 : decode cX4_take 76 = .ok (.i2l, 1) := by decide +kernel
theorem dX4_take_77 : decode cX4_take 77 = .ok (.invokestatic 77, 3) := by decide +kernel
theorem dX4_take_80 : decode cX4_take 80 = .ok (.l2i, 1) := by decide +kernel
theorem dX4_take_81 : decode cX4_take 81 = .ok (.idiv, 1) := by decide +kernel
theorem dX4_take_82 : decode cX4_take 82 = .ok (.istore 6, 2) := by decide +kernel
theorem dX4_take_84 : decode cX4_take 84 = .ok (.lconst 0, 1) := by decide +kernel
theorem dX4_take_85 : decode cX4_take 85 = .ok (.lstore 7, 2) := by decide +kernel
theorem dX4_take_87 : decode cX4_take 87 = .ok (.iconst 1, 1) := by decide +kernel
theorem dX4_take_88 : decode cX4_take 88 = .ok (.istore 9, 2) := by decide +kernel
theorem dX4_take_90 : decode cX4_take 90 = .ok (.iconst 0, 1) := by decide +kernel
theorem dX4_take_91 : decode cX4_take 91 = .ok (.istore 10, 2) := by decide +kernel
theorem dX4_take_93 : decode cX4_take 93 = .ok (.iload 10, 2) := by decide +kernel
theorem dX4_take_95 : decode cX4_take 95 = .ok (.iload 6, 2) := by decide +kernel
theorem dX4_take_97 : decode cX4_take 97 = .ok (.if_icmp .ge 116, 3) := by decide +kernel
theorem dX4_take_100 : decode cX4_take 100 = .ok (.iload 9, 2) := by decide +kernel
theorem dX4_take_102 : decode cX4_take 102 = .ok (.ifCond .eq 111, 3) := by decide +kernel
theorem dX4_take_105 : decode cX4_take 105 = .ok (.lconst 0, 1) := by decide +kernel
theorem dX4_take_106 : decode cX4_take 106 = .ok (.lstore 11, 2) := by decide +kernel
theorem dX4_take_108 : decode cX4_take 108 = .ok (.iconst 0, 1) := by decide +kernel
theorem dX4_take_109 : decode cX4_take 109 = .ok (.istore 13, 2) := by decide +kernel
theorem dX4_take_111 : decode cX4_take 111 = .ok (.iload 13, 2) := by decide +kernel
theorem dX4_take_113 : decode cX4_take 113 = .ok (.iload 4, 2) := by decide +kernel
theorem dX4_take_115 : decode cX4_take 115 = .ok (.if_icmp .ge 35, 3) := by decide +kernel
theorem dX4_take_118 : decode cX4_take 118 = .ok (.ldc2_w 56, 3) := by decide +kernel
theorem dX4_take_121 : decode cX4_take 121 = .ok (.lload 11, 2) := by decide +kernel
theorem dX4_take_123 : decode cX4_take 123 = .ok (.lmul, 1) := by decide +kernel
theorem dX4_take_124 : decode cX4_take 124 = .ok (.aload_n 0, 1) := by decide +kernel
theorem dX4_take_125 : decode cX4_take 125 = .ok (.iload_n 2, 1) := by decide +kernel
theorem dX4_take_126 : decode cX4_take 126 = .ok (.iload 10, 2) := by decide +kernel
theorem dX4_take_128 : decode cX4_take 128 = .ok (.iload 4, 2) := by decide +kernel
theorem dX4_take_130 : decode cX4_take 130 = .ok (.imul, 1) := by decide +kernel
theorem dX4_take_131 : decode cX4_take 131 = .ok (.iload 13, 2) := by decide +kernel
theorem dX4_take_133 : decode cX4_take 133 = .ok (.iadd, 1) := by decide +kernel
theorem dX4_take_134 : decode cX4_take 134 = .ok (.iload 5, 2) := by decide +kernel
theorem dX4_take_136 : decode cX4_take 136 = .ok (.irem, 1) := by decide +kernel
theorem dX4_take_137 : decode cX4_take 137 = .ok (.invokevirtual 153, 3) := by decide +kernel
theorem dX4_take_140 : decode cX4_take 140 = .ok (.i2l, 1) := by decide +kernel
theorem dX4_take_141 : decode cX4_take 141 = .ok (.ladd, 1) := by decide +kernel
theorem dX4_take_142 : decode cX4_take 142 = .ok (.lstore 11, 2) := by decide +kernel
theorem dX4_take_144 : decode cX4_take 144 = .ok (.iinc 13 1, 3) := by decide +kernel
theorem dX4_take_147 : decode cX4_take 147 = .ok (.goto (-36), 3) := by decide +kernel
theorem dX4_take_150 : decode cX4_take 150 = .ok (.lload 11, 2) := by decide +kernel
theorem dX4_take_152 : decode cX4_take 152 = .ok (.aload_n 0, 1) := by decide +kernel
theorem dX4_take_153 : decode cX4_take 153 = .ok (.getfield 20, 3) := by decide +kernel
theorem dX4_take_156 : decode cX4_take 156 = .ok (.iload_n 3, 1) := by decide +kernel
theorem dX4_take_157 : decode cX4_take 157 = .ok (.laload, 1) := by decide +kernel
theorem dX4_take_158 : decode cX4_take 158 = .ok (.lcmp, 1) := by decide +kernel
theorem dX4_take_159 : decode cX4_take 159 = .ok (.ifCond .eq 15, 3) := by decide +kernel
theorem dX4_take_162 : decode cX4_take 162 = .ok (.lload 11, 2) := by decide +kernel
theorem dX4_take_164 : decode cX4_take 164 = .ok (.aload_n 0, 1) := by decide +kernel
theorem dX4_take_165 : decode cX4_take 165 = .ok (.getfield 23, 3) := by decide +kernel
theorem dX4_take_168 : decode cX4_take 168 = .ok (.iload_n 3, 1) := by decide +kernel
theorem dX4_take_169 : decode cX4_take 169 = .ok (.laload, 1) := by decide +kernel
theorem dX4_take_170 : decode cX4_take 170 = .ok (.lcmp, 1) := by decide +kernel
theorem dX4_take_171 : decode cX4_take 171 = .ok (.ifCond .ne 7, 3) := by decide +kernel
theorem dX4_take_174 : decode cX4_take 174 = .ok (.iconst 1, 1) := by decide +kernel
theorem dX4_take_175 : decode cX4_take 175 = .ok (.goto 4, 3) := by decide +kernel
theorem dX4_take_178 : decode cX4_take 178 = .ok (.iconst 0, 1) := by decide +kernel
theorem dX4_take_179 : decode cX4_take 179 = .ok (.istore 9, 2) := by decide +kernel
theorem dX4_take_181 : decode cX4_take 181 = .ok (.ldc2_w 56, 3) := by decide +kernel
theorem dX4_take_184 : decode cX4_take 184 = .ok (.lload 7, 2) := by decide +kernel
theorem dX4_take_186 : decode cX4_take 186 = .ok (.lmul, 1) := by decide +kernel
theorem dX4_take_187 : decode cX4_take 187 = .ok (.lload 11, 2) := by decide +kernel
theorem dX4_take_189 : decode cX4_take 189 = .ok (.aload_n 0, 1) := by decide +kernel
theorem dX4_take_190 : decode cX4_take 190 = .ok (.getfield 23, 3) := by decide +kernel
theorem dX4_take_193 : decode cX4_take 193 = .ok (.iload_n 3, 1) := by decide +kernel
theorem dX4_take_194 : decode cX4_take 194 = .ok (.laload, 1) := by decide +kernel
theorem dX4_take_195 : decode cX4_take 195 = .ok (.lcmp, 1) := by decide +kernel
theorem dX4_take_196 : decode cX4_take 196 = .ok (.ifCond .ne 7, 3) := by decide +kernel
theorem dX4_take_199 : decode cX4_take 199 = .ok (.lconst 1, 1) := by decide +kernel
theorem dX4_take_200 : decode cX4_take 200 = .ok (.goto 4, 3) := by decide +kernel
theorem dX4_take_203 : decode cX4_take 203 = .ok (.lconst 0, 1) := by decide +kernel
theorem dX4_take_204 : decode cX4_take 204 = .ok (.ladd, 1) := by decide +kernel
theorem dX4_take_205 : decode cX4_take 205 = .ok (.lstore 7, 2) := by decide +kernel
theorem dX4_take_207 : decode cX4_take 207 = .ok (.iinc 10 1, 3) := by decide +kernel
theorem dX4_take_210 : decode cX4_take 210 = .ok (.goto (-117), 3) := by decide +kernel
theorem dX4_take_213 : decode cX4_take 213 = .ok (.iload 9, 2) := by decide +kernel
theorem dX4_take_215 : decode cX4_take 215 = .ok (.ifCond .eq 14, 3) := by decide +kernel
theorem dX4_take_218 : decode cX4_take 218 = .ok (.lload 7, 2) := by decide +kernel
theorem dX4_take_220 : decode cX4_take 220 = .ok (.iload 6, 2) := by decide +kernel
theorem dX4_take_222 : decode cX4_take 222 = .ok (.invokestatic 113, 3) := by decide +kernel
theorem dX4_take_225 : decode cX4_take 225 = .ok (.lcmp, 1) := by decide +kernel
theorem dX4_take_226 : decode cX4_take 226 = .ok (.ifCond .ne 6, 3) := by decide +kernel
theorem dX4_take_229 : decode cX4_take 229 = .ok (.bipush (-4), 2) := by decide +kernel
theorem dX4_take_231 : decode cX4_take 231 = .ok (.ireturn, 1) := by decide +kernel
theorem dX4_take_232 : decode cX4_take 232 = .ok (.aload_n 0, 1) := by decide +kernel
theorem dX4_take_233 : decode cX4_take 233 = .ok (.lload 7, 2) := by decide +kernel
theorem dX4_take_235 : decode cX4_take 235 = .ok (.iload 6, 2) := by decide +kernel
theorem dX4_take_237 : decode cX4_take 237 = .ok (.invokestatic 113, 3) := by decide +kernel
theorem dX4_take_240 : decode cX4_take 240 = .ok (.invokevirtual 52, 3) := by decide +kernel
theorem dX4_take_243 : decode cX4_take 243 = .ok (.ireturn, 1) := by decide +kernel
theorem dX4_isSheet_0 : decode cX4_isSheet 0 = .ok (.iload_n 0, 1) := by decide +kernel
theorem dX4_isSheet_1 : decode cX4_isSheet 1 = .ok (.i2l, 1) := by decide +kernel
theorem dX4_isSheet_2 : decode cX4_isSheet 2 = .ok (.lconst 0, 1) := by decide +kernel
theorem dX4_isSheet_3 : decode cX4_isSheet 3 = .ok (.ldc2_w 62, 3) := by decide +kernel
theorem dX4_isSheet_6 : decode cX4_isSheet 6 = .ok (.invokestatic 46, 3) := by decide +kernel
theorem dX4_isSheet_9 : decode cX4_isSheet 9 = .ok (.ifCond .eq 17, 3) := by decide +kernel
theorem dX4_isSheet_12 : decode cX4_isSheet 12 = .ok (.iload_n 1, 1) := by decide +kernel
theorem dX4_isSheet_13 : decode cX4_isSheet 13 = .ok (.i2l, 1) := by decide +kernel
theorem dX4_isSheet_14 : decode cX4_isSheet 14 = .ok (.lconst 0, 1) := by decide +kernel
theorem dX4_isSheet_15 : decode cX4_isSheet 15 = .ok (.lconst 1, 1) := by decide +kernel
theorem dX4_isSheet_16 : decode cX4_isSheet 16 = .ok (.invokestatic 46, 3) := by decide +kernel
theorem dX4_isSheet_19 : decode cX4_isSheet 19 = .ok (.ifCond .eq 7, 3) := by decide +kernel
theorem dX4_isSheet_22 : decode cX4_isSheet 22 = .ok (.iconst 1, 1) := by decide +kernel
theorem dX4_isSheet_23 : decode cX4_isSheet 23 = .ok (.goto 4, 3) := by decide +kernel
theorem dX4_isSheet_26 : decode cX4_isSheet 26 = .ok (.iconst 0, 1) := by decide +kernel
theorem dX4_isSheet_27 : decode cX4_isSheet 27 = .ok (.ireturn, 1) := by decide +kernel
theorem dX4_sheet_0 : decode cX4_sheet 0 = .ok (.iload_n 1, 1) := by decide +kernel
theorem dX4_sheet_1 : decode cX4_sheet 1 = .ok (.iload_n 2, 1) := by decide +kernel
theorem dX4_sheet_2 : decode cX4_sheet 2 = .ok (.invokestatic 160, 3) := by decide +kernel
theorem dX4_sheet_5 : decode cX4_sheet 5 = .ok (.ifCond .eq 9, 3) := by decide +kernel
theorem dX4_sheet_8 : decode cX4_sheet 8 = .ok (.iload_n 3, 1) := by decide +kernel
theorem dX4_sheet_9 : decode cX4_sheet 9 = .ok (.bipush 60, 2) := by decide +kernel
theorem dX4_sheet_11 : decode cX4_sheet 11 = .ok (.if_icmp .le 5, 3) := by decide +kernel
theorem dX4_sheet_14 : decode cX4_sheet 14 = .ok (.iconst (-1), 1) := by decide +kernel
theorem dX4_sheet_15 : decode cX4_sheet 15 = .ok (.ireturn, 1) := by decide +kernel
theorem dX4_sheet_16 : decode cX4_sheet 16 = .ok (.iload_n 3, 1) := by decide +kernel
theorem dX4_sheet_17 : decode cX4_sheet 17 = .ok (.ifCond .ge 6, 3) := by decide +kernel
theorem dX4_sheet_20 : decode cX4_sheet 20 = .ok (.bipush (-14), 2) := by decide +kernel
theorem dX4_sheet_22 : decode cX4_sheet 22 = .ok (.ireturn, 1) := by decide +kernel
theorem dX4_sheet_23 : decode cX4_sheet 23 = .ok (.aload_n 0, 1) := by decide +kernel
theorem dX4_sheet_24 : decode cX4_sheet 24 = .ok (.getfield 30, 3) := by decide +kernel
theorem dX4_sheet_27 : decode cX4_sheet 27 = .ok (.iload_n 1, 1) := by decide +kernel
theorem dX4_sheet_28 : decode cX4_sheet 28 = .ok (.iload_n 2, 1) := by decide +kernel
theorem dX4_sheet_29 : decode cX4_sheet 29 = .ok (.iastore, 1) := by decide +kernel
theorem dX4_sheet_30 : decode cX4_sheet 30 = .ok (.aload_n 0, 1) := by decide +kernel
theorem dX4_sheet_31 : decode cX4_sheet 31 = .ok (.getfield 33, 3) := by decide +kernel
theorem dX4_sheet_34 : decode cX4_sheet 34 = .ok (.iload_n 1, 1) := by decide +kernel
theorem dX4_sheet_35 : decode cX4_sheet 35 = .ok (.iload_n 3, 1) := by decide +kernel
theorem dX4_sheet_36 : decode cX4_sheet 36 = .ok (.iastore, 1) := by decide +kernel
theorem dX4_sheet_37 : decode cX4_sheet 37 = .ok (.iconst 0, 1) := by decide +kernel
theorem dX4_sheet_38 : decode cX4_sheet 38 = .ok (.istore 4, 2) := by decide +kernel
theorem dX4_sheet_40 : decode cX4_sheet 40 = .ok (.iload 4, 2) := by decide +kernel
theorem dX4_sheet_42 : decode cX4_sheet 42 = .ok (.bipush 60, 2) := by decide +kernel
theorem dX4_sheet_44 : decode cX4_sheet 44 = .ok (.if_icmp .ge 22, 3) := by decide +kernel
theorem dX4_sheet_47 : decode cX4_sheet 47 = .ok (.aload_n 0, 1) := by decide +kernel
theorem dX4_sheet_48 : decode cX4_sheet 48 = .ok (.getfield 36, 3) := by decide +kernel
theorem dX4_sheet_51 : decode cX4_sheet 51 = .ok (.bipush 60, 2) := by decide +kernel
theorem dX4_sheet_53 : decode cX4_sheet 53 = .ok (.iload_n 1, 1) := by decide +kernel
theorem dX4_sheet_54 : decode cX4_sheet 54 = .ok (.imul, 1) := by decide +kernel
theorem dX4_sheet_55 : decode cX4_sheet 55 = .ok (.iload 4, 2) := by decide +kernel
theorem dX4_sheet_57 : decode cX4_sheet 57 = .ok (.iadd, 1) := by decide +kernel
theorem dX4_sheet_58 : decode cX4_sheet 58 = .ok (.lconst 0, 1) := by decide +kernel
theorem dX4_sheet_59 : decode cX4_sheet 59 = .ok (.lastore, 1) := by decide +kernel
theorem dX4_sheet_60 : decode cX4_sheet 60 = .ok (.iinc 4 1, 3) := by decide +kernel
theorem dX4_sheet_63 : decode cX4_sheet 63 = .ok (.goto (-23), 3) := by decide +kernel
theorem dX4_sheet_66 : decode cX4_sheet 66 = .ok (.iconst 1, 1) := by decide +kernel
theorem dX4_sheet_67 : decode cX4_sheet 67 = .ok (.ireturn, 1) := by decide +kernel
theorem dX4_lay_0 : decode cX4_lay 0 = .ok (.iload_n 1, 1) := by decide +kernel
theorem dX4_lay_1 : decode cX4_lay 1 = .ok (.iconst 0, 1) := by decide +kernel
theorem dX4_lay_2 : decode cX4_lay 2 = .ok (.invokestatic 160, 3) := by decide +kernel
theorem dX4_lay_5 : decode cX4_lay 5 = .ok (.ifCond .ne 5, 3) := by decide +kernel
theorem dX4_lay_8 : decode cX4_lay 8 = .ok (.iconst (-1), 1) := by decide +kernel
theorem dX4_lay_9 : decode cX4_lay 9 = .ok (.ireturn, 1) := by decide +kernel
theorem dX4_lay_10 : decode cX4_lay 10 = .ok (.aload_n 0, 1) := by decide +kernel
theorem dX4_lay_11 : decode cX4_lay 11 = .ok (.getfield 30, 3) := by decide +kernel
theorem dX4_lay_14 : decode cX4_lay 14 = .ok (.iload_n 1, 1) := by decide +kernel
theorem dX4_lay_15 : decode cX4_lay 15 = .ok (.iaload, 1) := by decide +kernel
theorem dX4_lay_16 : decode cX4_lay 16 = .ok (.bipush (-4), 2) := by decide +kernel
theorem dX4_lay_18 : decode cX4_lay 18 = .ok (.if_icmp .ne 6, 3) := by decide +kernel
theorem dX4_lay_21 : decode cX4_lay 21 = .ok (.bipush (-11), 2) := by decide +kernel
theorem dX4_lay_23 : decode cX4_lay 23 = .ok (.ireturn, 1) := by decide +kernel
theorem dX4_lay_24 : decode cX4_lay 24 = .ok (.iload_n 2, 1) := by decide +kernel
theorem dX4_lay_25 : decode cX4_lay 25 = .ok (.i2l, 1) := by decide +kernel
theorem dX4_lay_26 : decode cX4_lay 26 = .ok (.lconst 0, 1) := by decide +kernel
theorem dX4_lay_27 : decode cX4_lay 27 = .ok (.aload_n 0, 1) := by decide +kernel
theorem dX4_lay_28 : decode cX4_lay 28 = .ok (.getfield 33, 3) := by decide +kernel
theorem dX4_lay_31 : decode cX4_lay 31 = .ok (.iload_n 1, 1) := by decide +kernel
theorem dX4_lay_32 : decode cX4_lay 32 = .ok (.iaload, 1) := by decide +kernel
theorem dX4_lay_33 : decode cX4_lay 33 = .ok (.iconst 1, 1) := by decide +kernel
theorem dX4_lay_34 : decode cX4_lay 34 = .ok (.isub, 1) := by decide +kernel
theorem dX4_lay_35 : decode cX4_lay 35 = .ok (.i2l, 1) := by decide +kernel
theorem dX4_lay_36 : decode cX4_lay 36 = .ok (.invokestatic 46, 3) := by decide +kernel
theorem dX4_lay_39 : decode cX4_lay 39 = .ok (.ifCond .ne 6, 3) := by decide +kernel
theorem dX4_lay_42 : decode cX4_lay 42 = .ok (.bipush (-12), 2) := by decide +kernel
theorem dX4_lay_44 : decode cX4_lay 44 = .ok (.ireturn, 1) := by decide +kernel
theorem dX4_lay_45 : decode cX4_lay 45 = .ok (.aload_n 0, 1) := by decide +kernel
theorem dX4_lay_46 : decode cX4_lay 46 = .ok (.getfield 36, 3) := by decide +kernel
theorem dX4_lay_49 : decode cX4_lay 49 = .ok (.bipush 60, 2) := by decide +kernel
theorem dX4_lay_51 : decode cX4_lay 51 = .ok (.iload_n 1, 1) := by decide +kernel
theorem dX4_lay_52 : decode cX4_lay 52 = .ok (.imul, 1) := by decide +kernel
theorem dX4_lay_53 : decode cX4_lay 53 = .ok (.iload_n 2, 1) := by decide +kernel
theorem dX4_lay_54 : decode cX4_lay 54 = .ok (.iadd, 1) := by decide +kernel
theorem dX4_lay_55 : decode cX4_lay 55 = .ok (.aload_n 0, 1) := by decide +kernel
theorem dX4_lay_56 : decode cX4_lay 56 = .ok (.getfield 30, 3) := by decide +kernel
theorem dX4_lay_59 : decode cX4_lay 59 = .ok (.iload_n 1, 1) := by decide +kernel
theorem dX4_lay_60 : decode cX4_lay 60 = .ok (.iaload, 1) := by decide +kernel
theorem dX4_lay_61 : decode cX4_lay 61 = .ok (.ifCond .ne 9, 3) := by decide +kernel
theorem dX4_lay_64 : decode cX4_lay 64 = .ok (.lload_n 3, 1) := by decide +kernel
theorem dX4_lay_65 : decode cX4_lay 65 = .ok (.l2i, 1) := by decide +kernel
theorem dX4_lay_66 : decode cX4_lay 66 = .ok (.i2l, 1) := by decide +kernel
theorem dX4_lay_67 : decode cX4_lay 67 = .ok (.goto 4, 3) := by decide +kernel
theorem dX4_lay_70 : decode cX4_lay 70 = .ok (.lload_n 3, 1) := by decide +kernel
theorem dX4_lay_71 : decode cX4_lay 71 = .ok (.lastore, 1) := by decide +kernel
theorem dX4_lay_72 : decode cX4_lay 72 = .ok (.iconst 1, 1) := by decide +kernel
theorem dX4_lay_73 : decode cX4_lay 73 = .ok (.ireturn, 1) := by decide +kernel
theorem dX4_scan_0 : decode cX4_scan 0 = .ok (.iload_n 1, 1) := by decide +kernel
theorem dX4_scan_1 : decode cX4_scan 1 = .ok (.iload_n 2, 1) := by decide +kernel
theorem dX4_scan_2 : decode cX4_scan 2 = .ok (.invokestatic 160, 3) := by decide +kernel
theorem dX4_scan_5 : decode cX4_scan 5 = .ok (.ifCond .eq 16, 3) := by decide +kernel
theorem dX4_scan_8 : decode cX4_scan 8 = .ok (.iload 4, 2) := by decide +kernel
theorem dX4_scan_10 : decode cX4_scan 10 = .ok (.i2l, 1) := by decide +kernel
theorem dX4_scan_11 : decode cX4_scan 11 = .ok (.lconst 0, 1) := by decide +kernel
theorem dX4_scan_12 : decode cX4_scan 12 = .ok (.ldc2_w 163, 3) := by decide +kernel
theorem dX4_scan_15 : decode cX4_scan 15 = .ok (.invokestatic 46, 3) := by decide +kernel
theorem dX4_scan_18 : decode cX4_scan 18 = .ok (.ifCond .ne 5, 3) := by decide +kernel
theorem dX4_scan_21 : decode cX4_scan 21 = .ok (.iconst (-1), 1) := by decide +kernel
theorem dX4_scan_22 : decode cX4_scan 22 = .ok (.ireturn, 1) := by decide +kernel
theorem dX4_scan_23 : decode cX4_scan 23 = .ok (.aload_n 0, 1) := by decide +kernel
theorem dX4_scan_24 : decode cX4_scan 24 = .ok (.getfield 30, 3) := by decide +kernel
theorem dX4_scan_27 : decode cX4_scan 27 = .ok (.iload_n 1, 1) := by decide +kernel
theorem dX4_scan_28 : decode cX4_scan 28 = .ok (.iaload, 1) := by decide +kernel
theorem dX4_scan_29 : decode cX4_scan 29 = .ok (.iload_n 2, 1) := by decide +kernel
theorem dX4_scan_30 : decode cX4_scan 30 = .ok (.if_icmp .eq 22, 3) := by decide +kernel
theorem dX4_scan_33 : decode cX4_scan 33 = .ok (.aload_n 0, 1) := by decide +kernel
theorem dX4_scan_34 : decode cX4_scan 34 = .ok (.getfield 30, 3) := by decide +kernel
theorem dX4_scan_37 : decode cX4_scan 37 = .ok (.iload_n 1, 1) := by decide +kernel
theorem dX4_scan_38 : decode cX4_scan 38 = .ok (.iaload, 1) := by decide +kernel
theorem dX4_scan_39 : decode cX4_scan 39 = .ok (.bipush (-4), 2) := by decide +kernel
theorem dX4_scan_41 : decode cX4_scan 41 = .ok (.if_icmp .ne 8, 3) := by decide +kernel
theorem dX4_scan_44 : decode cX4_scan 44 = .ok (.bipush (-11), 2) := by decide +kernel
theorem dX4_scan_46 : decode cX4_scan 46 = .ok (.goto 5, 3) := by decide +kernel
theorem dX4_scan_49 : decode cX4_scan 49 = .ok (.bipush (-13), 2) := by decide +kernel
theorem dX4_scan_51 : decode cX4_scan 51 = .ok (.ireturn, 1) := by decide +kernel
theorem dX4_scan_52 : decode cX4_scan 52 = .ok (.aload_n 0, 1) := by decide +kernel
theorem dX4_scan_53 : decode cX4_scan 53 = .ok (.getfield 42, 3) := by decide +kernel
theorem dX4_scan_56 : decode cX4_scan 56 = .ok (.istore 5, 2) := by decide +kernel
theorem dX4_scan_58 : decode cX4_scan 58 = .ok (.iconst 0, 1) := by decide +kernel
theorem dX4_scan_59 : decode cX4_scan 59 = .ok (.istore 6, 2) := by decide +kernel
theorem dX4_scan_61 : decode cX4_scan 61 = .ok (.iconst 0, 1) := by decide +kernel
theorem dX4_scan_62 : decode cX4_scan 62 = .ok (.istore 7, 2) := by decide +kernel
theorem dX4_scan_64 : decode cX4_scan 64 = .ok (.iload 7, 2) := by decide +kernel
theorem dX4_scan_66 : decode cX4_scan 66 = .ok (.iload 4, 2) := by decide +kernel
theorem dX4_scan_68 : decode cX4_scan 68 = .ok (.if_icmp .ge 105, 3) := by decide +kernel
theorem dX4_scan_71 : decode cX4_scan 71 = .ok (.iload 6, 2) := by decide +kernel
theorem dX4_scan_73 : decode cX4_scan 73 = .ok (.ifCond .ne 100, 3) := by decide +kernel
theorem dX4_scan_76 : decode cX4_scan 76 = .ok (.iload_n 3, 1) := by decide +kernel
theorem dX4_scan_77 : decode cX4_scan 77 = .ok (.i2l, 1) := by decide +kernel
theorem dX4_scan_78 : decode cX4_scan 78 = .ok (.iconst 2, 1) := by decide +kernel
theorem dX4_scan_79 : decode cX4_scan 79 = .ok (.iload 7, 2) := by decide +kernel
theorem dX4_scan_81 : decode cX4_scan 81 = .ok (.imul, 1) := by decide +kernel
theorem dX4_scan_82 : decode cX4_scan 82 = .ok (.i2l, 1) := by decide +kernel
theorem dX4_scan_83 : decode cX4_scan 83 = .ok (.ladd, 1) := by decide +kernel
theorem dX4_scan_84 : decode cX4_scan 84 = .ok (.lstore 8, 2) := by decide +kernel
theorem dX4_scan_86 : decode cX4_scan 86 = .ok (.lload 8, 2) := by decide +kernel
theorem dX4_scan_88 : decode cX4_scan 88 = .ok (.lconst 0, 1) := by decide +kernel
theorem dX4_scan_89 : decode cX4_scan 89 = .ok (.lcmp, 1) := by decide +kernel
theorem dX4_scan_90 : decode cX4_scan 90 = .ok (.ifCond .lt 20, 3) := by decide +kernel
theorem dX4_scan_93 : decode cX4_scan 93 = .ok (.lload 8, 2) := by decide +kernel
theorem dX4_scan_95 : decode cX4_scan 95 = .ok (.ldc2_w 56, 3) := by decide +kernel
theorem dX4_scan_98 : decode cX4_scan 98 = .ok (.ladd, 1) := by decide +kernel
theorem dX4_scan_99 : decode cX4_scan 99 = .ok (.aload_n 0, 1) := by decide +kernel
theorem dX4_scan_100 : decode cX4_scan 100 = .ok (.getfield 33, 3) := by decide +kernel
theorem dX4_scan_103 : decode cX4_scan 103 = .ok (.iload_n 1, 1) := by decide +kernel
theorem dX4_scan_104 : decode cX4_scan 104 = .ok (.iaload, 1) := by decide +kernel
theorem dX4_scan_105 : decode cX4_scan 105 = .ok (.i2l, 1) := by decide +kernel
theorem dX4_scan_106 : decode cX4_scan 106 = .ok (.lcmp, 1) := by decide +kernel
theorem dX4_scan_107 : decode cX4_scan 107 = .ok (.ifCond .le 10, 3) := by decide +kernel
theorem dX4_scan_110 : decode cX4_scan 110 = .ok (.bipush (-12), 2) := by decide +kernel
theorem dX4_scan_112 : decode cX4_scan 112 = .ok (.istore 6, 2) := by decide +kernel
theorem dX4_scan_114 : decode cX4_scan 114 = .ok (.goto 53, 3) := by decide +kernel
theorem dX4_scan_117 : decode cX4_scan 117 = .ok (.aload_n 0, 1) := by decide +kernel
theorem dX4_scan_118 : decode cX4_scan 118 = .ok (.aload_n 0, 1) := by decide +kernel
theorem dX4_scan_119 : decode cX4_scan 119 = .ok (.getfield 36, 3) := by decide +kernel
theorem dX4_scan_122 : decode cX4_scan 122 = .ok (.bipush 60, 2) := by decide +kernel
theorem dX4_scan_124 : decode cX4_scan 124 = .ok (.iload_n 1, 1) := by decide +kernel
theorem dX4_scan_125 : decode cX4_scan 125 = .ok (.imul, 1) := by decide +kernel
theorem dX4_scan_126 : decode cX4_scan 126 = .ok (.lload 8, 2) := by decide +kernel
theorem dX4_scan_128 : decode cX4_scan 128 = .ok (.l2i, 1) := by decide +kernel
theorem dX4_scan_129 : decode cX4_scan 129 = .ok (.iadd, 1) := by decide +kernel
theorem dX4_scan_130 : decode cX4_scan 130 = .ok (.laload, 1) := by decide +kernel
theorem dX4_scan_131 : decode cX4_scan 131 = .ok (.aload_n 0, 1) := by decide +kernel
theorem dX4_scan_132 : decode cX4_scan 132 = .ok (.getfield 36, 3) := by decide +kernel
theorem dX4_scan_135 : decode cX4_scan 135 = .ok (.bipush 60, 2) := by decide +kernel
theorem dX4_scan_137 : decode cX4_scan 137 = .ok (.iload_n 1, 1) := by decide +kernel
theorem dX4_scan_138 : decode cX4_scan 138 = .ok (.imul, 1) := by decide +kernel
theorem dX4_scan_139 : decode cX4_scan 139 = .ok (.lload 8, 2) := by decide +kernel
theorem dX4_scan_141 : decode cX4_scan 141 = .ok (.l2i, 1) := by decide +kernel
theorem dX4_scan_142 : decode cX4_scan 142 = .ok (.iadd, 1) := by decide +kernel
theorem dX4_scan_143 : decode cX4_scan 143 = .ok (.iconst 1, 1) := by decide +kernel
theorem dX4_scan_144 : decode cX4_scan 144 = .ok (.iadd, 1) := by decide +kernel
theorem dX4_scan_145 : decode cX4_scan 145 = .ok (.laload, 1) := by decide +kernel
theorem dX4_scan_146 : decode cX4_scan 146 = .ok (.invokevirtual 165, 3) := by decide +kernel
theorem dX4_scan_149 : decode cX4_scan 149 = .ok (.istore 10, 2) := by decide +kernel
theorem dX4_scan_151 : decode cX4_scan 151 = .ok (.iload 10, 2) := by decide +kernel
theorem dX4_scan_153 : decode cX4_scan 153 = .ok (.ifCond .ge 11, 3) := by decide +kernel
theorem dX4_scan_156 : decode cX4_scan 156 = .ok (.bipush (-20), 2) := by decide +kernel
theorem dX4_scan_158 : decode cX4_scan 158 = .ok (.iload 10, 2) := by decide +kernel
theorem dX4_scan_160 : decode cX4_scan 160 = .ok (.iadd, 1) := by decide +kernel
theorem dX4_scan_161 : decode cX4_scan 161 = .ok (.goto 4, 3) := by decide +kernel
theorem dX4_scan_164 : decode cX4_scan 164 = .ok (.iconst 0, 1) := by decide +kernel
theorem dX4_scan_165 : decode cX4_scan 165 = .ok (.istore 6, 2) := by decide +kernel
theorem dX4_scan_167 : decode cX4_scan 167 = .ok (.iinc 7 1, 3) := by decide +kernel
theorem dX4_scan_170 : decode cX4_scan 170 = .ok (.goto (-106), 3) := by decide +kernel
theorem dX4_scan_173 : decode cX4_scan 173 = .ok (.aload_n 0, 1) := by decide +kernel
theorem dX4_scan_174 : decode cX4_scan 174 = .ok (.iload 6, 2) := by decide +kernel
theorem dX4_scan_176 : decode cX4_scan 176 = .ok (.ifCond .ge 8, 3) := by decide +kernel
theorem dX4_scan_179 : decode cX4_scan 179 = .ok (.iload 5, 2) := by decide +kernel
theorem dX4_scan_181 : decode cX4_scan 181 = .ok (.goto 7, 3) := by decide +kernel
theorem dX4_scan_184 : decode cX4_scan 184 = .ok (.aload_n 0, 1) := by decide +kernel
theorem dX4_scan_185 : decode cX4_scan 185 = .ok (.getfield 42, 3) := by decide +kernel
theorem dX4_scan_188 : decode cX4_scan 188 = .ok (.putfield 42, 3) := by decide +kernel
theorem dX4_scan_191 : decode cX4_scan 191 = .ok (.iload 6, 2) := by decide +kernel
theorem dX4_scan_193 : decode cX4_scan 193 = .ok (.ifCond .ge 8, 3) := by decide +kernel
theorem dX4_scan_196 : decode cX4_scan 196 = .ok (.iload 6, 2) := by decide +kernel
theorem dX4_scan_198 : decode cX4_scan 198 = .ok (.goto 7, 3) := by decide +kernel
theorem dX4_scan_201 : decode cX4_scan 201 = .ok (.aload_n 0, 1) := by decide +kernel
theorem dX4_scan_202 : decode cX4_scan 202 = .ok (.getfield 42, 3) := by decide +kernel
theorem dX4_scan_205 : decode cX4_scan 205 = .ok (.ireturn, 1) := by decide +kernel
theorem dX4_count_0 : decode cX4_count 0 = .ok (.iconst 0, 1) := by decide +kernel
theorem dX4_count_1 : decode cX4_count 1 = .ok (.istore_n 2, 1) := by decide +kernel
theorem dX4_count_2 : decode cX4_count 2 = .ok (.iconst 0, 1) := by decide +kernel
theorem dX4_count_3 : decode cX4_count 3 = .ok (.istore_n 3, 1) := by decide +kernel
theorem dX4_count_4 : decode cX4_count 4 = .ok (.iconst 0, 1) := by decide +kernel
theorem dX4_count_5 : decode cX4_count 5 = .ok (.istore 4, 2) := by decide +kernel
theorem dX4_count_7 : decode cX4_count 7 = .ok (.iload 4, 2) := by decide +kernel
theorem dX4_count_9 : decode cX4_count 9 = .ok (.aload_n 0, 1) := by decide +kernel
theorem dX4_count_10 : decode cX4_count 10 = .ok (.getfield 42, 3) := by decide +kernel
theorem dX4_count_13 : decode cX4_count 13 = .ok (.if_icmp .ge 81, 3) := by decide +kernel
theorem dX4_count_16 : decode cX4_count 16 = .ok (.iload_n 2, 1) := by decide +kernel
theorem dX4_count_17 : decode cX4_count 17 = .ok (.aload_n 0, 1) := by decide +kernel
theorem dX4_count_18 : decode cX4_count 18 = .ok (.iload 4, 2) := by decide +kernel
theorem dX4_count_20 : decode cX4_count 20 = .ok (.invokevirtual 95, 3) := by decide +kernel
theorem dX4_count_23 : decode cX4_count 23 = .ok (.ifCond .eq 7, 3) := by decide +kernel
theorem dX4_count_26 : decode cX4_count 26 = .ok (.iconst 1, 1) := by decide +kernel
theorem dX4_count_27 : decode cX4_count 27 = .ok (.goto 4, 3) := by decide +kernel
theorem dX4_count_30 : decode cX4_count 30 = .ok (.iconst 0, 1) := by decide +kernel
theorem dX4_count_31 : decode cX4_count 31 = .ok (.iadd, 1) := by decide +kernel
theorem dX4_count_32 : decode cX4_count 32 = .ok (.istore_n 2, 1) := by decide +kernel
theorem dX4_count_33 : decode cX4_count 33 = .ok (.iconst 1, 1) := by decide +kernel
theorem dX4_count_34 : decode cX4_count 34 = .ok (.istore 5, 2) := by decide +kernel
theorem dX4_count_36 : decode cX4_count 36 = .ok (.iconst 0, 1) := by decide +kernel
theorem dX4_count_37 : decode cX4_count 37 = .ok (.istore 6, 2) := by decide +kernel
theorem dX4_count_39 : decode cX4_count 39 = .ok (.iload 6, 2) := by decide +kernel
theorem dX4_count_41 : decode cX4_count 41 = .ok (.iload 4, 2) := by decide +kernel
theorem dX4_count_43 : decode cX4_count 43 = .ok (.if_icmp .ge 32, 3) := by decide +kernel
theorem dX4_count_46 : decode cX4_count 46 = .ok (.iload 5, 2) := by decide +kernel
theorem dX4_count_48 : decode cX4_count 48 = .ok (.ifCond .eq 18, 3) := by decide +kernel
theorem dX4_count_51 : decode cX4_count 51 = .ok (.aload_n 0, 1) := by decide +kernel
theorem dX4_count_52 : decode cX4_count 52 = .ok (.iload 4, 2) := by decide +kernel
theorem dX4_count_54 : decode cX4_count 54 = .ok (.iload 6, 2) := by decide +kernel
theorem dX4_count_56 : decode cX4_count 56 = .ok (.invokevirtual 106, 3) := by decide +kernel
theorem dX4_count_59 : decode cX4_count 59 = .ok (.ifCond .ne 7, 3) := by decide +kernel
theorem dX4_count_62 : decode cX4_count 62 = .ok (.iconst 1, 1) := by decide +kernel
theorem dX4_count_63 : decode cX4_count 63 = .ok (.goto 4, 3) := by decide +kernel
theorem dX4_count_66 : decode cX4_count 66 = .ok (.iconst 0, 1) := by decide +kernel
theorem dX4_count_67 : decode cX4_count 67 = .ok (.istore 5, 2) := by decide +kernel
theorem dX4_count_69 : decode cX4_count 69 = .ok (.iinc 6 1, 3) := by decide +kernel
theorem dX4_count_72 : decode cX4_count 72 = .ok (.goto (-33), 3) := by decide +kernel
theorem dX4_count_75 : decode cX4_count 75 = .ok (.iload_n 3, 1) := by decide +kernel
theorem dX4_count_76 : decode cX4_count 76 = .ok (.iload 5, 2) := by decide +kernel
theorem dX4_count_78 : decode cX4_count 78 = .ok (.ifCond .eq 7, 3) := by decide +kernel
theorem dX4_count_81 : decode cX4_count 81 = .ok (.iconst 1, 1) := by decide +kernel
theorem dX4_count_82 : decode cX4_count 82 = .ok (.goto 4, 3) := by decide +kernel
theorem dX4_count_85 : decode cX4_count 85 = .ok (.iconst 0, 1) := by decide +kernel
theorem dX4_count_86 : decode cX4_count 86 = .ok (.iadd, 1) := by decide +kernel
theorem dX4_count_87 : decode cX4_count 87 = .ok (.istore_n 3, 1) := by decide +kernel
theorem dX4_count_88 : decode cX4_count 88 = .ok (.iinc 4 1, 3) := by decide +kernel
theorem dX4_count_91 : decode cX4_count 91 = .ok (.goto (-84), 3) := by decide +kernel
theorem dX4_count_94 : decode cX4_count 94 = .ok (.iload_n 1, 1) := by decide +kernel
theorem dX4_count_95 : decode cX4_count 95 = .ok (.ifCond .ne 10, 3) := by decide +kernel
theorem dX4_count_98 : decode cX4_count 98 = .ok (.aload_n 0, 1) := by decide +kernel
theorem dX4_count_99 : decode cX4_count 99 = .ok (.getfield 42, 3) := by decide +kernel
theorem dX4_count_102 : decode cX4_count 102 = .ok (.goto 22, 3) := by decide +kernel
theorem dX4_count_105 : decode cX4_count 105 = .ok (.iload_n 1, 1) := by decide +kernel
theorem dX4_count_106 : decode cX4_count 106 = .ok (.iconst 1, 1) := by decide +kernel
theorem dX4_count_107 : decode cX4_count 107 = .ok (.if_icmp .ne 7, 3) := by decide +kernel
theorem dX4_count_110 : decode cX4_count 110 = .ok (.iload_n 2, 1) := by decide +kernel
theorem dX4_count_111 : decode cX4_count 111 = .ok (.goto 13, 3) := by decide +kernel
theorem dX4_count_114 : decode cX4_count 114 = .ok (.iload_n 1, 1) := by decide +kernel
theorem dX4_count_115 : decode cX4_count 115 = .ok (.iconst 2, 1) := by decide +kernel
theorem dX4_count_116 : decode cX4_count 116 = .ok (.if_icmp .ne 7, 3) := by decide +kernel
theorem dX4_count_119 : decode cX4_count 119 = .ok (.iload_n 3, 1) := by decide +kernel
theorem dX4_count_120 : decode cX4_count 120 = .ok (.goto 4, 3) := by decide +kernel
theorem dX4_count_123 : decode cX4_count 123 = .ok (.iconst (-1), 1) := by decide +kernel
theorem dX4_count_124 : decode cX4_count 124 = .ok (.ireturn, 1) := by decide +kernel
