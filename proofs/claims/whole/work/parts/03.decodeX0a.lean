theorem dX0_init_0 : decode cX0_init 0 = .ok (.aload_n 0, 1) := by decide +kernel
theorem dX0_init_1 : decode cX0_init 1 = .ok (.invokespecial 3, 3) := by decide +kernel
theorem dX0_init_4 : decode cX0_init 4 = .ok (.aload_n 0, 1) := by decide +kernel
theorem dX0_init_5 : decode cX0_init 5 = .ok (.sipush 236, 3) := by decide +kernel
theorem dX0_init_8 : decode cX0_init 8 = .ok (.newarray .int, 2) := by decide +kernel
theorem dX0_init_10 : decode cX0_init 10 = .ok (.putfield 9, 3) := by decide +kernel
theorem dX0_init_13 : decode cX0_init 13 = .ok (.aload_n 0, 1) := by decide +kernel
theorem dX0_init_14 : decode cX0_init 14 = .ok (.sipush 236, 3) := by decide +kernel
theorem dX0_init_17 : decode cX0_init 17 = .ok (.newarray .int, 2) := by decide +kernel
theorem dX0_init_19 : decode cX0_init 19 = .ok (.putfield 15, 3) := by decide +kernel
theorem dX0_init_22 : decode cX0_init 22 = .ok (.aload_n 0, 1) := by decide +kernel
theorem dX0_init_23 : decode cX0_init 23 = .ok (.bipush 9, 2) := by decide +kernel
theorem dX0_init_25 : decode cX0_init 25 = .ok (.newarray .int, 2) := by decide +kernel
theorem dX0_init_27 : decode cX0_init 27 = .ok (.putfield 18, 3) := by decide +kernel
theorem dX0_init_30 : decode cX0_init 30 = .ok (.aload_n 0, 1) := by decide +kernel
theorem dX0_init_31 : decode cX0_init 31 = .ok (.iconst 0, 1) := by decide +kernel
theorem dX0_init_32 : decode cX0_init 32 = .ok (.putfield 21, 3) := by decide +kernel
theorem dX0_init_35 : decode cX0_init 35 = .ok (.aload_n 0, 1) := by decide +kernel
theorem dX0_init_36 : decode cX0_init 36 = .ok (.iconst 0, 1) := by decide +kernel
theorem dX0_init_37 : decode cX0_init 37 = .ok (.iconst 0, 1) := by decide +kernel
theorem dX0_init_38 : decode cX0_init 38 = .ok (.invokevirtual 25, 3) := by decide +kernel
theorem dX0_init_41 : decode cX0_init 41 = .ok (.aload_n 0, 1) := by decide +kernel
theorem dX0_init_42 : decode cX0_init 42 = .ok (.getfield 18, 3) := by decide +kernel
theorem dX0_init_45 : decode cX0_init 45 = .ok (.iconst 1, 1) := by decide +kernel
theorem dX0_init_46 : decode cX0_init 46 = .ok (.aload_n 0, 1) := by decide +kernel
theorem dX0_init_47 : decode cX0_init 47 = .ok (.getfield 21, 3) := by decide +kernel
theorem dX0_init_50 : decode cX0_init 50 = .ok (.iastore, 1) := by decide +kernel
theorem dX0_init_51 : decode cX0_init 51 = .ok (.bipush 8, 2) := by decide +kernel
theorem dX0_init_53 : decode cX0_init 53 = .ok (.invokestatic 29, 3) := by decide +kernel
theorem dX0_init_56 : decode cX0_init 56 = .ok (.newarray .boolean, 2) := by decide +kernel
theorem dX0_init_58 : decode cX0_init 58 = .ok (.astore_n 1, 1) := by decide +kernel
theorem dX0_init_59 : decode cX0_init 59 = .ok (.iconst 2, 1) := by decide +kernel
theorem dX0_init_60 : decode cX0_init 60 = .ok (.istore_n 2, 1) := by decide +kernel
theorem dX0_init_61 : decode cX0_init 61 = .ok (.iload_n 2, 1) := by decide +kernel
theorem dX0_init_62 : decode cX0_init 62 = .ok (.bipush 8, 2) := by decide +kernel
theorem dX0_init_64 : decode cX0_init 64 = .ok (.if_icmp .gt 30, 3) := by decide +kernel
theorem dX0_init_67 : decode cX0_init 67 = .ok (.aload_n 1, 1) := by decide +kernel
theorem dX0_init_68 : decode cX0_init 68 = .ok (.iload_n 2, 1) := by decide +kernel
theorem dX0_init_69 : decode cX0_init 69 = .ok (.invokestatic 33, 3) := by decide +kernel
theorem dX0_init_72 : decode cX0_init 72 = .ok (.aload_n 0, 1) := by decide +kernel
theorem dX0_init_73 : decode cX0_init 73 = .ok (.aload_n 1, 1) := by decide +kernel
theorem dX0_init_74 : decode cX0_init 74 = .ok (.iload_n 2, 1) := by decide +kernel
theorem dX0_init_75 : decode cX0_init 75 = .ok (.invokevirtual 37, 3) := by decide +kernel
theorem dX0_init_78 : decode cX0_init 78 = .ok (.aload_n 0, 1) := by decide +kernel
theorem dX0_init_79 : decode cX0_init 79 = .ok (.getfield 18, 3) := by decide +kernel
theorem dX0_init_82 : decode cX0_init 82 = .ok (.iload_n 2, 1) := by decide +kernel
theorem dX0_init_83 : decode cX0_init 83 = .ok (.aload_n 0, 1) := by decide +kernel
theorem dX0_init_84 : decode cX0_init 84 = .ok (.getfield 21, 3) := by decide +kernel
theorem dX0_init_87 : decode cX0_init 87 = .ok (.iastore, 1) := by decide +kernel
theorem dX0_init_88 : decode cX0_init 88 = .ok (.iinc 2 1, 3) := by decide +kernel
theorem dX0_init_91 : decode cX0_init 91 = .ok (.goto (-30), 3) := by decide +kernel
theorem dX0_init_94 : decode cX0_init 94 = .ok (.return_, 1) := by decide +kernel
theorem dX0_markFree_0 : decode cX0_markFree 0 = .ok (.iconst 0, 1) := by decide +kernel
theorem dX0_markFree_1 : decode cX0_markFree 1 = .ok (.istore_n 2, 1) := by decide +kernel
theorem dX0_markFree_2 : decode cX0_markFree 2 = .ok (.iload_n 2, 1) := by decide +kernel
theorem dX0_markFree_3 : decode cX0_markFree 3 = .ok (.iload_n 1, 1) := by decide +kernel
theorem dX0_markFree_4 : decode cX0_markFree 4 = .ok (.invokestatic 29, 3) := by decide +kernel
theorem dX0_markFree_7 : decode cX0_markFree 7 = .ok (.if_icmp .ge 35, 3) := by decide +kernel
theorem dX0_markFree_10 : decode cX0_markFree 10 = .ok (.iload_n 2, 1) := by decide +kernel
theorem dX0_markFree_11 : decode cX0_markFree 11 = .ok (.aload_n 0, 1) := by decide +kernel
theorem dX0_markFree_12 : decode cX0_markFree 12 = .ok (.arraylength, 1) := by decide +kernel
theorem dX0_markFree_13 : decode cX0_markFree 13 = .ok (.if_icmp .ge 29, 3) := by decide +kernel
theorem dX0_markFree_16 : decode cX0_markFree 16 = .ok (.aload_n 0, 1) := by decide +kernel
theorem dX0_markFree_17 : decode cX0_markFree 17 = .ok (.iload_n 2, 1) := by decide +kernel
theorem dX0_markFree_18 : decode cX0_markFree 18 = .ok (.iload_n 2, 1) := by decide +kernel
theorem dX0_markFree_19 : decode cX0_markFree 19 = .ok (.iload_n 1, 1) := by decide +kernel
theorem dX0_markFree_20 : decode cX0_markFree 20 = .ok (.invokestatic 29, 3) := by decide +kernel
theorem dX0_markFree_23 : decode cX0_markFree 23 = .ok (.invokestatic 40, 3) := by decide +kernel
theorem dX0_markFree_26 : decode cX0_markFree 26 = .ok (.iload_n 1, 1) := by decide +kernel
theorem dX0_markFree_27 : decode cX0_markFree 27 = .ok (.if_icmp .ne 7, 3) := by decide +kernel
theorem dX0_markFree_30 : decode cX0_markFree 30 = .ok (.iconst 1, 1) := by decide +kernel
theorem dX0_markFree_31 : decode cX0_markFree 31 = .ok (.goto 4, 3) := by decide +kernel
theorem dX0_markFree_34 : decode cX0_markFree 34 = .ok (.iconst 0, 1) := by decide +kernel
theorem dX0_markFree_35 : decode cX0_markFree 35 = .ok (.bastore, 1) := by decide +kernel
theorem dX0_markFree_36 : decode cX0_markFree 36 = .ok (.iinc 2 1, 3) := by decide +kernel
theorem dX0_markFree_39 : decode cX0_markFree 39 = .ok (.goto (-37), 3) := by decide +kernel
theorem dX0_markFree_42 : decode cX0_markFree 42 = .ok (.return_, 1) := by decide +kernel
theorem dX0_joinFree_0 : decode cX0_joinFree 0 = .ok (.ldc2_w 46, 3) := by decide +kernel
theorem dX0_joinFree_3 : decode cX0_joinFree 3 = .ok (.iload_n 2, 1) := by decide +kernel
theorem dX0_joinFree_4 : decode cX0_joinFree 4 = .ok (.invokestatic 29, 3) := by decide +kernel
theorem dX0_joinFree_7 : decode cX0_joinFree 7 = .ok (.i2l, 1) := by decide +kernel
theorem dX0_joinFree_8 : decode cX0_joinFree 8 = .ok (.invokestatic 48, 3) := by decide +kernel
theorem dX0_joinFree_11 : decode cX0_joinFree 11 = .ok (.l2i, 1) := by decide +kernel
theorem dX0_joinFree_12 : decode cX0_joinFree 12 = .ok (.istore_n 3, 1) := by decide +kernel
theorem dX0_joinFree_13 : decode cX0_joinFree 13 = .ok (.iload_n 2, 1) := by decide +kernel
theorem dX0_joinFree_14 : decode cX0_joinFree 14 = .ok (.invokestatic 29, 3) := by decide +kernel
theorem dX0_joinFree_17 : decode cX0_joinFree 17 = .ok (.aload_n 1, 1) := by decide +kernel
theorem dX0_joinFree_18 : decode cX0_joinFree 18 = .ok (.arraylength, 1) := by decide +kernel
theorem dX0_joinFree_19 : decode cX0_joinFree 19 = .ok (.invokestatic 52, 3) := by decide +kernel
theorem dX0_joinFree_22 : decode cX0_joinFree 22 = .ok (.istore 4, 2) := by decide +kernel
theorem dX0_joinFree_24 : decode cX0_joinFree 24 = .ok (.iconst 0, 1) := by decide +kernel
theorem dX0_joinFree_25 : decode cX0_joinFree 25 = .ok (.istore 5, 2) := by decide +kernel
theorem dX0_joinFree_27 : decode cX0_joinFree 27 = .ok (.iload 5, 2) := by decide +kernel
theorem dX0_joinFree_29 : decode cX0_joinFree 29 = .ok (.iload 4, 2) := by decide +kernel
theorem dX0_joinFree_31 : decode cX0_joinFree 31 = .ok (.if_icmp .ge 79, 3) := by decide +kernel
theorem dX0_joinFree_34 : decode cX0_joinFree 34 = .ok (.iload 5, 2) := by decide +kernel
theorem dX0_joinFree_36 : decode cX0_joinFree 36 = .ok (.iconst 1, 1) := by decide +kernel
theorem dX0_joinFree_37 : decode cX0_joinFree 37 = .ok (.iadd, 1) := by decide +kernel
theorem dX0_joinFree_38 : decode cX0_joinFree 38 = .ok (.istore 6, 2) := by decide +kernel
theorem dX0_joinFree_40 : decode cX0_joinFree 40 = .ok (.iload 6, 2) := by decide +kernel
theorem dX0_joinFree_42 : decode cX0_joinFree 42 = .ok (.iload 4, 2) := by decide +kernel
theorem dX0_joinFree_44 : decode cX0_joinFree 44 = .ok (.if_icmp .ge 60, 3) := by decide +kernel
theorem dX0_joinFree_47 : decode cX0_joinFree 47 = .ok (.aload_n 1, 1) := by decide +kernel
theorem dX0_joinFree_48 : decode cX0_joinFree 48 = .ok (.iload 5, 2) := by decide +kernel
theorem dX0_joinFree_50 : decode cX0_joinFree 50 = .ok (.baload, 1) := by decide +kernel
theorem dX0_joinFree_51 : decode cX0_joinFree 51 = .ok (.ifCond .eq 53, 3) := by decide +kernel
theorem dX0_joinFree_54 : decode cX0_joinFree 54 = .ok (.aload_n 1, 1) := by decide +kernel
theorem dX0_joinFree_55 : decode cX0_joinFree 55 = .ok (.iload 6, 2) := by decide +kernel
theorem dX0_joinFree_57 : decode cX0_joinFree 57 = .ok (.baload, 1) := by decide +kernel
theorem dX0_joinFree_58 : decode cX0_joinFree 58 = .ok (.ifCond .eq 40, 3) := by decide +kernel
theorem dX0_joinFree_61 : decode cX0_joinFree 61 = .ok (.aload_n 0, 1) := by decide +kernel
theorem dX0_joinFree_62 : decode cX0_joinFree 62 = .ok (.iload 5, 2) := by decide +kernel
theorem dX0_joinFree_64 : decode cX0_joinFree 64 = .ok (.iload_n 3, 1) := by decide +kernel
theorem dX0_joinFree_65 : decode cX0_joinFree 65 = .ok (.imul, 1) := by decide +kernel
theorem dX0_joinFree_66 : decode cX0_joinFree 66 = .ok (.iload 6, 2) := by decide +kernel
theorem dX0_joinFree_68 : decode cX0_joinFree 68 = .ok (.iload_n 3, 1) := by decide +kernel
theorem dX0_joinFree_69 : decode cX0_joinFree 69 = .ok (.imul, 1) := by decide +kernel
theorem dX0_joinFree_70 : decode cX0_joinFree 70 = .ok (.invokevirtual 57, 3) := by decide +kernel
theorem dX0_joinFree_73 : decode cX0_joinFree 73 = .ok (.ifCond .eq 25, 3) := by decide +kernel
theorem dX0_joinFree_76 : decode cX0_joinFree 76 = .ok (.aload_n 0, 1) := by decide +kernel
theorem dX0_joinFree_77 : decode cX0_joinFree 77 = .ok (.iload 5, 2) := by decide +kernel
theorem dX0_joinFree_79 : decode cX0_joinFree 79 = .ok (.iload_n 3, 1) := by decide +kernel
theorem dX0_joinFree_80 : decode cX0_joinFree 80 = .ok (.imul, 1) := by decide +kernel
theorem dX0_joinFree_81 : decode cX0_joinFree 81 = .ok (.iload 6, 2) := by decide +kernel
theorem dX0_joinFree_83 : decode cX0_joinFree 83 = .ok (.iload_n 3, 1) := by decide +kernel
theorem dX0_joinFree_84 : decode cX0_joinFree 84 = .ok (.imul, 1) := by decide +kernel
theorem dX0_joinFree_85 : decode cX0_joinFree 85 = .ok (.invokevirtual 25, 3) := by decide +kernel
theorem dX0_joinFree_88 : decode cX0_joinFree 88 = .ok (.aload_n 1, 1) := by decide +kernel
theorem dX0_joinFree_89 : decode cX0_joinFree 89 = .ok (.iload 5, 2) := by decide +kernel
theorem dX0_joinFree_91 : decode cX0_joinFree 91 = .ok (.iconst 0, 1) := by decide +kernel
theorem dX0_joinFree_92 : decode cX0_joinFree 92 = .ok (.bastore, 1) := by decide +kernel
theorem dX0_joinFree_93 : decode cX0_joinFree 93 = .ok (.aload_n 1, 1) := by decide +kernel
theorem dX0_joinFree_94 : decode cX0_joinFree 94 = .ok (.iload 6, 2) := by decide +kernel
theorem dX0_joinFree_96 : decode cX0_joinFree 96 = .ok (.iconst 0, 1) := by decide +kernel
theorem dX0_joinFree_97 : decode cX0_joinFree 97 = .ok (.bastore, 1) := by decide +kernel
theorem dX0_joinFree_98 : decode cX0_joinFree 98 = .ok (.iinc 6 1, 3) := by decide +kernel
theorem dX0_joinFree_101 : decode cX0_joinFree 101 = .ok (.goto (-61), 3) := by decide +kernel
theorem dX0_joinFree_104 : decode cX0_joinFree 104 = .ok (.iinc 5 1, 3) := by decide +kernel
theorem dX0_joinFree_107 : decode cX0_joinFree 107 = .ok (.goto (-80), 3) := by decide +kernel
theorem dX0_joinFree_110 : decode cX0_joinFree 110 = .ok (.return_, 1) := by decide +kernel
theorem dX0_join_0 : decode cX0_join 0 = .ok (.aload_n 0, 1) := by decide +kernel
theorem dX0_join_1 : decode cX0_join 1 = .ok (.getfield 21, 3) := by decide +kernel
theorem dX0_join_4 : decode cX0_join 4 = .ok (.sipush 236, 3) := by decide +kernel
theorem dX0_join_7 : decode cX0_join 7 = .ok (.if_icmp .ge 33, 3) := by decide +kernel
theorem dX0_join_10 : decode cX0_join 10 = .ok (.aload_n 0, 1) := by decide +kernel
theorem dX0_join_11 : decode cX0_join 11 = .ok (.getfield 9, 3) := by decide +kernel
theorem dX0_join_14 : decode cX0_join 14 = .ok (.aload_n 0, 1) := by decide +kernel
theorem dX0_join_15 : decode cX0_join 15 = .ok (.getfield 21, 3) := by decide +kernel
theorem dX0_join_18 : decode cX0_join 18 = .ok (.iload_n 1, 1) := by decide +kernel
theorem dX0_join_19 : decode cX0_join 19 = .ok (.iastore, 1) := by decide +kernel
theorem dX0_join_20 : decode cX0_join 20 = .ok (.aload_n 0, 1) := by decide +kernel
theorem dX0_join_21 : decode cX0_join 21 = .ok (.getfield 15, 3) := by decide +kernel
theorem dX0_join_24 : decode cX0_join 24 = .ok (.aload_n 0, 1) := by decide +kernel
theorem dX0_join_25 : decode cX0_join 25 = .ok (.getfield 21, 3) := by decide +kernel
theorem dX0_join_28 : decode cX0_join 28 = .ok (.iload_n 2, 1) := by decide +kernel
theorem dX0_join_29 : decode cX0_join 29 = .ok (.iastore, 1) := by decide +kernel
theorem dX0_join_30 : decode cX0_join 30 = .ok (.aload_n 0, 1) := by decide +kernel
theorem dX0_join_31 : decode cX0_join 31 = .ok (.dup, 1) := by decide +kernel
theorem dX0_join_32 : decode cX0_join 32 = .ok (.getfield 21, 3) := by decide +kernel
theorem dX0_join_35 : decode cX0_join 35 = .ok (.iconst 1, 1) := by decide +kernel
theorem dX0_join_36 : decode cX0_join 36 = .ok (.iadd, 1) := by decide +kernel
theorem dX0_join_37 : decode cX0_join 37 = .ok (.putfield 21, 3) := by decide +kernel
theorem dX0_join_40 : decode cX0_join 40 = .ok (.return_, 1) := by decide +kernel
theorem dX0_crossesNone_0 : decode cX0_crossesNone 0 = .ok (.iconst 0, 1) := by decide +kernel
theorem dX0_crossesNone_1 : decode cX0_crossesNone 1 = .ok (.istore_n 3, 1) := by decide +kernel
theorem dX0_crossesNone_2 : decode cX0_crossesNone 2 = .ok (.iload_n 3, 1) := by decide +kernel
theorem dX0_crossesNone_3 : decode cX0_crossesNone 3 = .ok (.aload_n 0, 1) := by decide +kernel
theorem dX0_crossesNone_4 : decode cX0_crossesNone 4 = .ok (.getfield 21, 3) := by decide +kernel
theorem dX0_crossesNone_7 : decode cX0_crossesNone 7 = .ok (.if_icmp .ge 73, 3) := by decide +kernel
theorem dX0_crossesNone_10 : decode cX0_crossesNone 10 = .ok (.iload_n 1, 1) := by decide +kernel
theorem dX0_crossesNone_11 : decode cX0_crossesNone 11 = .ok (.i2l, 1) := by decide +kernel
theorem dX0_crossesNone_12 : decode cX0_crossesNone 12 = .ok (.aload_n 0, 1) := by decide +kernel
theorem dX0_crossesNone_13 : decode cX0_crossesNone 13 = .ok (.getfield 9, 3) := by decide +kernel
theorem dX0_crossesNone_16 : decode cX0_crossesNone 16 = .ok (.iload_n 3, 1) := by decide +kernel
theorem dX0_crossesNone_17 : decode cX0_crossesNone 17 = .ok (.iaload, 1) := by decide +kernel
theorem dX0_crossesNone_18 : decode cX0_crossesNone 18 = .ok (.i2l, 1) := by decide +kernel
theorem dX0_crossesNone_19 : decode cX0_crossesNone 19 = .ok (.invokestatic 61, 3) := by decide +kernel
theorem dX0_crossesNone_22 : decode cX0_crossesNone 22 = .ok (.iload_n 1, 1) := by decide +kernel
theorem dX0_crossesNone_23 : decode cX0_crossesNone 23 = .ok (.i2l, 1) := by decide +kernel
theorem dX0_crossesNone_24 : decode cX0_crossesNone 24 = .ok (.aload_n 0, 1) := by decide +kernel
theorem dX0_crossesNone_25 : decode cX0_crossesNone 25 = .ok (.getfield 15, 3) := by decide +kernel
theorem dX0_crossesNone_28 : decode cX0_crossesNone 28 = .ok (.iload_n 3, 1) := by decide +kernel
theorem dX0_crossesNone_29 : decode cX0_crossesNone 29 = .ok (.iaload, 1) := by decide +kernel
theorem dX0_crossesNone_30 : decode cX0_crossesNone 30 = .ok (.i2l, 1) := by decide +kernel
theorem dX0_crossesNone_31 : decode cX0_crossesNone 31 = .ok (.invokestatic 61, 3) := by decide +kernel
theorem dX0_crossesNone_34 : decode cX0_crossesNone 34 = .ok (.imul, 1) := by decide +kernel
theorem dX0_crossesNone_35 : decode cX0_crossesNone 35 = .ok (.istore 4, 2) := by decide +kernel
theorem dX0_crossesNone_37 : decode cX0_crossesNone 37 = .ok (.iload_n 2, 1) := by decide +kernel
theorem dX0_crossesNone_38 : decode cX0_crossesNone 38 = .ok (.i2l, 1) := by decide +kernel
theorem dX0_crossesNone_39 : decode cX0_crossesNone 39 = .ok (.aload_n 0, 1) := by decide +kernel
theorem dX0_crossesNone_40 : decode cX0_crossesNone 40 = .ok (.getfield 9, 3) := by decide +kernel
theorem dX0_crossesNone_43 : decode cX0_crossesNone 43 = .ok (.iload_n 3, 1) := by decide +kernel
theorem dX0_crossesNone_44 : decode cX0_crossesNone 44 = .ok (.iaload, 1) := by decide +kernel
theorem dX0_crossesNone_45 : decode cX0_crossesNone 45 = .ok (.i2l, 1) := by decide +kernel
theorem dX0_crossesNone_46 : decode cX0_crossesNone 46 = .ok (.invokestatic 61, 3) := by decide +kernel
theorem dX0_crossesNone_49 : decode cX0_crossesNone 49 = .ok (.iload_n 2, 1) := by decide +kernel
theorem dX0_crossesNone_50 : decode cX0_crossesNone 50 = .ok (.i2l, 1) := by decide +kernel
theorem dX0_crossesNone_51 : decode cX0_crossesNone 51 = .ok (.aload_n 0, 1) := by decide +kernel
theorem dX0_crossesNone_52 : decode cX0_crossesNone 52 = .ok (.getfield 15, 3) := by decide +kernel
theorem dX0_crossesNone_55 : decode cX0_crossesNone 55 = .ok (.iload_n 3, 1) := by decide +kernel
theorem dX0_crossesNone_56 : decode cX0_crossesNone 56 = .ok (.iaload, 1) := by decide +kernel
theorem dX0_crossesNone_57 : decode cX0_crossesNone 57 = .ok (.i2l, 1) := by decide +kernel
theorem dX0_crossesNone_58 : decode cX0_crossesNone 58 = .ok (.invokestatic 61, 3) := by decide +kernel
theorem dX0_crossesNone_61 : decode cX0_crossesNone 61 = .ok (.imul, 1) := by decide +kernel
theorem dX0_crossesNone_62 : decode cX0_crossesNone 62 = .ok (.istore 5, 2) := by decide +kernel
theorem dX0_crossesNone_64 : decode cX0_crossesNone 64 = .ok (.iload 4, 2) := by decide +kernel
theorem dX0_crossesNone_66 : decode cX0_crossesNone 66 = .ok (.iload 5, 2) := by decide +kernel
theorem dX0_crossesNone_68 : decode cX0_crossesNone 68 = .ok (.imul, 1) := by decide +kernel
theorem dX0_crossesNone_69 : decode cX0_crossesNone 69 = .ok (.ifCond .ge 5, 3) := by decide +kernel
theorem dX0_crossesNone_72 : decode cX0_crossesNone 72 = .ok (.iconst 0, 1) := by decide +kernel
theorem dX0_crossesNone_73 : decode cX0_crossesNone 73 = .ok (.ireturn, 1) := by decide +kernel
theorem dX0_crossesNone_74 : decode cX0_crossesNone 74 = .ok (.iinc 3 1, 3) := by decide +kernel
theorem dX0_crossesNone_77 : decode cX0_crossesNone 77 = .ok (.goto (-75), 3) := by decide +kernel
theorem dX0_crossesNone_80 : decode cX0_crossesNone 80 = .ok (.iconst 1, 1) := by decide +kernel
theorem dX0_crossesNone_81 : decode cX0_crossesNone 81 = .ok (.ireturn, 1) := by decide +kernel
theorem dX0_isMade_0 : decode cX0_isMade 0 = .ok (.iload_n 1, 1) := by decide +kernel
theorem dX0_isMade_1 : decode cX0_isMade 1 = .ok (.ifCond .lt 15, 3) := by decide +kernel
theorem dX0_isMade_4 : decode cX0_isMade 4 = .ok (.iload_n 1, 1) := by decide +kernel
theorem dX0_isMade_5 : decode cX0_isMade 5 = .ok (.aload_n 0, 1) := by decide +kernel
theorem dX0_isMade_6 : decode cX0_isMade 6 = .ok (.getfield 21, 3) := by decide +kernel
theorem dX0_isMade_9 : decode cX0_isMade 9 = .ok (.if_icmp .ge 7, 3) := by decide +kernel
theorem dX0_isMade_12 : decode cX0_isMade 12 = .ok (.iconst 1, 1) := by decide +kernel
theorem dX0_isMade_13 : decode cX0_isMade 13 = .ok (.goto 4, 3) := by decide +kernel
theorem dX0_isMade_16 : decode cX0_isMade 16 = .ok (.iconst 0, 1) := by decide +kernel
theorem dX0_isMade_17 : decode cX0_isMade 17 = .ok (.ireturn, 1) := by decide +kernel
theorem dX0_amountUpTo_0 : decode cX0_amountUpTo 0 = .ok (.iload_n 1, 1) := by decide +kernel
theorem dX0_amountUpTo_1 : decode cX0_amountUpTo 1 = .ok (.iconst 1, 1) := by decide +kernel
theorem dX0_amountUpTo_2 : decode cX0_amountUpTo 2 = .ok (.if_icmp .lt 21, 3) := by decide +kernel
theorem dX0_amountUpTo_5 : decode cX0_amountUpTo 5 = .ok (.iload_n 1, 1) := by decide +kernel
theorem dX0_amountUpTo_6 : decode cX0_amountUpTo 6 = .ok (.aload_n 0, 1) := by decide +kernel
theorem dX0_amountUpTo_7 : decode cX0_amountUpTo 7 = .ok (.getfield 18, 3) := by decide +kernel
theorem dX0_amountUpTo_10 : decode cX0_amountUpTo 10 = .ok (.arraylength, 1) := by decide +kernel
theorem dX0_amountUpTo_11 : decode cX0_amountUpTo 11 = .ok (.if_icmp .ge 12, 3) := by decide +kernel
theorem dX0_amountUpTo_14 : decode cX0_amountUpTo 14 = .ok (.aload_n 0, 1) := by decide +kernel
theorem dX0_amountUpTo_15 : decode cX0_amountUpTo 15 = .ok (.getfield 18, 3) := by decide +kernel
theorem dX0_amountUpTo_18 : decode cX0_amountUpTo 18 = .ok (.iload_n 1, 1) := by decide +kernel
theorem dX0_amountUpTo_19 : decode cX0_amountUpTo 19 = .ok (.iaload, 1) := by decide +kernel
theorem dX0_amountUpTo_20 : decode cX0_amountUpTo 20 = .ok (.goto 4, 3) := by decide +kernel
theorem dX0_amountUpTo_23 : decode cX0_amountUpTo 23 = .ok (.iconst 0, 1) := by decide +kernel
theorem dX0_amountUpTo_24 : decode cX0_amountUpTo 24 = .ok (.ireturn, 1) := by decide +kernel
theorem dX0_amountOf_0 : decode cX0_amountOf 0 = .ok (.aload_n 0, 1) := by decide +kernel
theorem dX0_amountOf_1 : decode cX0_amountOf 1 = .ok (.iload_n 1, 1) := by decide +kernel
theorem dX0_amountOf_2 : decode cX0_amountOf 2 = .ok (.invokevirtual 65, 3) := by decide +kernel
theorem dX0_amountOf_5 : decode cX0_amountOf 5 = .ok (.aload_n 0, 1) := by decide +kernel
theorem dX0_amountOf_6 : decode cX0_amountOf 6 = .ok (.iload_n 1, 1) := by decide +kernel
theorem dX0_amountOf_7 : decode cX0_amountOf 7 = .ok (.iconst 1, 1) := by decide +kernel
theorem dX0_amountOf_8 : decode cX0_amountOf 8 = .ok (.isub, 1) := by decide +kernel
theorem dX0_amountOf_9 : decode cX0_amountOf 9 = .ok (.invokevirtual 65, 3) := by decide +kernel
theorem dX0_amountOf_12 : decode cX0_amountOf 12 = .ok (.isub, 1) := by decide +kernel
theorem dX0_amountOf_13 : decode cX0_amountOf 13 = .ok (.ireturn, 1) := by decide +kernel
theorem dX0_lengthOf_0 : decode cX0_lengthOf 0 = .ok (.iconst 1, 1) := by decide +kernel
theorem dX0_lengthOf_1 : decode cX0_lengthOf 1 = .ok (.istore_n 2, 1) := by decide +kernel
theorem dX0_lengthOf_2 : decode cX0_lengthOf 2 = .ok (.iload_n 2, 1) := by decide +kernel
theorem dX0_lengthOf_3 : decode cX0_lengthOf 3 = .ok (.bipush 8, 2) := by decide +kernel
theorem dX0_lengthOf_5 : decode cX0_lengthOf 5 = .ok (.if_icmp .ge 18, 3) := by decide +kernel
theorem dX0_lengthOf_8 : decode cX0_lengthOf 8 = .ok (.iload_n 1, 1) := by decide +kernel
theorem dX0_lengthOf_9 : decode cX0_lengthOf 9 = .ok (.aload_n 0, 1) := by decide +kernel
theorem dX0_lengthOf_10 : decode cX0_lengthOf 10 = .ok (.iload_n 2, 1) := by decide +kernel
theorem dX0_lengthOf_11 : decode cX0_lengthOf 11 = .ok (.invokevirtual 65, 3) := by decide +kernel
theorem dX0_lengthOf_14 : decode cX0_lengthOf 14 = .ok (.if_icmp .lt 9, 3) := by decide +kernel
theorem dX0_lengthOf_17 : decode cX0_lengthOf 17 = .ok (.iinc 2 1, 3) := by decide +kernel
theorem dX0_lengthOf_20 : decode cX0_lengthOf 20 = .ok (.goto (-18), 3) := by decide +kernel
theorem dX0_lengthOf_23 : decode cX0_lengthOf 23 = .ok (.iload_n 2, 1) := by decide +kernel
theorem dX0_lengthOf_24 : decode cX0_lengthOf 24 = .ok (.ireturn, 1) := by decide +kernel
theorem dX0_pairWith_0 : decode cX0_pairWith 0 = .ok (.iconst 0, 1) := by decide +kernel
theorem dX0_pairWith_1 : decode cX0_pairWith 1 = .ok (.istore_n 2, 1) := by decide +kernel
theorem dX0_pairWith_2 : decode cX0_pairWith 2 = .ok (.iload_n 2, 1) := by decide +kernel
theorem dX0_pairWith_3 : decode cX0_pairWith 3 = .ok (.aload_n 0, 1) := by decide +kernel
theorem dX0_pairWith_4 : decode cX0_pairWith 4 = .ok (.getfield 21, 3) := by decide +kernel
theorem dX0_pairWith_7 : decode cX0_pairWith 7 = .ok (.if_icmp .ge 31, 3) := by decide +kernel
theorem dX0_pairWith_10 : decode cX0_pairWith 10 = .ok (.aload_n 0, 1) := by decide +kernel
theorem dX0_pairWith_11 : decode cX0_pairWith 11 = .ok (.getfield 9, 3) := by decide +kernel
theorem dX0_pairWith_14 : decode cX0_pairWith 14 = .ok (.iload_n 2, 1) := by decide +kernel
theorem dX0_pairWith_15 : decode cX0_pairWith 15 = .ok (.iaload, 1) := by decide +kernel
theorem dX0_pairWith_16 : decode cX0_pairWith 16 = .ok (.iload_n 1, 1) := by decide +kernel
theorem dX0_pairWith_17 : decode cX0_pairWith 17 = .ok (.if_icmp .eq 13, 3) := by decide +kernel
theorem dX0_pairWith_20 : decode cX0_pairWith 20 = .ok (.aload_n 0, 1) := by decide +kernel
theorem dX0_pairWith_21 : decode cX0_pairWith 21 = .ok (.getfield 15, 3) := by decide +kernel
theorem dX0_pairWith_24 : decode cX0_pairWith 24 = .ok (.iload_n 2, 1) := by decide +kernel
theorem dX0_pairWith_25 : decode cX0_pairWith 25 = .ok (.iaload, 1) := by decide +kernel
theorem dX0_pairWith_26 : decode cX0_pairWith 26 = .ok (.iload_n 1, 1) := by decide +kernel
theorem dX0_pairWith_27 : decode cX0_pairWith 27 = .ok (.if_icmp .ne 5, 3) := by decide +kernel
theorem dX0_pairWith_30 : decode cX0_pairWith 30 = .ok (.iload_n 2, 1) := by decide +kernel
theorem dX0_pairWith_31 : decode cX0_pairWith 31 = .ok (.ireturn, 1) := by decide +kernel
theorem dX0_pairWith_32 : decode cX0_pairWith 32 = .ok (.iinc 2 1, 3) := by decide +kernel
theorem dX0_pairWith_35 : decode cX0_pairWith 35 = .ok (.goto (-33), 3) := by decide +kernel
theorem dX0_pairWith_38 : decode cX0_pairWith 38 = .ok (.iconst (-1), 1) := by decide +kernel
theorem dX0_pairWith_39 : decode cX0_pairWith 39 = .ok (.ireturn, 1) := by decide +kernel
theorem dX0_otherEnd_0 : decode cX0_otherEnd 0 = .ok (.aload_n 0, 1) := by decide +kernel
theorem dX0_otherEnd_1 : decode cX0_otherEnd 1 = .ok (.iload_n 1, 1) := by decide +kernel
theorem dX0_otherEnd_2 : decode cX0_otherEnd 2 = .ok (.invokevirtual 68, 3) := by decide +kernel
theorem dX0_otherEnd_5 : decode cX0_otherEnd 5 = .ok (.ifCond .ne 5, 3) := by decide +kernel
theorem dX0_otherEnd_8 : decode cX0_otherEnd 8 = .ok (.iload_n 2, 1) := by decide +kernel
theorem dX0_otherEnd_9 : decode cX0_otherEnd 9 = .ok (.ireturn, 1) := by decide +kernel
theorem dX0_otherEnd_10 : decode cX0_otherEnd 10 = .ok (.aload_n 0, 1) := by decide +kernel
theorem dX0_otherEnd_11 : decode cX0_otherEnd 11 = .ok (.getfield 9, 3) := by decide +kernel
theorem dX0_otherEnd_14 : decode cX0_otherEnd 14 = .ok (.iload_n 1, 1) := by decide +kernel
theorem dX0_otherEnd_15 : decode cX0_otherEnd 15 = .ok (.iaload, 1) := by decide +kernel
theorem dX0_otherEnd_16 : decode cX0_otherEnd 16 = .ok (.iload_n 2, 1) := by decide +kernel
theorem dX0_otherEnd_17 : decode cX0_otherEnd 17 = .ok (.if_icmp .ne 12, 3) := by decide +kernel
theorem dX0_otherEnd_20 : decode cX0_otherEnd 20 = .ok (.aload_n 0, 1) := by decide +kernel
theorem dX0_otherEnd_21 : decode cX0_otherEnd 21 = .ok (.getfield 15, 3) := by decide +kernel
theorem dX0_otherEnd_24 : decode cX0_otherEnd 24 = .ok (.iload_n 1, 1) := by decide +kernel
theorem dX0_otherEnd_25 : decode cX0_otherEnd 25 = .ok (.iaload, 1) := by decide +kernel
theorem dX0_otherEnd_26 : decode cX0_otherEnd 26 = .ok (.goto 9, 3) := by decide +kernel
theorem dX0_otherEnd_29 : decode cX0_otherEnd 29 = .ok (.aload_n 0, 1) := by decide +kernel
theorem dX0_otherEnd_30 : decode cX0_otherEnd 30 = .ok (.getfield 9, 3) := by decide +kernel
theorem dX0_otherEnd_33 : decode cX0_otherEnd 33 = .ok (.iload_n 1, 1) := by decide +kernel
theorem dX0_otherEnd_34 : decode cX0_otherEnd 34 = .ok (.iaload, 1) := by decide +kernel
theorem dX0_otherEnd_35 : decode cX0_otherEnd 35 = .ok (.ireturn, 1) := by decide +kernel
theorem dX0_digitsOf_0 : decode cX0_digitsOf 0 = .ok (.aload_n 0, 1) := by decide +kernel
theorem dX0_digitsOf_1 : decode cX0_digitsOf 1 = .ok (.iload_n 1, 1) := by decide +kernel
theorem dX0_digitsOf_2 : decode cX0_digitsOf 2 = .ok (.invokevirtual 68, 3) := by decide +kernel
theorem dX0_digitsOf_5 : decode cX0_digitsOf 5 = .ok (.ifCond .ne 5, 3) := by decide +kernel
theorem dX0_digitsOf_8 : decode cX0_digitsOf 8 = .ok (.iconst 0, 1) := by decide +kernel
theorem dX0_digitsOf_9 : decode cX0_digitsOf 9 = .ok (.ireturn, 1) := by decide +kernel
theorem dX0_digitsOf_10 : decode cX0_digitsOf 10 = .ok (.iload_n 2, 1) := by decide +kernel
theorem dX0_digitsOf_11 : decode cX0_digitsOf 11 = .ok (.ifCond .ne 13, 3) := by decide +kernel
theorem dX0_digitsOf_14 : decode cX0_digitsOf 14 = .ok (.aload_n 0, 1) := by decide +kernel
theorem dX0_digitsOf_15 : decode cX0_digitsOf 15 = .ok (.getfield 9, 3) := by decide +kernel
theorem dX0_digitsOf_18 : decode cX0_digitsOf 18 = .ok (.iload_n 1, 1) := by decide +kernel
theorem dX0_digitsOf_19 : decode cX0_digitsOf 19 = .ok (.iaload, 1) := by decide +kernel
theorem dX0_digitsOf_20 : decode cX0_digitsOf 20 = .ok (.i2l, 1) := by decide +kernel
theorem dX0_digitsOf_21 : decode cX0_digitsOf 21 = .ok (.goto 10, 3) := by decide +kernel
theorem dX0_digitsOf_24 : decode cX0_digitsOf 24 = .ok (.aload_n 0, 1) := by decide +kernel
theorem dX0_digitsOf_25 : decode cX0_digitsOf 25 = .ok (.getfield 15, 3) := by decide +kernel
theorem dX0_digitsOf_28 : decode cX0_digitsOf 28 = .ok (.iload_n 1, 1) := by decide +kernel
theorem dX0_digitsOf_29 : decode cX0_digitsOf 29 = .ok (.iaload, 1) := by decide +kernel
theorem dX0_digitsOf_30 : decode cX0_digitsOf 30 = .ok (.i2l, 1) := by decide +kernel
theorem dX0_digitsOf_31 : decode cX0_digitsOf 31 = .ok (.ldc2_w 46, 3) := by decide +kernel
theorem dX0_digitsOf_34 : decode cX0_digitsOf 34 = .ok (.iload_n 3, 1) := by decide +kernel
theorem dX0_digitsOf_35 : decode cX0_digitsOf 35 = .ok (.invokestatic 29, 3) := by decide +kernel
theorem dX0_digitsOf_38 : decode cX0_digitsOf 38 = .ok (.i2l, 1) := by decide +kernel
theorem dX0_digitsOf_39 : decode cX0_digitsOf 39 = .ok (.invokestatic 48, 3) := by decide +kernel
theorem dX0_digitsOf_42 : decode cX0_digitsOf 42 = .ok (.invokestatic 48, 3) := by decide +kernel
theorem dX0_digitsOf_45 : decode cX0_digitsOf 45 = .ok (.l2i, 1) := by decide +kernel
theorem dX0_digitsOf_46 : decode cX0_digitsOf 46 = .ok (.ireturn, 1) := by decide +kernel
theorem dX0_holdsTurn_0 : decode cX0_holdsTurn 0 = .ok (.aload_n 2, 1) := by decide +kernel
theorem dX0_holdsTurn_1 : decode cX0_holdsTurn 1 = .ok (.getfield 72, 3) := by decide +kernel
theorem dX0_holdsTurn_4 : decode cX0_holdsTurn 4 = .ok (.i2l, 1) := by decide +kernel
theorem dX0_holdsTurn_5 : decode cX0_holdsTurn 5 = .ok (.ldc2_w 46, 3) := by decide +kernel
theorem dX0_holdsTurn_8 : decode cX0_holdsTurn 8 = .ok (.lmul, 1) := by decide +kernel
theorem dX0_holdsTurn_9 : decode cX0_holdsTurn 9 = .ok (.lstore_n 3, 1) := by decide +kernel
theorem dX0_holdsTurn_10 : decode cX0_holdsTurn 10 = .ok (.aload_n 0, 1) := by decide +kernel
theorem dX0_holdsTurn_11 : decode cX0_holdsTurn 11 = .ok (.iload_n 1, 1) := by decide +kernel
theorem dX0_holdsTurn_12 : decode cX0_holdsTurn 12 = .ok (.invokevirtual 68, 3) := by decide +kernel
theorem dX0_holdsTurn_15 : decode cX0_holdsTurn 15 = .ok (.ifCond .eq 43, 3) := by decide +kernel
theorem dX0_holdsTurn_18 : decode cX0_holdsTurn 18 = .ok (.aload_n 0, 1) := by decide +kernel
theorem dX0_holdsTurn_19 : decode cX0_holdsTurn 19 = .ok (.getfield 9, 3) := by decide +kernel
theorem dX0_holdsTurn_22 : decode cX0_holdsTurn 22 = .ok (.iload_n 1, 1) := by decide +kernel
theorem dX0_holdsTurn_23 : decode cX0_holdsTurn 23 = .ok (.iaload, 1) := by decide +kernel
theorem dX0_holdsTurn_24 : decode cX0_holdsTurn 24 = .ok (.i2l, 1) := by decide +kernel
theorem dX0_holdsTurn_25 : decode cX0_holdsTurn 25 = .ok (.aload_n 2, 1) := by decide +kernel
theorem dX0_holdsTurn_26 : decode cX0_holdsTurn 26 = .ok (.getfield 75, 3) := by decide +kernel
theorem dX0_holdsTurn_29 : decode cX0_holdsTurn 29 = .ok (.i2l, 1) := by decide +kernel
theorem dX0_holdsTurn_30 : decode cX0_holdsTurn 30 = .ok (.lmul, 1) := by decide +kernel
theorem dX0_holdsTurn_31 : decode cX0_holdsTurn 31 = .ok (.lload_n 3, 1) := by decide +kernel
theorem dX0_holdsTurn_32 : decode cX0_holdsTurn 32 = .ok (.lcmp, 1) := by decide +kernel
theorem dX0_holdsTurn_33 : decode cX0_holdsTurn 33 = .ok (.ifCond .gt 25, 3) := by decide +kernel
theorem dX0_holdsTurn_36 : decode cX0_holdsTurn 36 = .ok (.lload_n 3, 1) := by decide +kernel
theorem dX0_holdsTurn_37 : decode cX0_holdsTurn 37 = .ok (.aload_n 0, 1) := by decide +kernel
theorem dX0_holdsTurn_38 : decode cX0_holdsTurn 38 = .ok (.getfield 15, 3) := by decide +kernel
theorem dX0_holdsTurn_41 : decode cX0_holdsTurn 41 = .ok (.iload_n 1, 1) := by decide +kernel
theorem dX0_holdsTurn_42 : decode cX0_holdsTurn 42 = .ok (.iaload, 1) := by decide +kernel
theorem dX0_holdsTurn_43 : decode cX0_holdsTurn 43 = .ok (.i2l, 1) := by decide +kernel
theorem dX0_holdsTurn_44 : decode cX0_holdsTurn 44 = .ok (.aload_n 2, 1) := by decide +kernel
theorem dX0_holdsTurn_45 : decode cX0_holdsTurn 45 = .ok (.getfield 75, 3) := by decide +kernel
theorem dX0_holdsTurn_48 : decode cX0_holdsTurn 48 = .ok (.i2l, 1) := by decide +kernel
theorem dX0_holdsTurn_49 : decode cX0_holdsTurn 49 = .ok (.lmul, 1) := by decide +kernel
theorem dX0_holdsTurn_50 : decode cX0_holdsTurn 50 = .ok (.lcmp, 1) := by decide +kernel
theorem dX0_holdsTurn_51 : decode cX0_holdsTurn 51 = .ok (.ifCond .gt 7, 3) := by decide +kernel
theorem dX0_holdsTurn_54 : decode cX0_holdsTurn 54 = .ok (.iconst 1, 1) := by decide +kernel
theorem dX0_holdsTurn_55 : decode cX0_holdsTurn 55 = .ok (.goto 4, 3) := by decide +kernel
theorem dX0_holdsTurn_58 : decode cX0_holdsTurn 58 = .ok (.iconst 0, 1) := by decide +kernel
theorem dX0_holdsTurn_59 : decode cX0_holdsTurn 59 = .ok (.ireturn, 1) := by decide +kernel
theorem dX0_holdsPair_0 : decode cX0_holdsPair 0 = .ok (.aload_n 0, 1) := by decide +kernel
theorem dX0_holdsPair_1 : decode cX0_holdsPair 1 = .ok (.iload_n 1, 1) := by decide +kernel
theorem dX0_holdsPair_2 : decode cX0_holdsPair 2 = .ok (.invokevirtual 68, 3) := by decide +kernel
theorem dX0_holdsPair_5 : decode cX0_holdsPair 5 = .ok (.ifCond .eq 45, 3) := by decide +kernel
theorem dX0_holdsPair_8 : decode cX0_holdsPair 8 = .ok (.aload_n 0, 1) := by decide +kernel
theorem dX0_holdsPair_9 : decode cX0_holdsPair 9 = .ok (.iload_n 2, 1) := by decide +kernel
theorem dX0_holdsPair_10 : decode cX0_holdsPair 10 = .ok (.invokevirtual 68, 3) := by decide +kernel
theorem dX0_holdsPair_13 : decode cX0_holdsPair 13 = .ok (.ifCond .eq 37, 3) := by decide +kernel
theorem dX0_holdsPair_16 : decode cX0_holdsPair 16 = .ok (.aload_n 0, 1) := by decide +kernel
theorem dX0_holdsPair_17 : decode cX0_holdsPair 17 = .ok (.getfield 9, 3) := by decide +kernel
theorem dX0_holdsPair_20 : decode cX0_holdsPair 20 = .ok (.iload_n 1, 1) := by decide +kernel
theorem dX0_holdsPair_21 : decode cX0_holdsPair 21 = .ok (.iaload, 1) := by decide +kernel
theorem dX0_holdsPair_22 : decode cX0_holdsPair 22 = .ok (.aload_n 0, 1) := by decide +kernel
theorem dX0_holdsPair_23 : decode cX0_holdsPair 23 = .ok (.getfield 9, 3) := by decide +kernel
theorem dX0_holdsPair_26 : decode cX0_holdsPair 26 = .ok (.iload_n 2, 1) := by decide +kernel
theorem dX0_holdsPair_27 : decode cX0_holdsPair 27 = .ok (.iaload, 1) := by decide +kernel
theorem dX0_holdsPair_28 : decode cX0_holdsPair 28 = .ok (.if_icmp .gt 22, 3) := by decide +kernel
theorem dX0_holdsPair_31 : decode cX0_holdsPair 31 = .ok (.aload_n 0, 1) := by decide +kernel
theorem dX0_holdsPair_32 : decode cX0_holdsPair 32 = .ok (.getfield 15, 3) := by decide +kernel
theorem dX0_holdsPair_35 : decode cX0_holdsPair 35 = .ok (.iload_n 2, 1) := by decide +kernel
theorem dX0_holdsPair_36 : decode cX0_holdsPair 36 = .ok (.iaload, 1) := by decide +kernel
theorem dX0_holdsPair_37 : decode cX0_holdsPair 37 = .ok (.aload_n 0, 1) := by decide +kernel
theorem dX0_holdsPair_38 : decode cX0_holdsPair 38 = .ok (.getfield 15, 3) := by decide +kernel
theorem dX0_holdsPair_41 : decode cX0_holdsPair 41 = .ok (.iload_n 1, 1) := by decide +kernel
theorem dX0_holdsPair_42 : decode cX0_holdsPair 42 = .ok (.iaload, 1) := by decide +kernel
theorem dX0_holdsPair_43 : decode cX0_holdsPair 43 = .ok (.if_icmp .gt 7, 3) := by decide +kernel
theorem dX0_holdsPair_46 : decode cX0_holdsPair 46 = .ok (.iconst 1, 1) := by decide +kernel
theorem dX0_holdsPair_47 : decode cX0_holdsPair 47 = .ok (.goto 4, 3) := by decide +kernel
theorem dX0_holdsPair_50 : decode cX0_holdsPair 50 = .ok (.iconst 0, 1) := by decide +kernel
theorem dX0_holdsPair_51 : decode cX0_holdsPair 51 = .ok (.ireturn, 1) := by decide +kernel
theorem dX0_nextHolder_0 : decode cX0_nextHolder 0 = .ok (.aload_n 0, 1) := by decide +kernel
theorem dX0_nextHolder_1 : decode cX0_nextHolder 1 = .ok (.iload_n 3, 1) := by decide +kernel
theorem dX0_nextHolder_2 : decode cX0_nextHolder 2 = .ok (.invokevirtual 68, 3) := by decide +kernel
theorem dX0_nextHolder_5 : decode cX0_nextHolder 5 = .ok (.ifCond .eq 12, 3) := by decide +kernel
theorem dX0_nextHolder_8 : decode cX0_nextHolder 8 = .ok (.aload_n 0, 1) := by decide +kernel
theorem dX0_nextHolder_9 : decode cX0_nextHolder 9 = .ok (.getfield 9, 3) := by decide +kernel
theorem dX0_nextHolder_12 : decode cX0_nextHolder 12 = .ok (.iload_n 3, 1) := by decide +kernel
theorem dX0_nextHolder_13 : decode cX0_nextHolder 13 = .ok (.iaload, 1) := by decide +kernel
theorem dX0_nextHolder_14 : decode cX0_nextHolder 14 = .ok (.goto 4, 3) := by decide +kernel
theorem dX0_nextHolder_17 : decode cX0_nextHolder 17 = .ok (.iconst (-1), 1) := by decide +kernel
theorem dX0_nextHolder_18 : decode cX0_nextHolder 18 = .ok (.istore 4, 2) := by decide +kernel
theorem dX0_nextHolder_20 : decode cX0_nextHolder 20 = .ok (.iconst (-1), 1) := by decide +kernel
theorem dX0_nextHolder_21 : decode cX0_nextHolder 21 = .ok (.istore 5, 2) := by decide +kernel
theorem dX0_nextHolder_23 : decode cX0_nextHolder 23 = .ok (.iconst 0, 1) := by decide +kernel
theorem dX0_nextHolder_24 : decode cX0_nextHolder 24 = .ok (.istore 6, 2) := by decide +kernel
theorem dX0_nextHolder_26 : decode cX0_nextHolder 26 = .ok (.iload 6, 2) := by decide +kernel
theorem dX0_nextHolder_28 : decode cX0_nextHolder 28 = .ok (.aload_n 0, 1) := by decide +kernel
theorem dX0_nextHolder_29 : decode cX0_nextHolder 29 = .ok (.iload_n 2, 1) := by decide +kernel
theorem dX0_nextHolder_30 : decode cX0_nextHolder 30 = .ok (.invokevirtual 65, 3) := by decide +kernel
theorem dX0_nextHolder_33 : decode cX0_nextHolder 33 = .ok (.if_icmp .ge 57, 3) := by decide +kernel
theorem dX0_nextHolder_36 : decode cX0_nextHolder 36 = .ok (.aload_n 0, 1) := by decide +kernel
theorem dX0_nextHolder_37 : decode cX0_nextHolder 37 = .ok (.iload 6, 2) := by decide +kernel
theorem dX0_nextHolder_39 : decode cX0_nextHolder 39 = .ok (.aload_n 1, 1) := by decide +kernel
theorem dX0_nextHolder_40 : decode cX0_nextHolder 40 = .ok (.invokevirtual 78, 3) := by decide +kernel
theorem dX0_nextHolder_43 : decode cX0_nextHolder 43 = .ok (.ifCond .eq 41, 3) := by decide +kernel
theorem dX0_nextHolder_46 : decode cX0_nextHolder 46 = .ok (.aload_n 0, 1) := by decide +kernel
theorem dX0_nextHolder_47 : decode cX0_nextHolder 47 = .ok (.getfield 9, 3) := by decide +kernel
theorem dX0_nextHolder_50 : decode cX0_nextHolder 50 = .ok (.iload 6, 2) := by decide +kernel
theorem dX0_nextHolder_52 : decode cX0_nextHolder 52 = .ok (.iaload, 1) := by decide +kernel
theorem dX0_nextHolder_53 : decode cX0_nextHolder 53 = .ok (.iload 4, 2) := by decide +kernel
theorem dX0_nextHolder_55 : decode cX0_nextHolder 55 = .ok (.if_icmp .le 29, 3) := by decide +kernel
theorem dX0_nextHolder_58 : decode cX0_nextHolder 58 = .ok (.iload 5, 2) := by decide +kernel
theorem dX0_nextHolder_60 : decode cX0_nextHolder 60 = .ok (.ifCond .lt 20, 3) := by decide +kernel
theorem dX0_nextHolder_63 : decode cX0_nextHolder 63 = .ok (.aload_n 0, 1) := by decide +kernel
theorem dX0_nextHolder_64 : decode cX0_nextHolder 64 = .ok (.getfield 9, 3) := by decide +kernel
theorem dX0_nextHolder_67 : decode cX0_nextHolder 67 = .ok (.iload 6, 2) := by decide +kernel
theorem dX0_nextHolder_69 : decode cX0_nextHolder 69 = .ok (.iaload, 1) := by decide +kernel
theorem dX0_nextHolder_70 : decode cX0_nextHolder 70 = .ok (.aload_n 0, 1) := by decide +kernel
theorem dX0_nextHolder_71 : decode cX0_nextHolder 71 = .ok (.getfield 9, 3) := by decide +kernel
theorem dX0_nextHolder_74 : decode cX0_nextHolder 74 = .ok (.iload 5, 2) := by decide +kernel
theorem dX0_nextHolder_76 : decode cX0_nextHolder 76 = .ok (.iaload, 1) := by decide +kernel
theorem dX0_nextHolder_77 : decode cX0_nextHolder 77 = .ok (.if_icmp .ge 7, 3) := by decide +kernel
theorem dX0_nextHolder_80 : decode cX0_nextHolder 80 = .ok (.iload 6, 2) := by decide +kernel
theorem dX0_nextHolder_82 : decode cX0_nextHolder 82 = .ok (.istore 5, 2) := by decide +kernel
theorem dX0_nextHolder_84 : decode cX0_nextHolder 84 = .ok (.iinc 6 1, 3) := by decide +kernel
theorem dX0_nextHolder_87 : decode cX0_nextHolder 87 = .ok (.goto (-61), 3) := by decide +kernel
theorem dX0_nextHolder_90 : decode cX0_nextHolder 90 = .ok (.iload 5, 2) := by decide +kernel
theorem dX0_nextHolder_92 : decode cX0_nextHolder 92 = .ok (.ireturn, 1) := by decide +kernel
theorem dX0_amountBetween_0 : decode cX0_amountBetween 0 = .ok (.iconst 0, 1) := by decide +kernel
theorem dX0_amountBetween_1 : decode cX0_amountBetween 1 = .ok (.istore 4, 2) := by decide +kernel
theorem dX0_amountBetween_3 : decode cX0_amountBetween 3 = .ok (.iconst 0, 1) := by decide +kernel
theorem dX0_amountBetween_4 : decode cX0_amountBetween 4 = .ok (.istore 5, 2) := by decide +kernel
theorem dX0_amountBetween_6 : decode cX0_amountBetween 6 = .ok (.iload 5, 2) := by decide +kernel
theorem dX0_amountBetween_8 : decode cX0_amountBetween 8 = .ok (.aload_n 0, 1) := by decide +kernel
theorem dX0_amountBetween_9 : decode cX0_amountBetween 9 = .ok (.iload_n 3, 1) := by decide +kernel
theorem dX0_amountBetween_10 : decode cX0_amountBetween 10 = .ok (.invokevirtual 65, 3) := by decide +kernel
theorem dX0_amountBetween_13 : decode cX0_amountBetween 13 = .ok (.if_icmp .ge 44, 3) := by decide +kernel
theorem dX0_amountBetween_16 : decode cX0_amountBetween 16 = .ok (.iload 5, 2) := by decide +kernel
theorem dX0_amountBetween_18 : decode cX0_amountBetween 18 = .ok (.iload_n 1, 1) := by decide +kernel
theorem dX0_amountBetween_19 : decode cX0_amountBetween 19 = .ok (.if_icmp .eq 32, 3) := by decide +kernel
theorem dX0_amountBetween_22 : decode cX0_amountBetween 22 = .ok (.iload 5, 2) := by decide +kernel
theorem dX0_amountBetween_24 : decode cX0_amountBetween 24 = .ok (.iload_n 2, 1) := by decide +kernel
theorem dX0_amountBetween_25 : decode cX0_amountBetween 25 = .ok (.if_icmp .eq 26, 3) := by decide +kernel
theorem dX0_amountBetween_28 : decode cX0_amountBetween 28 = .ok (.aload_n 0, 1) := by decide +kernel
theorem dX0_amountBetween_29 : decode cX0_amountBetween 29 = .ok (.iload_n 1, 1) := by decide +kernel
theorem dX0_amountBetween_30 : decode cX0_amountBetween 30 = .ok (.iload 5, 2) := by decide +kernel
theorem dX0_amountBetween_32 : decode cX0_amountBetween 32 = .ok (.invokevirtual 82, 3) := by decide +kernel
theorem dX0_amountBetween_35 : decode cX0_amountBetween 35 = .ok (.ifCond .eq 16, 3) := by decide +kernel
theorem dX0_amountBetween_38 : decode cX0_amountBetween 38 = .ok (.aload_n 0, 1) := by decide +kernel
theorem dX0_amountBetween_39 : decode cX0_amountBetween 39 = .ok (.iload 5, 2) := by decide +kernel
theorem dX0_amountBetween_41 : decode cX0_amountBetween 41 = .ok (.iload_n 2, 1) := by decide +kernel
theorem dX0_amountBetween_42 : decode cX0_amountBetween 42 = .ok (.invokevirtual 82, 3) := by decide +kernel
theorem dX0_amountBetween_45 : decode cX0_amountBetween 45 = .ok (.ifCond .eq 6, 3) := by decide +kernel
theorem dX0_amountBetween_48 : decode cX0_amountBetween 48 = .ok (.iinc 4 1, 3) := by decide +kernel
theorem dX0_amountBetween_51 : decode cX0_amountBetween 51 = .ok (.iinc 5 1, 3) := by decide +kernel
theorem dX0_amountBetween_54 : decode cX0_amountBetween 54 = .ok (.goto (-48), 3) := by decide +kernel
theorem dX0_amountBetween_57 : decode cX0_amountBetween 57 = .ok (.iload 4, 2) := by decide +kernel
theorem dX0_amountBetween_59 : decode cX0_amountBetween 59 = .ok (.ireturn, 1) := by decide +kernel
theorem dX0_amountInside_0 : decode cX0_amountInside 0 = .ok (.aload_n 0, 1) := by decide +kernel
theorem dX0_amountInside_1 : decode cX0_amountInside 1 = .ok (.iload_n 1, 1) := by decide +kernel
theorem dX0_amountInside_2 : decode cX0_amountInside 2 = .ok (.invokevirtual 68, 3) := by decide +kernel
theorem dX0_amountInside_5 : decode cX0_amountInside 5 = .ok (.ifCond .ne 5, 3) := by decide +kernel
theorem dX0_amountInside_8 : decode cX0_amountInside 8 = .ok (.iconst 0, 1) := by decide +kernel
theorem dX0_amountInside_9 : decode cX0_amountInside 9 = .ok (.ireturn, 1) := by decide +kernel
theorem dX0_amountInside_10 : decode cX0_amountInside 10 = .ok (.aload_n 0, 1) := by decide +kernel
theorem dX0_amountInside_11 : decode cX0_amountInside 11 = .ok (.getfield 15, 3) := by decide +kernel
theorem dX0_amountInside_14 : decode cX0_amountInside 14 = .ok (.iload_n 1, 1) := by decide +kernel
theorem dX0_amountInside_15 : decode cX0_amountInside 15 = .ok (.iaload, 1) := by decide +kernel
theorem dX0_amountInside_16 : decode cX0_amountInside 16 = .ok (.i2l, 1) := by decide +kernel
theorem dX0_amountInside_17 : decode cX0_amountInside 17 = .ok (.iload_n 2, 1) := by decide +kernel
theorem dX0_amountInside_18 : decode cX0_amountInside 18 = .ok (.i2l, 1) := by decide +kernel
theorem dX0_amountInside_19 : decode cX0_amountInside 19 = .ok (.lmul, 1) := by decide +kernel
theorem dX0_amountInside_20 : decode cX0_amountInside 20 = .ok (.ldc2_w 46, 3) := by decide +kernel
theorem dX0_amountInside_23 : decode cX0_amountInside 23 = .ok (.invokestatic 48, 3) := by decide +kernel
theorem dX0_amountInside_26 : decode cX0_amountInside 26 = .ok (.lstore_n 3, 1) := by decide +kernel
theorem dX0_amountInside_27 : decode cX0_amountInside 27 = .ok (.aload_n 0, 1) := by decide +kernel
theorem dX0_amountInside_28 : decode cX0_amountInside 28 = .ok (.getfield 9, 3) := by decide +kernel
theorem dX0_amountInside_31 : decode cX0_amountInside 31 = .ok (.iload_n 1, 1) := by decide +kernel
theorem dX0_amountInside_32 : decode cX0_amountInside 32 = .ok (.iaload, 1) := by decide +kernel
theorem dX0_amountInside_33 : decode cX0_amountInside 33 = .ok (.i2l, 1) := by decide +kernel
theorem dX0_amountInside_34 : decode cX0_amountInside 34 = .ok (.iload_n 2, 1) := by decide +kernel
theorem dX0_amountInside_35 : decode cX0_amountInside 35 = .ok (.i2l, 1) := by decide +kernel
theorem dX0_amountInside_36 : decode cX0_amountInside 36 = .ok (.lmul, 1) := by decide +kernel
theorem dX0_amountInside_37 : decode cX0_amountInside 37 = .ok (.ldc2_w 46, 3) := by decide +kernel
theorem dX0_amountInside_40 : decode cX0_amountInside 40 = .ok (.ladd, 1) := by decide +kernel
theorem dX0_amountInside_41 : decode cX0_amountInside 41 = .ok (.lconst 1, 1) := by decide +kernel
theorem dX0_amountInside_42 : decode cX0_amountInside 42 = .ok (.lsub, 1) := by decide +kernel
theorem dX0_amountInside_43 : decode cX0_amountInside 43 = .ok (.ldc2_w 46, 3) := by decide +kernel
theorem dX0_amountInside_46 : decode cX0_amountInside 46 = .ok (.invokestatic 48, 3) := by decide +kernel
theorem dX0_amountInside_49 : decode cX0_amountInside 49 = .ok (.lstore 5, 2) := by decide +kernel
theorem dX0_amountInside_51 : decode cX0_amountInside 51 = .ok (.lload_n 3, 1) := by decide +kernel
theorem dX0_amountInside_52 : decode cX0_amountInside 52 = .ok (.lload 5, 2) := by decide +kernel
theorem dX0_amountInside_54 : decode cX0_amountInside 54 = .ok (.lsub, 1) := by decide +kernel
theorem dX0_amountInside_55 : decode cX0_amountInside 55 = .ok (.lconst 1, 1) := by decide +kernel
theorem dX0_amountInside_56 : decode cX0_amountInside 56 = .ok (.ladd, 1) := by decide +kernel
theorem dX0_amountInside_57 : decode cX0_amountInside 57 = .ok (.l2i, 1) := by decide +kernel
theorem dX0_amountInside_58 : decode cX0_amountInside 58 = .ok (.ireturn, 1) := by decide +kernel
