theorem dX0_clear_0 : decode cX0_clear 0 = .ok (.aload_n 0, 1) := by decide +kernel
theorem dX0_clear_1 : decode cX0_clear 1 = .ok (.iconst 0, 1) := by decide +kernel
theorem dX0_clear_2 : decode cX0_clear 2 = .ok (.putfield 18, 3) := by decide +kernel
theorem dX0_clear_5 : decode cX0_clear 5 = .ok (.return_, 1) := by decide +kernel
theorem dX0_keep_0 : decode cX0_keep 0 = .ok (.aload_n 0, 1) := by decide +kernel
theorem dX0_keep_1 : decode cX0_keep 1 = .ok (.getfield 11, 3) := by decide +kernel
theorem dX0_keep_4 : decode cX0_keep 4 = .ok (.aload_n 0, 1) := by decide +kernel
theorem dX0_keep_5 : decode cX0_keep 5 = .ok (.getfield 22, 3) := by decide +kernel
theorem dX0_keep_8 : decode cX0_keep 8 = .ok (.aaload, 1) := by decide +kernel
theorem dX0_keep_9 : decode cX0_keep 9 = .ok (.aload_n 1, 1) := by decide +kernel
theorem dX0_keep_10 : decode cX0_keep 10 = .ok (.invokevirtual 25, 3) := by decide +kernel
theorem dX0_keep_13 : decode cX0_keep 13 = .ok (.aload_n 0, 1) := by decide +kernel
theorem dX0_keep_14 : decode cX0_keep 14 = .ok (.aload_n 0, 1) := by decide +kernel
theorem dX0_keep_15 : decode cX0_keep 15 = .ok (.getfield 22, 3) := by decide +kernel
theorem dX0_keep_18 : decode cX0_keep 18 = .ok (.iconst 1, 1) := by decide +kernel
theorem dX0_keep_19 : decode cX0_keep 19 = .ok (.iadd, 1) := by decide +kernel
theorem dX0_keep_20 : decode cX0_keep 20 = .ok (.iconst 4, 1) := by decide +kernel
theorem dX0_keep_21 : decode cX0_keep 21 = .ok (.irem, 1) := by decide +kernel
theorem dX0_keep_22 : decode cX0_keep 22 = .ok (.putfield 22, 3) := by decide +kernel
theorem dX0_keep_25 : decode cX0_keep 25 = .ok (.aload_n 0, 1) := by decide +kernel
theorem dX0_keep_26 : decode cX0_keep 26 = .ok (.aload_n 0, 1) := by decide +kernel
theorem dX0_keep_27 : decode cX0_keep 27 = .ok (.getfield 18, 3) := by decide +kernel
theorem dX0_keep_30 : decode cX0_keep 30 = .ok (.iconst 1, 1) := by decide +kernel
theorem dX0_keep_31 : decode cX0_keep 31 = .ok (.iadd, 1) := by decide +kernel
theorem dX0_keep_32 : decode cX0_keep 32 = .ok (.iconst 4, 1) := by decide +kernel
theorem dX0_keep_33 : decode cX0_keep 33 = .ok (.invokestatic 29, 3) := by decide +kernel
theorem dX0_keep_36 : decode cX0_keep 36 = .ok (.putfield 18, 3) := by decide +kernel
theorem dX0_keep_39 : decode cX0_keep 39 = .ok (.return_, 1) := by decide +kernel
theorem dX0_giveBack_0 : decode cX0_giveBack 0 = .ok (.aload_n 0, 1) := by decide +kernel
theorem dX0_giveBack_1 : decode cX0_giveBack 1 = .ok (.getfield 18, 3) := by decide +kernel
theorem dX0_giveBack_4 : decode cX0_giveBack 4 = .ok (.ifCond .le 40, 3) := by decide +kernel
theorem dX0_giveBack_7 : decode cX0_giveBack 7 = .ok (.aload_n 0, 1) := by decide +kernel
theorem dX0_giveBack_8 : decode cX0_giveBack 8 = .ok (.dup, 1) := by decide +kernel
theorem dX0_giveBack_9 : decode cX0_giveBack 9 = .ok (.getfield 18, 3) := by decide +kernel
theorem dX0_giveBack_12 : decode cX0_giveBack 12 = .ok (.iconst 1, 1) := by decide +kernel
theorem dX0_giveBack_13 : decode cX0_giveBack 13 = .ok (.isub, 1) := by decide +kernel
theorem dX0_giveBack_14 : decode cX0_giveBack 14 = .ok (.putfield 18, 3) := by decide +kernel
theorem dX0_giveBack_17 : decode cX0_giveBack 17 = .ok (.aload_n 0, 1) := by decide +kernel
theorem dX0_giveBack_18 : decode cX0_giveBack 18 = .ok (.aload_n 0, 1) := by decide +kernel
theorem dX0_giveBack_19 : decode cX0_giveBack 19 = .ok (.getfield 22, 3) := by decide +kernel
theorem dX0_giveBack_22 : decode cX0_giveBack 22 = .ok (.iconst 4, 1) := by decide +kernel
theorem dX0_giveBack_23 : decode cX0_giveBack 23 = .ok (.iadd, 1) := by decide +kernel
theorem dX0_giveBack_24 : decode cX0_giveBack 24 = .ok (.iconst 1, 1) := by decide +kernel
theorem dX0_giveBack_25 : decode cX0_giveBack 25 = .ok (.isub, 1) := by decide +kernel
theorem dX0_giveBack_26 : decode cX0_giveBack 26 = .ok (.iconst 4, 1) := by decide +kernel
theorem dX0_giveBack_27 : decode cX0_giveBack 27 = .ok (.irem, 1) := by decide +kernel
theorem dX0_giveBack_28 : decode cX0_giveBack 28 = .ok (.putfield 22, 3) := by decide +kernel
theorem dX0_giveBack_31 : decode cX0_giveBack 31 = .ok (.aload_n 1, 1) := by decide +kernel
theorem dX0_giveBack_32 : decode cX0_giveBack 32 = .ok (.aload_n 0, 1) := by decide +kernel
theorem dX0_giveBack_33 : decode cX0_giveBack 33 = .ok (.getfield 11, 3) := by decide +kernel
theorem dX0_giveBack_36 : decode cX0_giveBack 36 = .ok (.aload_n 0, 1) := by decide +kernel
theorem dX0_giveBack_37 : decode cX0_giveBack 37 = .ok (.getfield 22, 3) := by decide +kernel
theorem dX0_giveBack_40 : decode cX0_giveBack 40 = .ok (.aaload, 1) := by decide +kernel
theorem dX0_giveBack_41 : decode cX0_giveBack 41 = .ok (.invokevirtual 25, 3) := by decide +kernel
theorem dX0_giveBack_44 : decode cX0_giveBack 44 = .ok (.return_, 1) := by decide +kernel
theorem dX1_move_0 : decode cX1_move 0 = .ok (.aload_n 0, 1) := by decide +kernel
theorem dX1_move_1 : decode cX1_move 1 = .ok (.getfield 18, 3) := by decide +kernel
theorem dX1_move_4 : decode cX1_move 4 = .ok (.aload_n 1, 1) := by decide +kernel
theorem dX1_move_5 : decode cX1_move 5 = .ok (.invokevirtual 28, 3) := by decide +kernel
theorem dX1_move_8 : decode cX1_move 8 = .ok (.aload_n 0, 1) := by decide +kernel
theorem dX1_move_9 : decode cX1_move 9 = .ok (.getfield 18, 3) := by decide +kernel
theorem dX1_move_12 : decode cX1_move 12 = .ok (.aload_n 1, 1) := by decide +kernel
theorem dX1_move_13 : decode cX1_move 13 = .ok (.getfield 32, 3) := by decide +kernel
theorem dX1_move_16 : decode cX1_move 16 = .ok (.iload_n 2, 1) := by decide +kernel
theorem dX1_move_17 : decode cX1_move 17 = .ok (.invokevirtual 38, 3) := by decide +kernel
theorem dX1_move_20 : decode cX1_move 20 = .ok (.aload_n 1, 1) := by decide +kernel
theorem dX1_move_21 : decode cX1_move 21 = .ok (.getfield 42, 3) := by decide +kernel
theorem dX1_move_24 : decode cX1_move 24 = .ok (.dup, 1) := by decide +kernel
theorem dX1_move_25 : decode cX1_move 25 = .ok (.getfield 46, 3) := by decide +kernel
theorem dX1_move_28 : decode cX1_move 28 = .ok (.iconst 1, 1) := by decide +kernel
theorem dX1_move_29 : decode cX1_move 29 = .ok (.iadd, 1) := by decide +kernel
theorem dX1_move_30 : decode cX1_move 30 = .ok (.putfield 46, 3) := by decide +kernel
theorem dX1_move_33 : decode cX1_move 33 = .ok (.iconst 0, 1) := by decide +kernel
theorem dX1_move_34 : decode cX1_move 34 = .ok (.istore 4, 2) := by decide +kernel
theorem dX1_move_36 : decode cX1_move 36 = .ok (.iload 4, 2) := by decide +kernel
theorem dX1_move_38 : decode cX1_move 38 = .ok (.aload_n 1, 1) := by decide +kernel
theorem dX1_move_39 : decode cX1_move 39 = .ok (.getfield 32, 3) := by decide +kernel
theorem dX1_move_42 : decode cX1_move 42 = .ok (.getfield 52, 3) := by decide +kernel
theorem dX1_move_45 : decode cX1_move 45 = .ok (.if_icmp .ge 16, 3) := by decide +kernel
theorem dX1_move_48 : decode cX1_move 48 = .ok (.aload_n 0, 1) := by decide +kernel
theorem dX1_move_49 : decode cX1_move 49 = .ok (.aload_n 1, 1) := by decide +kernel
theorem dX1_move_50 : decode cX1_move 50 = .ok (.iload 4, 2) := by decide +kernel
theorem dX1_move_52 : decode cX1_move 52 = .ok (.invokevirtual 57, 3) := by decide +kernel
theorem dX1_move_55 : decode cX1_move 55 = .ok (.iinc 4 1, 3) := by decide +kernel
theorem dX1_move_58 : decode cX1_move 58 = .ok (.goto (-22), 3) := by decide +kernel
theorem dX1_move_61 : decode cX1_move 61 = .ok (.iconst 0, 1) := by decide +kernel
theorem dX1_move_62 : decode cX1_move 62 = .ok (.istore 4, 2) := by decide +kernel
theorem dX1_move_64 : decode cX1_move 64 = .ok (.iload 4, 2) := by decide +kernel
theorem dX1_move_66 : decode cX1_move 66 = .ok (.aload_n 1, 1) := by decide +kernel
theorem dX1_move_67 : decode cX1_move 67 = .ok (.getfield 32, 3) := by decide +kernel
theorem dX1_move_70 : decode cX1_move 70 = .ok (.getfield 52, 3) := by decide +kernel
theorem dX1_move_73 : decode cX1_move 73 = .ok (.if_icmp .ge 16, 3) := by decide +kernel
theorem dX1_move_76 : decode cX1_move 76 = .ok (.aload_n 0, 1) := by decide +kernel
theorem dX1_move_77 : decode cX1_move 77 = .ok (.aload_n 1, 1) := by decide +kernel
theorem dX1_move_78 : decode cX1_move 78 = .ok (.iload 4, 2) := by decide +kernel
theorem dX1_move_80 : decode cX1_move 80 = .ok (.invokevirtual 61, 3) := by decide +kernel
theorem dX1_move_83 : decode cX1_move 83 = .ok (.iinc 4 1, 3) := by decide +kernel
theorem dX1_move_86 : decode cX1_move 86 = .ok (.goto (-22), 3) := by decide +kernel
theorem dX1_move_89 : decode cX1_move 89 = .ok (.aload_n 1, 1) := by decide +kernel
theorem dX1_move_90 : decode cX1_move 90 = .ok (.aload_n 3, 1) := by decide +kernel
theorem dX1_move_91 : decode cX1_move 91 = .ok (.invokestatic 64, 3) := by decide +kernel
theorem dX1_move_94 : decode cX1_move 94 = .ok (.return_, 1) := by decide +kernel
theorem dX1_drawFeeds_0 : decode cX1_drawFeeds 0 = .ok (.iconst 0, 1) := by decide +kernel
theorem dX1_drawFeeds_1 : decode cX1_drawFeeds 1 = .ok (.istore 4, 2) := by decide +kernel
theorem dX1_drawFeeds_3 : decode cX1_drawFeeds 3 = .ok (.iload 4, 2) := by decide +kernel
theorem dX1_drawFeeds_5 : decode cX1_drawFeeds 5 = .ok (.aload_n 1, 1) := by decide +kernel
theorem dX1_drawFeeds_6 : decode cX1_drawFeeds 6 = .ok (.getfield 68, 3) := by decide +kernel
theorem dX1_drawFeeds_9 : decode cX1_drawFeeds 9 = .ok (.if_icmp .ge 99, 3) := by decide +kernel
theorem dX1_drawFeeds_12 : decode cX1_drawFeeds 12 = .ok (.ldc2_w 71, 3) := by decide +kernel
theorem dX1_drawFeeds_15 : decode cX1_drawFeeds 15 = .ok (.iload_n 2, 1) := by decide +kernel
theorem dX1_drawFeeds_16 : decode cX1_drawFeeds 16 = .ok (.i2l, 1) := by decide +kernel
theorem dX1_drawFeeds_17 : decode cX1_drawFeeds 17 = .ok (.lmul, 1) := by decide +kernel
theorem dX1_drawFeeds_18 : decode cX1_drawFeeds 18 = .ok (.ldc2_w 73, 3) := by decide +kernel
theorem dX1_drawFeeds_21 : decode cX1_drawFeeds 21 = .ok (.iload_n 3, 1) := by decide +kernel
theorem dX1_drawFeeds_22 : decode cX1_drawFeeds 22 = .ok (.i2l, 1) := by decide +kernel
theorem dX1_drawFeeds_23 : decode cX1_drawFeeds 23 = .ok (.lmul, 1) := by decide +kernel
theorem dX1_drawFeeds_24 : decode cX1_drawFeeds 24 = .ok (.ladd, 1) := by decide +kernel
theorem dX1_drawFeeds_25 : decode cX1_drawFeeds 25 = .ok (.ldc2_w 75, 3) := by decide +kernel
theorem dX1_drawFeeds_28 : decode cX1_drawFeeds 28 = .ok (.iload 4, 2) := by decide +kernel
theorem dX1_drawFeeds_30 : decode cX1_drawFeeds 30 = .ok (.i2l, 1) := by decide +kernel
theorem dX1_drawFeeds_31 : decode cX1_drawFeeds 31 = .ok (.lmul, 1) := by decide +kernel
theorem dX1_drawFeeds_32 : decode cX1_drawFeeds 32 = .ok (.ladd, 1) := by decide +kernel
theorem dX1_drawFeeds_33 : decode cX1_drawFeeds 33 = .ok (.lconst 1, 1) := by decide +kernel
theorem dX1_drawFeeds_34 : decode cX1_drawFeeds 34 = .ok (.ladd, 1) := by decide +kernel
theorem dX1_drawFeeds_35 : decode cX1_drawFeeds 35 = .ok (.lstore 5, 2) := by decide +kernel
theorem dX1_drawFeeds_37 : decode cX1_drawFeeds 37 = .ok (.lload 5, 2) := by decide +kernel
theorem dX1_drawFeeds_39 : decode cX1_drawFeeds 39 = .ok (.lload 5, 2) := by decide +kernel
theorem dX1_drawFeeds_41 : decode cX1_drawFeeds 41 = .ok (.lmul, 1) := by decide +kernel
theorem dX1_drawFeeds_42 : decode cX1_drawFeeds 42 = .ok (.ldc2_w 77, 3) := by decide +kernel
theorem dX1_drawFeeds_45 : decode cX1_drawFeeds 45 = .ok (.lrem, 1) := by decide +kernel
theorem dX1_drawFeeds_46 : decode cX1_drawFeeds 46 = .ok (.l2i, 1) := by decide +kernel
theorem dX1_drawFeeds_47 : decode cX1_drawFeeds 47 = .ok (.istore 7, 2) := by decide +kernel
theorem dX1_drawFeeds_49 : decode cX1_drawFeeds 49 = .ok (.iconst 0, 1) := by decide +kernel
theorem dX1_drawFeeds_50 : decode cX1_drawFeeds 50 = .ok (.istore 8, 2) := by decide +kernel
theorem dX1_drawFeeds_52 : decode cX1_drawFeeds 52 = .ok (.iload 8, 2) := by decide +kernel
theorem dX1_drawFeeds_54 : decode cX1_drawFeeds 54 = .ok (.aload_n 1, 1) := by decide +kernel
theorem dX1_drawFeeds_55 : decode cX1_drawFeeds 55 = .ok (.getfield 79, 3) := by decide +kernel
theorem dX1_drawFeeds_58 : decode cX1_drawFeeds 58 = .ok (.if_icmp .ge 44, 3) := by decide +kernel
theorem dX1_drawFeeds_61 : decode cX1_drawFeeds 61 = .ok (.iload 4, 2) := by decide +kernel
theorem dX1_drawFeeds_63 : decode cX1_drawFeeds 63 = .ok (.iload 8, 2) := by decide +kernel
theorem dX1_drawFeeds_65 : decode cX1_drawFeeds 65 = .ok (.invokestatic 82, 3) := by decide +kernel
theorem dX1_drawFeeds_68 : decode cX1_drawFeeds 68 = .ok (.istore 9, 2) := by decide +kernel
theorem dX1_drawFeeds_70 : decode cX1_drawFeeds 70 = .ok (.aload_n 0, 1) := by decide +kernel
theorem dX1_drawFeeds_71 : decode cX1_drawFeeds 71 = .ok (.getfield 9, 3) := by decide +kernel
theorem dX1_drawFeeds_74 : decode cX1_drawFeeds 74 = .ok (.iload 9, 2) := by decide +kernel
theorem dX1_drawFeeds_76 : decode cX1_drawFeeds 76 = .ok (.iload 7, 2) := by decide +kernel
theorem dX1_drawFeeds_78 : decode cX1_drawFeeds 78 = .ok (.iconst 3, 1) := by decide +kernel
theorem dX1_drawFeeds_79 : decode cX1_drawFeeds 79 = .ok (.iload 8, 2) := by decide +kernel
theorem dX1_drawFeeds_81 : decode cX1_drawFeeds 81 = .ok (.imul, 1) := by decide +kernel
theorem dX1_drawFeeds_82 : decode cX1_drawFeeds 82 = .ok (.ishr, 1) := by decide +kernel
theorem dX1_drawFeeds_83 : decode cX1_drawFeeds 83 = .ok (.iconst 2, 1) := by decide +kernel
theorem dX1_drawFeeds_84 : decode cX1_drawFeeds 84 = .ok (.aload_n 1, 1) := by decide +kernel
theorem dX1_drawFeeds_85 : decode cX1_drawFeeds 85 = .ok (.getfield 86, 3) := by decide +kernel
theorem dX1_drawFeeds_88 : decode cX1_drawFeeds 88 = .ok (.iload 9, 2) := by decide +kernel
theorem dX1_drawFeeds_90 : decode cX1_drawFeeds 90 = .ok (.iaload, 1) := by decide +kernel
theorem dX1_drawFeeds_91 : decode cX1_drawFeeds 91 = .ok (.imul, 1) := by decide +kernel
theorem dX1_drawFeeds_92 : decode cX1_drawFeeds 92 = .ok (.iconst 1, 1) := by decide +kernel
theorem dX1_drawFeeds_93 : decode cX1_drawFeeds 93 = .ok (.iadd, 1) := by decide +kernel
theorem dX1_drawFeeds_94 : decode cX1_drawFeeds 94 = .ok (.irem, 1) := by decide +kernel
theorem dX1_drawFeeds_95 : decode cX1_drawFeeds 95 = .ok (.iastore, 1) := by decide +kernel
theorem dX1_drawFeeds_96 : decode cX1_drawFeeds 96 = .ok (.iinc 8 1, 3) := by decide +kernel
theorem dX1_drawFeeds_99 : decode cX1_drawFeeds 99 = .ok (.goto (-47), 3) := by decide +kernel
theorem dX1_drawFeeds_102 : decode cX1_drawFeeds 102 = .ok (.iinc 4 1, 3) := by decide +kernel
theorem dX1_drawFeeds_105 : decode cX1_drawFeeds 105 = .ok (.goto (-102), 3) := by decide +kernel
theorem dX1_drawFeeds_108 : decode cX1_drawFeeds 108 = .ok (.return_, 1) := by decide +kernel
theorem dX1_takeOver_0 : decode cX1_takeOver 0 = .ok (.aload_n 0, 1) := by decide +kernel
theorem dX1_takeOver_1 : decode cX1_takeOver 1 = .ok (.getfield 22, 3) := by decide +kernel
theorem dX1_takeOver_4 : decode cX1_takeOver 4 = .ok (.iload_n 2, 1) := by decide +kernel
theorem dX1_takeOver_5 : decode cX1_takeOver 5 = .ok (.iconst 0, 1) := by decide +kernel
theorem dX1_takeOver_6 : decode cX1_takeOver 6 = .ok (.iastore, 1) := by decide +kernel
theorem dX1_takeOver_7 : decode cX1_takeOver 7 = .ok (.aload_n 0, 1) := by decide +kernel
theorem dX1_takeOver_8 : decode cX1_takeOver 8 = .ok (.getfield 18, 3) := by decide +kernel
theorem dX1_takeOver_11 : decode cX1_takeOver 11 = .ok (.getfield 89, 3) := by decide +kernel
theorem dX1_takeOver_14 : decode cX1_takeOver 14 = .ok (.iload_n 2, 1) := by decide +kernel
theorem dX1_takeOver_15 : decode cX1_takeOver 15 = .ok (.ishr, 1) := by decide +kernel
theorem dX1_takeOver_16 : decode cX1_takeOver 16 = .ok (.iconst 1, 1) := by decide +kernel
theorem dX1_takeOver_17 : decode cX1_takeOver 17 = .ok (.iand, 1) := by decide +kernel
theorem dX1_takeOver_18 : decode cX1_takeOver 18 = .ok (.ifCond .ne 4, 3) := by decide +kernel
theorem dX1_takeOver_21 : decode cX1_takeOver 21 = .ok (.return_, 1) := by decide +kernel
theorem dX1_takeOver_22 : decode cX1_takeOver 22 = .ok (.aload_n 1, 1) := by decide +kernel
theorem dX1_takeOver_23 : decode cX1_takeOver 23 = .ok (.getfield 32, 3) := by decide +kernel
theorem dX1_takeOver_26 : decode cX1_takeOver 26 = .ok (.getfield 92, 3) := by decide +kernel
theorem dX1_takeOver_29 : decode cX1_takeOver 29 = .ok (.iload_n 2, 1) := by decide +kernel
theorem dX1_takeOver_30 : decode cX1_takeOver 30 = .ok (.iaload, 1) := by decide +kernel
theorem dX1_takeOver_31 : decode cX1_takeOver 31 = .ok (.aload_n 0, 1) := by decide +kernel
theorem dX1_takeOver_32 : decode cX1_takeOver 32 = .ok (.getfield 18, 3) := by decide +kernel
theorem dX1_takeOver_35 : decode cX1_takeOver 35 = .ok (.getfield 95, 3) := by decide +kernel
theorem dX1_takeOver_38 : decode cX1_takeOver 38 = .ok (.iload_n 2, 1) := by decide +kernel
theorem dX1_takeOver_39 : decode cX1_takeOver 39 = .ok (.iaload, 1) := by decide +kernel
theorem dX1_takeOver_40 : decode cX1_takeOver 40 = .ok (.invokestatic 82, 3) := by decide +kernel
theorem dX1_takeOver_43 : decode cX1_takeOver 43 = .ok (.istore_n 3, 1) := by decide +kernel
theorem dX1_takeOver_44 : decode cX1_takeOver 44 = .ok (.aload_n 0, 1) := by decide +kernel
theorem dX1_takeOver_45 : decode cX1_takeOver 45 = .ok (.getfield 22, 3) := by decide +kernel
theorem dX1_takeOver_48 : decode cX1_takeOver 48 = .ok (.iload_n 2, 1) := by decide +kernel
theorem dX1_takeOver_49 : decode cX1_takeOver 49 = .ok (.aload_n 1, 1) := by decide +kernel
theorem dX1_takeOver_50 : decode cX1_takeOver 50 = .ok (.getfield 32, 3) := by decide +kernel
theorem dX1_takeOver_53 : decode cX1_takeOver 53 = .ok (.getfield 98, 3) := by decide +kernel
theorem dX1_takeOver_56 : decode cX1_takeOver 56 = .ok (.iload_n 2, 1) := by decide +kernel
theorem dX1_takeOver_57 : decode cX1_takeOver 57 = .ok (.iaload, 1) := by decide +kernel
theorem dX1_takeOver_58 : decode cX1_takeOver 58 = .ok (.aload_n 1, 1) := by decide +kernel
theorem dX1_takeOver_59 : decode cX1_takeOver 59 = .ok (.getfield 42, 3) := by decide +kernel
theorem dX1_takeOver_62 : decode cX1_takeOver 62 = .ok (.getfield 101, 3) := by decide +kernel
theorem dX1_takeOver_65 : decode cX1_takeOver 65 = .ok (.iload_n 3, 1) := by decide +kernel
theorem dX1_takeOver_66 : decode cX1_takeOver 66 = .ok (.iaload, 1) := by decide +kernel
theorem dX1_takeOver_67 : decode cX1_takeOver 67 = .ok (.invokestatic 104, 3) := by decide +kernel
theorem dX1_takeOver_70 : decode cX1_takeOver 70 = .ok (.iastore, 1) := by decide +kernel
theorem dX1_takeOver_71 : decode cX1_takeOver 71 = .ok (.iconst 0, 1) := by decide +kernel
theorem dX1_takeOver_72 : decode cX1_takeOver 72 = .ok (.istore 4, 2) := by decide +kernel
theorem dX1_takeOver_74 : decode cX1_takeOver 74 = .ok (.iload 4, 2) := by decide +kernel
theorem dX1_takeOver_76 : decode cX1_takeOver 76 = .ok (.aload_n 0, 1) := by decide +kernel
theorem dX1_takeOver_77 : decode cX1_takeOver 77 = .ok (.getfield 22, 3) := by decide +kernel
theorem dX1_takeOver_80 : decode cX1_takeOver 80 = .ok (.iload_n 2, 1) := by decide +kernel
theorem dX1_takeOver_81 : decode cX1_takeOver 81 = .ok (.iaload, 1) := by decide +kernel
theorem dX1_takeOver_82 : decode cX1_takeOver 82 = .ok (.if_icmp .ge 36, 3) := by decide +kernel
theorem dX1_takeOver_85 : decode cX1_takeOver 85 = .ok (.aload_n 0, 1) := by decide +kernel
theorem dX1_takeOver_86 : decode cX1_takeOver 86 = .ok (.getfield 25, 3) := by decide +kernel
theorem dX1_takeOver_89 : decode cX1_takeOver 89 = .ok (.iload_n 2, 1) := by decide +kernel
theorem dX1_takeOver_90 : decode cX1_takeOver 90 = .ok (.bipush 9, 2) := by decide +kernel
theorem dX1_takeOver_92 : decode cX1_takeOver 92 = .ok (.imul, 1) := by decide +kernel
theorem dX1_takeOver_93 : decode cX1_takeOver 93 = .ok (.iload 4, 2) := by decide +kernel
theorem dX1_takeOver_95 : decode cX1_takeOver 95 = .ok (.iadd, 1) := by decide +kernel
theorem dX1_takeOver_96 : decode cX1_takeOver 96 = .ok (.aload_n 1, 1) := by decide +kernel
theorem dX1_takeOver_97 : decode cX1_takeOver 97 = .ok (.getfield 42, 3) := by decide +kernel
theorem dX1_takeOver_100 : decode cX1_takeOver 100 = .ok (.iload_n 3, 1) := by decide +kernel
theorem dX1_takeOver_101 : decode cX1_takeOver 101 = .ok (.aload_n 1, 1) := by decide +kernel
theorem dX1_takeOver_102 : decode cX1_takeOver 102 = .ok (.getfield 32, 3) := by decide +kernel
theorem dX1_takeOver_105 : decode cX1_takeOver 105 = .ok (.getfield 109, 3) := by decide +kernel
theorem dX1_takeOver_108 : decode cX1_takeOver 108 = .ok (.invokevirtual 112, 3) := by decide +kernel
theorem dX1_takeOver_111 : decode cX1_takeOver 111 = .ok (.iastore, 1) := by decide +kernel
theorem dX1_takeOver_112 : decode cX1_takeOver 112 = .ok (.iinc 4 1, 3) := by decide +kernel
theorem dX1_takeOver_115 : decode cX1_takeOver 115 = .ok (.goto (-41), 3) := by decide +kernel
theorem dX1_takeOver_118 : decode cX1_takeOver 118 = .ok (.return_, 1) := by decide +kernel
theorem dX1_bring_0 : decode cX1_bring 0 = .ok (.aload_n 0, 1) := by decide +kernel
theorem dX1_bring_1 : decode cX1_bring 1 = .ok (.getfield 22, 3) := by decide +kernel
theorem dX1_bring_4 : decode cX1_bring 4 = .ok (.iload_n 2, 1) := by decide +kernel
theorem dX1_bring_5 : decode cX1_bring 5 = .ok (.iaload, 1) := by decide +kernel
theorem dX1_bring_6 : decode cX1_bring 6 = .ok (.ifCond .ne 4, 3) := by decide +kernel
theorem dX1_bring_9 : decode cX1_bring 9 = .ok (.return_, 1) := by decide +kernel
theorem dX1_bring_10 : decode cX1_bring 10 = .ok (.aload_n 0, 1) := by decide +kernel
theorem dX1_bring_11 : decode cX1_bring 11 = .ok (.getfield 18, 3) := by decide +kernel
theorem dX1_bring_14 : decode cX1_bring 14 = .ok (.getfield 95, 3) := by decide +kernel
theorem dX1_bring_17 : decode cX1_bring 17 = .ok (.iload_n 2, 1) := by decide +kernel
theorem dX1_bring_18 : decode cX1_bring 18 = .ok (.iaload, 1) := by decide +kernel
theorem dX1_bring_19 : decode cX1_bring 19 = .ok (.istore_n 3, 1) := by decide +kernel
theorem dX1_bring_20 : decode cX1_bring 20 = .ok (.aload_n 1, 1) := by decide +kernel
theorem dX1_bring_21 : decode cX1_bring 21 = .ok (.getfield 32, 3) := by decide +kernel
theorem dX1_bring_24 : decode cX1_bring 24 = .ok (.getfield 115, 3) := by decide +kernel
theorem dX1_bring_27 : decode cX1_bring 27 = .ok (.iload_n 2, 1) := by decide +kernel
theorem dX1_bring_28 : decode cX1_bring 28 = .ok (.iaload, 1) := by decide +kernel
theorem dX1_bring_29 : decode cX1_bring 29 = .ok (.istore 4, 2) := by decide +kernel
theorem dX1_bring_31 : decode cX1_bring 31 = .ok (.aload_n 1, 1) := by decide +kernel
theorem dX1_bring_32 : decode cX1_bring 32 = .ok (.getfield 32, 3) := by decide +kernel
theorem dX1_bring_35 : decode cX1_bring 35 = .ok (.getfield 118, 3) := by decide +kernel
theorem dX1_bring_38 : decode cX1_bring 38 = .ok (.iload_n 3, 1) := by decide +kernel
theorem dX1_bring_39 : decode cX1_bring 39 = .ok (.iaload, 1) := by decide +kernel
theorem dX1_bring_40 : decode cX1_bring 40 = .ok (.iload 4, 2) := by decide +kernel
theorem dX1_bring_42 : decode cX1_bring 42 = .ok (.if_icmp .ne 7, 3) := by decide +kernel
theorem dX1_bring_45 : decode cX1_bring 45 = .ok (.iconst 1, 1) := by decide +kernel
theorem dX1_bring_46 : decode cX1_bring 46 = .ok (.goto 4, 3) := by decide +kernel
theorem dX1_bring_49 : decode cX1_bring 49 = .ok (.iconst 0, 1) := by decide +kernel
theorem dX1_bring_50 : decode cX1_bring 50 = .ok (.istore 5, 2) := by decide +kernel
theorem dX1_bring_52 : decode cX1_bring 52 = .ok (.iconst 0, 1) := by decide +kernel
theorem dX1_bring_53 : decode cX1_bring 53 = .ok (.istore 6, 2) := by decide +kernel
theorem dX1_bring_55 : decode cX1_bring 55 = .ok (.iload 6, 2) := by decide +kernel
theorem dX1_bring_57 : decode cX1_bring 57 = .ok (.aload_n 0, 1) := by decide +kernel
theorem dX1_bring_58 : decode cX1_bring 58 = .ok (.getfield 22, 3) := by decide +kernel
theorem dX1_bring_61 : decode cX1_bring 61 = .ok (.iload_n 2, 1) := by decide +kernel
theorem dX1_bring_62 : decode cX1_bring 62 = .ok (.iaload, 1) := by decide +kernel
theorem dX1_bring_63 : decode cX1_bring 63 = .ok (.if_icmp .ge 56, 3) := by decide +kernel
theorem dX1_bring_66 : decode cX1_bring 66 = .ok (.aload_n 0, 1) := by decide +kernel
theorem dX1_bring_67 : decode cX1_bring 67 = .ok (.getfield 25, 3) := by decide +kernel
theorem dX1_bring_70 : decode cX1_bring 70 = .ok (.iload_n 2, 1) := by decide +kernel
theorem dX1_bring_71 : decode cX1_bring 71 = .ok (.bipush 9, 2) := by decide +kernel
theorem dX1_bring_73 : decode cX1_bring 73 = .ok (.imul, 1) := by decide +kernel
theorem dX1_bring_74 : decode cX1_bring 74 = .ok (.iload 6, 2) := by decide +kernel
theorem dX1_bring_76 : decode cX1_bring 76 = .ok (.iadd, 1) := by decide +kernel
theorem dX1_bring_77 : decode cX1_bring 77 = .ok (.iaload, 1) := by decide +kernel
theorem dX1_bring_78 : decode cX1_bring 78 = .ok (.istore 7, 2) := by decide +kernel
theorem dX1_bring_80 : decode cX1_bring 80 = .ok (.iload 5, 2) := by decide +kernel
theorem dX1_bring_82 : decode cX1_bring 82 = .ok (.ifCond .eq 16, 3) := by decide +kernel
theorem dX1_bring_85 : decode cX1_bring 85 = .ok (.aload_n 1, 1) := by decide +kernel
theorem dX1_bring_86 : decode cX1_bring 86 = .ok (.getfield 42, 3) := by decide +kernel
theorem dX1_bring_89 : decode cX1_bring 89 = .ok (.iload_n 3, 1) := by decide +kernel
theorem dX1_bring_90 : decode cX1_bring 90 = .ok (.iload 7, 2) := by decide +kernel
theorem dX1_bring_92 : decode cX1_bring 92 = .ok (.invokevirtual 121, 3) := by decide +kernel
theorem dX1_bring_95 : decode cX1_bring 95 = .ok (.goto 18, 3) := by decide +kernel
theorem dX1_bring_98 : decode cX1_bring 98 = .ok (.aload_n 1, 1) := by decide +kernel
theorem dX1_bring_99 : decode cX1_bring 99 = .ok (.getfield 42, 3) := by decide +kernel
theorem dX1_bring_102 : decode cX1_bring 102 = .ok (.iload 4, 2) := by decide +kernel
theorem dX1_bring_104 : decode cX1_bring 104 = .ok (.iload_n 3, 1) := by decide +kernel
theorem dX1_bring_105 : decode cX1_bring 105 = .ok (.invokestatic 82, 3) := by decide +kernel
theorem dX1_bring_108 : decode cX1_bring 108 = .ok (.iload 7, 2) := by decide +kernel
theorem dX1_bring_110 : decode cX1_bring 110 = .ok (.invokevirtual 125, 3) := by decide +kernel
theorem dX1_bring_113 : decode cX1_bring 113 = .ok (.iinc 6 1, 3) := by decide +kernel
theorem dX1_bring_116 : decode cX1_bring 116 = .ok (.goto (-61), 3) := by decide +kernel
theorem dX1_bring_119 : decode cX1_bring 119 = .ok (.return_, 1) := by decide +kernel
theorem dX1_bringFeeds_0 : decode cX1_bringFeeds 0 = .ok (.iconst 0, 1) := by decide +kernel
theorem dX1_bringFeeds_1 : decode cX1_bringFeeds 1 = .ok (.istore_n 2, 1) := by decide +kernel
theorem dX1_bringFeeds_2 : decode cX1_bringFeeds 2 = .ok (.iload_n 2, 1) := by decide +kernel
theorem dX1_bringFeeds_3 : decode cX1_bringFeeds 3 = .ok (.aload_n 0, 1) := by decide +kernel
theorem dX1_bringFeeds_4 : decode cX1_bringFeeds 4 = .ok (.getfield 32, 3) := by decide +kernel
theorem dX1_bringFeeds_7 : decode cX1_bringFeeds 7 = .ok (.getfield 68, 3) := by decide +kernel
theorem dX1_bringFeeds_10 : decode cX1_bringFeeds 10 = .ok (.if_icmp .ge 55, 3) := by decide +kernel
theorem dX1_bringFeeds_13 : decode cX1_bringFeeds 13 = .ok (.iconst 0, 1) := by decide +kernel
theorem dX1_bringFeeds_14 : decode cX1_bringFeeds 14 = .ok (.istore_n 3, 1) := by decide +kernel
theorem dX1_bringFeeds_15 : decode cX1_bringFeeds 15 = .ok (.iload_n 3, 1) := by decide +kernel
theorem dX1_bringFeeds_16 : decode cX1_bringFeeds 16 = .ok (.aload_n 0, 1) := by decide +kernel
theorem dX1_bringFeeds_17 : decode cX1_bringFeeds 17 = .ok (.getfield 32, 3) := by decide +kernel
theorem dX1_bringFeeds_20 : decode cX1_bringFeeds 20 = .ok (.getfield 79, 3) := by decide +kernel
theorem dX1_bringFeeds_23 : decode cX1_bringFeeds 23 = .ok (.if_icmp .ge 36, 3) := by decide +kernel
theorem dX1_bringFeeds_26 : decode cX1_bringFeeds 26 = .ok (.iload_n 2, 1) := by decide +kernel
theorem dX1_bringFeeds_27 : decode cX1_bringFeeds 27 = .ok (.iload_n 3, 1) := by decide +kernel
theorem dX1_bringFeeds_28 : decode cX1_bringFeeds 28 = .ok (.invokestatic 82, 3) := by decide +kernel
theorem dX1_bringFeeds_31 : decode cX1_bringFeeds 31 = .ok (.istore 4, 2) := by decide +kernel
theorem dX1_bringFeeds_33 : decode cX1_bringFeeds 33 = .ok (.aload_n 0, 1) := by decide +kernel
theorem dX1_bringFeeds_34 : decode cX1_bringFeeds 34 = .ok (.getfield 42, 3) := by decide +kernel
theorem dX1_bringFeeds_37 : decode cX1_bringFeeds 37 = .ok (.iload 4, 2) := by decide +kernel
theorem dX1_bringFeeds_39 : decode cX1_bringFeeds 39 = .ok (.aload_n 1, 1) := by decide +kernel
theorem dX1_bringFeeds_40 : decode cX1_bringFeeds 40 = .ok (.iload 4, 2) := by decide +kernel
theorem dX1_bringFeeds_42 : decode cX1_bringFeeds 42 = .ok (.iaload, 1) := by decide +kernel
theorem dX1_bringFeeds_43 : decode cX1_bringFeeds 43 = .ok (.aload_n 0, 1) := by decide +kernel
theorem dX1_bringFeeds_44 : decode cX1_bringFeeds 44 = .ok (.getfield 42, 3) := by decide +kernel
theorem dX1_bringFeeds_47 : decode cX1_bringFeeds 47 = .ok (.getfield 46, 3) := by decide +kernel
theorem dX1_bringFeeds_50 : decode cX1_bringFeeds 50 = .ok (.invokevirtual 128, 3) := by decide +kernel
theorem dX1_bringFeeds_53 : decode cX1_bringFeeds 53 = .ok (.iinc 3 1, 3) := by decide +kernel
theorem dX1_bringFeeds_56 : decode cX1_bringFeeds 56 = .ok (.goto (-41), 3) := by decide +kernel
theorem dX1_bringFeeds_59 : decode cX1_bringFeeds 59 = .ok (.iinc 2 1, 3) := by decide +kernel
theorem dX1_bringFeeds_62 : decode cX1_bringFeeds 62 = .ok (.goto (-60), 3) := by decide +kernel
theorem dX1_bringFeeds_65 : decode cX1_bringFeeds 65 = .ok (.return_, 1) := by decide +kernel
theorem dX2_clear_0 : decode cX2_clear 0 = .ok (.aload_n 0, 1) := by decide +kernel
theorem dX2_clear_1 : decode cX2_clear 1 = .ok (.iconst 0, 1) := by decide +kernel
theorem dX2_clear_2 : decode cX2_clear 2 = .ok (.putfield 33, 3) := by decide +kernel
theorem dX2_clear_5 : decode cX2_clear 5 = .ok (.aload_n 0, 1) := by decide +kernel
theorem dX2_clear_6 : decode cX2_clear 6 = .ok (.iconst 0, 1) := by decide +kernel
theorem dX2_clear_7 : decode cX2_clear 7 = .ok (.putfield 37, 3) := by decide +kernel
theorem dX2_clear_10 : decode cX2_clear 10 = .ok (.aload_n 0, 1) := by decide +kernel
theorem dX2_clear_11 : decode cX2_clear 11 = .ok (.iconst 0, 1) := by decide +kernel
theorem dX2_clear_12 : decode cX2_clear 12 = .ok (.putfield 40, 3) := by decide +kernel
theorem dX2_clear_15 : decode cX2_clear 15 = .ok (.aload_n 0, 1) := by decide +kernel
theorem dX2_clear_16 : decode cX2_clear 16 = .ok (.iconst 0, 1) := by decide +kernel
theorem dX2_clear_17 : decode cX2_clear 17 = .ok (.putfield 43, 3) := by decide +kernel
theorem dX2_clear_20 : decode cX2_clear 20 = .ok (.aload_n 0, 1) := by decide +kernel
theorem dX2_clear_21 : decode cX2_clear 21 = .ok (.iconst 0, 1) := by decide +kernel
theorem dX2_clear_22 : decode cX2_clear 22 = .ok (.putfield 46, 3) := by decide +kernel
theorem dX2_clear_25 : decode cX2_clear 25 = .ok (.aload_n 0, 1) := by decide +kernel
theorem dX2_clear_26 : decode cX2_clear 26 = .ok (.getfield 24, 3) := by decide +kernel
theorem dX2_clear_29 : decode cX2_clear 29 = .ok (.iconst 0, 1) := by decide +kernel
theorem dX2_clear_30 : decode cX2_clear 30 = .ok (.invokestatic 49, 3) := by decide +kernel
theorem dX2_clear_33 : decode cX2_clear 33 = .ok (.aload_n 0, 1) := by decide +kernel
theorem dX2_clear_34 : decode cX2_clear 34 = .ok (.getfield 27, 3) := by decide +kernel
theorem dX2_clear_37 : decode cX2_clear 37 = .ok (.iconst 0, 1) := by decide +kernel
theorem dX2_clear_38 : decode cX2_clear 38 = .ok (.invokestatic 49, 3) := by decide +kernel
theorem dX2_clear_41 : decode cX2_clear 41 = .ok (.return_, 1) := by decide +kernel
theorem dX2_copyFrom_0 : decode cX2_copyFrom 0 = .ok (.aload_n 0, 1) := by decide +kernel
theorem dX2_copyFrom_1 : decode cX2_copyFrom 1 = .ok (.aload_n 1, 1) := by decide +kernel
theorem dX2_copyFrom_2 : decode cX2_copyFrom 2 = .ok (.getfield 33, 3) := by decide +kernel
theorem dX2_copyFrom_5 : decode cX2_copyFrom 5 = .ok (.putfield 33, 3) := by decide +kernel
theorem dX2_copyFrom_8 : decode cX2_copyFrom 8 = .ok (.aload_n 0, 1) := by decide +kernel
theorem dX2_copyFrom_9 : decode cX2_copyFrom 9 = .ok (.aload_n 1, 1) := by decide +kernel
theorem dX2_copyFrom_10 : decode cX2_copyFrom 10 = .ok (.getfield 37, 3) := by decide +kernel
theorem dX2_copyFrom_13 : decode cX2_copyFrom 13 = .ok (.putfield 37, 3) := by decide +kernel
theorem dX2_copyFrom_16 : decode cX2_copyFrom 16 = .ok (.aload_n 0, 1) := by decide +kernel
theorem dX2_copyFrom_17 : decode cX2_copyFrom 17 = .ok (.aload_n 1, 1) := by decide +kernel
theorem dX2_copyFrom_18 : decode cX2_copyFrom 18 = .ok (.getfield 40, 3) := by decide +kernel
theorem dX2_copyFrom_21 : decode cX2_copyFrom 21 = .ok (.putfield 40, 3) := by decide +kernel
theorem dX2_copyFrom_24 : decode cX2_copyFrom 24 = .ok (.aload_n 0, 1) := by decide +kernel
theorem dX2_copyFrom_25 : decode cX2_copyFrom 25 = .ok (.aload_n 1, 1) := by decide +kernel
theorem dX2_copyFrom_26 : decode cX2_copyFrom 26 = .ok (.getfield 43, 3) := by decide +kernel
theorem dX2_copyFrom_29 : decode cX2_copyFrom 29 = .ok (.putfield 43, 3) := by decide +kernel
theorem dX2_copyFrom_32 : decode cX2_copyFrom 32 = .ok (.aload_n 0, 1) := by decide +kernel
theorem dX2_copyFrom_33 : decode cX2_copyFrom 33 = .ok (.aload_n 1, 1) := by decide +kernel
theorem dX2_copyFrom_34 : decode cX2_copyFrom 34 = .ok (.getfield 46, 3) := by decide +kernel
theorem dX2_copyFrom_37 : decode cX2_copyFrom 37 = .ok (.putfield 46, 3) := by decide +kernel
theorem dX2_copyFrom_40 : decode cX2_copyFrom 40 = .ok (.aload_n 1, 1) := by decide +kernel
theorem dX2_copyFrom_41 : decode cX2_copyFrom 41 = .ok (.getfield 9, 3) := by decide +kernel
theorem dX2_copyFrom_44 : decode cX2_copyFrom 44 = .ok (.iconst 0, 1) := by decide +kernel
theorem dX2_copyFrom_45 : decode cX2_copyFrom 45 = .ok (.aload_n 0, 1) := by decide +kernel
theorem dX2_copyFrom_46 : decode cX2_copyFrom 46 = .ok (.getfield 9, 3) := by decide +kernel
theorem dX2_copyFrom_49 : decode cX2_copyFrom 49 = .ok (.iconst 0, 1) := by decide +kernel
theorem dX2_copyFrom_50 : decode cX2_copyFrom 50 = .ok (.iconst 3, 1) := by decide +kernel
theorem dX2_copyFrom_51 : decode cX2_copyFrom 51 = .ok (.invokestatic 55, 3) := by decide +kernel
theorem dX2_copyFrom_54 : decode cX2_copyFrom 54 = .ok (.aload_n 1, 1) := by decide +kernel
theorem dX2_copyFrom_55 : decode cX2_copyFrom 55 = .ok (.getfield 15, 3) := by decide +kernel
theorem dX2_copyFrom_58 : decode cX2_copyFrom 58 = .ok (.iconst 0, 1) := by decide +kernel
theorem dX2_copyFrom_59 : decode cX2_copyFrom 59 = .ok (.aload_n 0, 1) := by decide +kernel
theorem dX2_copyFrom_60 : decode cX2_copyFrom 60 = .ok (.getfield 15, 3) := by decide +kernel
theorem dX2_copyFrom_63 : decode cX2_copyFrom 63 = .ok (.iconst 0, 1) := by decide +kernel
theorem dX2_copyFrom_64 : decode cX2_copyFrom 64 = .ok (.bipush 10, 2) := by decide +kernel
theorem dX2_copyFrom_66 : decode cX2_copyFrom 66 = .ok (.invokestatic 55, 3) := by decide +kernel
theorem dX2_copyFrom_69 : decode cX2_copyFrom 69 = .ok (.aload_n 1, 1) := by decide +kernel
theorem dX2_copyFrom_70 : decode cX2_copyFrom 70 = .ok (.getfield 18, 3) := by decide +kernel
theorem dX2_copyFrom_73 : decode cX2_copyFrom 73 = .ok (.iconst 0, 1) := by decide +kernel
theorem dX2_copyFrom_74 : decode cX2_copyFrom 74 = .ok (.aload_n 0, 1) := by decide +kernel
theorem dX2_copyFrom_75 : decode cX2_copyFrom 75 = .ok (.getfield 18, 3) := by decide +kernel
theorem dX2_copyFrom_78 : decode cX2_copyFrom 78 = .ok (.iconst 0, 1) := by decide +kernel
theorem dX2_copyFrom_79 : decode cX2_copyFrom 79 = .ok (.bipush 10, 2) := by decide +kernel
theorem dX2_copyFrom_81 : decode cX2_copyFrom 81 = .ok (.invokestatic 55, 3) := by decide +kernel
theorem dX2_copyFrom_84 : decode cX2_copyFrom 84 = .ok (.aload_n 1, 1) := by decide +kernel
theorem dX2_copyFrom_85 : decode cX2_copyFrom 85 = .ok (.getfield 21, 3) := by decide +kernel
theorem dX2_copyFrom_88 : decode cX2_copyFrom 88 = .ok (.iconst 0, 1) := by decide +kernel
theorem dX2_copyFrom_89 : decode cX2_copyFrom 89 = .ok (.aload_n 0, 1) := by decide +kernel
theorem dX2_copyFrom_90 : decode cX2_copyFrom 90 = .ok (.getfield 21, 3) := by decide +kernel
theorem dX2_copyFrom_93 : decode cX2_copyFrom 93 = .ok (.iconst 0, 1) := by decide +kernel
theorem dX2_copyFrom_94 : decode cX2_copyFrom 94 = .ok (.bipush 10, 2) := by decide +kernel
theorem dX2_copyFrom_96 : decode cX2_copyFrom 96 = .ok (.invokestatic 55, 3) := by decide +kernel
theorem dX2_copyFrom_99 : decode cX2_copyFrom 99 = .ok (.aload_n 1, 1) := by decide +kernel
theorem dX2_copyFrom_100 : decode cX2_copyFrom 100 = .ok (.getfield 24, 3) := by decide +kernel
theorem dX2_copyFrom_103 : decode cX2_copyFrom 103 = .ok (.iconst 0, 1) := by decide +kernel
theorem dX2_copyFrom_104 : decode cX2_copyFrom 104 = .ok (.aload_n 0, 1) := by decide +kernel
theorem dX2_copyFrom_105 : decode cX2_copyFrom 105 = .ok (.getfield 24, 3) := by decide +kernel
theorem dX2_copyFrom_108 : decode cX2_copyFrom 108 = .ok (.iconst 0, 1) := by decide +kernel
theorem dX2_copyFrom_109 : decode cX2_copyFrom 109 = .ok (.bipush 10, 2) := by decide +kernel
theorem dX2_copyFrom_111 : decode cX2_copyFrom 111 = .ok (.invokestatic 55, 3) := by decide +kernel
theorem dX2_copyFrom_114 : decode cX2_copyFrom 114 = .ok (.aload_n 1, 1) := by decide +kernel
theorem dX2_copyFrom_115 : decode cX2_copyFrom 115 = .ok (.getfield 27, 3) := by decide +kernel
theorem dX2_copyFrom_118 : decode cX2_copyFrom 118 = .ok (.iconst 0, 1) := by decide +kernel
theorem dX2_copyFrom_119 : decode cX2_copyFrom 119 = .ok (.aload_n 0, 1) := by decide +kernel
theorem dX2_copyFrom_120 : decode cX2_copyFrom 120 = .ok (.getfield 27, 3) := by decide +kernel
theorem dX2_copyFrom_123 : decode cX2_copyFrom 123 = .ok (.iconst 0, 1) := by decide +kernel
theorem dX2_copyFrom_124 : decode cX2_copyFrom 124 = .ok (.bipush 18, 2) := by decide +kernel
theorem dX2_copyFrom_126 : decode cX2_copyFrom 126 = .ok (.invokestatic 55, 3) := by decide +kernel
theorem dX2_copyFrom_129 : decode cX2_copyFrom 129 = .ok (.aload_n 1, 1) := by decide +kernel
theorem dX2_copyFrom_130 : decode cX2_copyFrom 130 = .ok (.getfield 30, 3) := by decide +kernel
theorem dX2_copyFrom_133 : decode cX2_copyFrom 133 = .ok (.iconst 0, 1) := by decide +kernel
theorem dX2_copyFrom_134 : decode cX2_copyFrom 134 = .ok (.aload_n 0, 1) := by decide +kernel
theorem dX2_copyFrom_135 : decode cX2_copyFrom 135 = .ok (.getfield 30, 3) := by decide +kernel
theorem dX2_copyFrom_138 : decode cX2_copyFrom 138 = .ok (.iconst 0, 1) := by decide +kernel
theorem dX2_copyFrom_139 : decode cX2_copyFrom 139 = .ok (.bipush 18, 2) := by decide +kernel
theorem dX2_copyFrom_141 : decode cX2_copyFrom 141 = .ok (.invokestatic 55, 3) := by decide +kernel
theorem dX2_copyFrom_144 : decode cX2_copyFrom 144 = .ok (.return_, 1) := by decide +kernel
theorem dX2_hasNode_0 : decode cX2_hasNode 0 = .ok (.iload_n 1, 1) := by decide +kernel
theorem dX2_hasNode_1 : decode cX2_hasNode 1 = .ok (.ifCond .lt 15, 3) := by decide +kernel
theorem dX2_hasNode_4 : decode cX2_hasNode 4 = .ok (.iload_n 1, 1) := by decide +kernel
theorem dX2_hasNode_5 : decode cX2_hasNode 5 = .ok (.aload_n 0, 1) := by decide +kernel
theorem dX2_hasNode_6 : decode cX2_hasNode 6 = .ok (.getfield 33, 3) := by decide +kernel
theorem dX2_hasNode_9 : decode cX2_hasNode 9 = .ok (.if_icmp .ge 7, 3) := by decide +kernel
theorem dX2_hasNode_12 : decode cX2_hasNode 12 = .ok (.iconst 1, 1) := by decide +kernel
theorem dX2_hasNode_13 : decode cX2_hasNode 13 = .ok (.goto 4, 3) := by decide +kernel
theorem dX2_hasNode_16 : decode cX2_hasNode 16 = .ok (.iconst 0, 1) := by decide +kernel
theorem dX2_hasNode_17 : decode cX2_hasNode 17 = .ok (.ireturn, 1) := by decide +kernel
theorem dX2_hasGoal_0 : decode cX2_hasGoal 0 = .ok (.iload_n 1, 1) := by decide +kernel
theorem dX2_hasGoal_1 : decode cX2_hasGoal 1 = .ok (.ifCond .lt 15, 3) := by decide +kernel
theorem dX2_hasGoal_4 : decode cX2_hasGoal 4 = .ok (.iload_n 1, 1) := by decide +kernel
theorem dX2_hasGoal_5 : decode cX2_hasGoal 5 = .ok (.aload_n 0, 1) := by decide +kernel
theorem dX2_hasGoal_6 : decode cX2_hasGoal 6 = .ok (.getfield 37, 3) := by decide +kernel
theorem dX2_hasGoal_9 : decode cX2_hasGoal 9 = .ok (.if_icmp .ge 7, 3) := by decide +kernel
theorem dX2_hasGoal_12 : decode cX2_hasGoal 12 = .ok (.iconst 1, 1) := by decide +kernel
theorem dX2_hasGoal_13 : decode cX2_hasGoal 13 = .ok (.goto 4, 3) := by decide +kernel
theorem dX2_hasGoal_16 : decode cX2_hasGoal 16 = .ok (.iconst 0, 1) := by decide +kernel
theorem dX2_hasGoal_17 : decode cX2_hasGoal 17 = .ok (.ireturn, 1) := by decide +kernel
theorem dX2_hasLink_0 : decode cX2_hasLink 0 = .ok (.iload_n 1, 1) := by decide +kernel
theorem dX2_hasLink_1 : decode cX2_hasLink 1 = .ok (.ifCond .lt 15, 3) := by decide +kernel
theorem dX2_hasLink_4 : decode cX2_hasLink 4 = .ok (.iload_n 1, 1) := by decide +kernel
theorem dX2_hasLink_5 : decode cX2_hasLink 5 = .ok (.aload_n 0, 1) := by decide +kernel
theorem dX2_hasLink_6 : decode cX2_hasLink 6 = .ok (.getfield 40, 3) := by decide +kernel
theorem dX2_hasLink_9 : decode cX2_hasLink 9 = .ok (.if_icmp .ge 7, 3) := by decide +kernel
theorem dX2_hasLink_12 : decode cX2_hasLink 12 = .ok (.iconst 1, 1) := by decide +kernel
theorem dX2_hasLink_13 : decode cX2_hasLink 13 = .ok (.goto 4, 3) := by decide +kernel
theorem dX2_hasLink_16 : decode cX2_hasLink 16 = .ok (.iconst 0, 1) := by decide +kernel
theorem dX2_hasLink_17 : decode cX2_hasLink 17 = .ok (.ireturn, 1) := by decide +kernel
theorem dX2_hasQueue_0 : decode cX2_hasQueue 0 = .ok (.aload_n 0, 1) := by decide +kernel
theorem dX2_hasQueue_1 : decode cX2_hasQueue 1 = .ok (.iload_n 1, 1) := by decide +kernel
theorem dX2_hasQueue_2 : decode cX2_hasQueue 2 = .ok (.invokevirtual 61, 3) := by decide +kernel
theorem dX2_hasQueue_5 : decode cX2_hasQueue 5 = .ok (.ifCond .eq 25, 3) := by decide +kernel
theorem dX2_hasQueue_8 : decode cX2_hasQueue 8 = .ok (.aload_n 0, 1) := by decide +kernel
theorem dX2_hasQueue_9 : decode cX2_hasQueue 9 = .ok (.iload_n 2, 1) := by decide +kernel
theorem dX2_hasQueue_10 : decode cX2_hasQueue 10 = .ok (.invokevirtual 65, 3) := by decide +kernel
theorem dX2_hasQueue_13 : decode cX2_hasQueue 13 = .ok (.ifCond .eq 17, 3) := by decide +kernel
theorem dX2_hasQueue_16 : decode cX2_hasQueue 16 = .ok (.aload_n 0, 1) := by decide +kernel
theorem dX2_hasQueue_17 : decode cX2_hasQueue 17 = .ok (.getfield 9, 3) := by decide +kernel
theorem dX2_hasQueue_20 : decode cX2_hasQueue 20 = .ok (.iload_n 2, 1) := by decide +kernel
theorem dX2_hasQueue_21 : decode cX2_hasQueue 21 = .ok (.iaload, 1) := by decide +kernel
theorem dX2_hasQueue_22 : decode cX2_hasQueue 22 = .ok (.iload_n 1, 1) := by decide +kernel
theorem dX2_hasQueue_23 : decode cX2_hasQueue 23 = .ok (.if_icmp .eq 7, 3) := by decide +kernel
theorem dX2_hasQueue_26 : decode cX2_hasQueue 26 = .ok (.iconst 1, 1) := by decide +kernel
theorem dX2_hasQueue_27 : decode cX2_hasQueue 27 = .ok (.goto 4, 3) := by decide +kernel
theorem dX2_hasQueue_30 : decode cX2_hasQueue 30 = .ok (.iconst 0, 1) := by decide +kernel
theorem dX2_hasQueue_31 : decode cX2_hasQueue 31 = .ok (.ireturn, 1) := by decide +kernel
theorem dX2_doClash_0 : decode cX2_doClash 0 = .ok (.aload_n 0, 1) := by decide +kernel
theorem dX2_doClash_1 : decode cX2_doClash 1 = .ok (.getfield 24, 3) := by decide +kernel
theorem dX2_doClash_4 : decode cX2_doClash 4 = .ok (.iload_n 1, 1) := by decide +kernel
theorem dX2_doClash_5 : decode cX2_doClash 5 = .ok (.iaload, 1) := by decide +kernel
theorem dX2_doClash_6 : decode cX2_doClash 6 = .ok (.iload_n 2, 1) := by decide +kernel
theorem dX2_doClash_7 : decode cX2_doClash 7 = .ok (.ishr, 1) := by decide +kernel
theorem dX2_doClash_8 : decode cX2_doClash 8 = .ok (.iconst 1, 1) := by decide +kernel
theorem dX2_doClash_9 : decode cX2_doClash 9 = .ok (.iand, 1) := by decide +kernel
theorem dX2_doClash_10 : decode cX2_doClash 10 = .ok (.iconst 1, 1) := by decide +kernel
theorem dX2_doClash_11 : decode cX2_doClash 11 = .ok (.if_icmp .ne 7, 3) := by decide +kernel
theorem dX2_doClash_14 : decode cX2_doClash 14 = .ok (.iconst 1, 1) := by decide +kernel
theorem dX2_doClash_15 : decode cX2_doClash 15 = .ok (.goto 4, 3) := by decide +kernel
theorem dX2_doClash_18 : decode cX2_doClash 18 = .ok (.iconst 0, 1) := by decide +kernel
theorem dX2_doClash_19 : decode cX2_doClash 19 = .ok (.ireturn, 1) := by decide +kernel
theorem dX2_turnClash_0 : decode cX2_turnClash 0 = .ok (.aload_n 0, 1) := by decide +kernel
theorem dX2_turnClash_1 : decode cX2_turnClash 1 = .ok (.getfield 24, 3) := by decide +kernel
theorem dX2_turnClash_4 : decode cX2_turnClash 4 = .ok (.iload_n 1, 1) := by decide +kernel
theorem dX2_turnClash_5 : decode cX2_turnClash 5 = .ok (.dup2, 1) := by decide +kernel
theorem dX2_turnClash_6 : decode cX2_turnClash 6 = .ok (.iaload, 1) := by decide +kernel
theorem dX2_turnClash_7 : decode cX2_turnClash 7 = .ok (.iconst 1, 1) := by decide +kernel
theorem dX2_turnClash_8 : decode cX2_turnClash 8 = .ok (.iload_n 2, 1) := by decide +kernel
theorem dX2_turnClash_9 : decode cX2_turnClash 9 = .ok (.ishl, 1) := by decide +kernel
theorem dX2_turnClash_10 : decode cX2_turnClash 10 = .ok (.ixor, 1) := by decide +kernel
theorem dX2_turnClash_11 : decode cX2_turnClash 11 = .ok (.iastore, 1) := by decide +kernel
theorem dX2_turnClash_12 : decode cX2_turnClash 12 = .ok (.aload_n 0, 1) := by decide +kernel
theorem dX2_turnClash_13 : decode cX2_turnClash 13 = .ok (.getfield 24, 3) := by decide +kernel
theorem dX2_turnClash_16 : decode cX2_turnClash 16 = .ok (.iload_n 2, 1) := by decide +kernel
theorem dX2_turnClash_17 : decode cX2_turnClash 17 = .ok (.dup2, 1) := by decide +kernel
theorem dX2_turnClash_18 : decode cX2_turnClash 18 = .ok (.iaload, 1) := by decide +kernel
theorem dX2_turnClash_19 : decode cX2_turnClash 19 = .ok (.iconst 1, 1) := by decide +kernel
theorem dX2_turnClash_20 : decode cX2_turnClash 20 = .ok (.iload_n 1, 1) := by decide +kernel
theorem dX2_turnClash_21 : decode cX2_turnClash 21 = .ok (.ishl, 1) := by decide +kernel
theorem dX2_turnClash_22 : decode cX2_turnClash 22 = .ok (.ixor, 1) := by decide +kernel
theorem dX2_turnClash_23 : decode cX2_turnClash 23 = .ok (.iastore, 1) := by decide +kernel
theorem dX2_turnClash_24 : decode cX2_turnClash 24 = .ok (.return_, 1) := by decide +kernel
theorem dX2_pairs_0 : decode cX2_pairs 0 = .ok (.iconst 0, 1) := by decide +kernel
theorem dX2_pairs_1 : decode cX2_pairs 1 = .ok (.istore_n 1, 1) := by decide +kernel
theorem dX2_pairs_2 : decode cX2_pairs 2 = .ok (.iconst 0, 1) := by decide +kernel
theorem dX2_pairs_3 : decode cX2_pairs 3 = .ok (.istore_n 2, 1) := by decide +kernel
theorem dX2_pairs_4 : decode cX2_pairs 4 = .ok (.iload_n 2, 1) := by decide +kernel
theorem dX2_pairs_5 : decode cX2_pairs 5 = .ok (.aload_n 0, 1) := by decide +kernel
theorem dX2_pairs_6 : decode cX2_pairs 6 = .ok (.getfield 40, 3) := by decide +kernel
theorem dX2_pairs_9 : decode cX2_pairs 9 = .ok (.if_icmp .ge 21, 3) := by decide +kernel
theorem dX2_pairs_12 : decode cX2_pairs 12 = .ok (.iload_n 1, 1) := by decide +kernel
theorem dX2_pairs_13 : decode cX2_pairs 13 = .ok (.aload_n 0, 1) := by decide +kernel
theorem dX2_pairs_14 : decode cX2_pairs 14 = .ok (.getfield 24, 3) := by decide +kernel
theorem dX2_pairs_17 : decode cX2_pairs 17 = .ok (.iload_n 2, 1) := by decide +kernel
theorem dX2_pairs_18 : decode cX2_pairs 18 = .ok (.iaload, 1) := by decide +kernel
theorem dX2_pairs_19 : decode cX2_pairs 19 = .ok (.invokestatic 68, 3) := by decide +kernel
theorem dX2_pairs_22 : decode cX2_pairs 22 = .ok (.iadd, 1) := by decide +kernel
theorem dX2_pairs_23 : decode cX2_pairs 23 = .ok (.istore_n 1, 1) := by decide +kernel
theorem dX2_pairs_24 : decode cX2_pairs 24 = .ok (.iinc 2 1, 3) := by decide +kernel
theorem dX2_pairs_27 : decode cX2_pairs 27 = .ok (.goto (-23), 3) := by decide +kernel
theorem dX2_pairs_30 : decode cX2_pairs 30 = .ok (.iload_n 1, 1) := by decide +kernel
theorem dX2_pairs_31 : decode cX2_pairs 31 = .ok (.iconst 2, 1) := by decide +kernel
theorem dX2_pairs_32 : decode cX2_pairs 32 = .ok (.idiv, 1) := by decide +kernel
theorem dX2_pairs_33 : decode cX2_pairs 33 = .ok (.ireturn, 1) := by decide +kernel
theorem dX2_biasAt_0 : decode cX2_biasAt 0 = .ok (.aload_n 0, 1) := by decide +kernel
theorem dX2_biasAt_1 : decode cX2_biasAt 1 = .ok (.getfield 46, 3) := by decide +kernel
theorem dX2_biasAt_4 : decode cX2_biasAt 4 = .ok (.aload_n 0, 1) := by decide +kernel
theorem dX2_biasAt_5 : decode cX2_biasAt 5 = .ok (.getfield 30, 3) := by decide +kernel
theorem dX2_biasAt_8 : decode cX2_biasAt 8 = .ok (.iload_n 1, 1) := by decide +kernel
theorem dX2_biasAt_9 : decode cX2_biasAt 9 = .ok (.iaload, 1) := by decide +kernel
theorem dX2_biasAt_10 : decode cX2_biasAt 10 = .ok (.imul, 1) := by decide +kernel
theorem dX2_biasAt_11 : decode cX2_biasAt 11 = .ok (.ireturn, 1) := by decide +kernel
theorem dX2_takeItem_0 : decode cX2_takeItem 0 = .ok (.iload_n 1, 1) := by decide +kernel
theorem dX2_takeItem_1 : decode cX2_takeItem 1 = .ok (.bipush 110, 2) := by decide +kernel
theorem dX2_takeItem_3 : decode cX2_takeItem 3 = .ok (.if_icmp .ne 7, 3) := by decide +kernel
theorem dX2_takeItem_6 : decode cX2_takeItem 6 = .ok (.iconst 1, 1) := by decide +kernel
theorem dX2_takeItem_7 : decode cX2_takeItem 7 = .ok (.goto 4, 3) := by decide +kernel
theorem dX2_takeItem_10 : decode cX2_takeItem 10 = .ok (.iconst 0, 1) := by decide +kernel
theorem dX2_takeItem_11 : decode cX2_takeItem 11 = .ok (.aload_n 0, 1) := by decide +kernel
theorem dX2_takeItem_12 : decode cX2_takeItem 12 = .ok (.getfield 33, 3) := by decide +kernel
theorem dX2_takeItem_15 : decode cX2_takeItem 15 = .ok (.ifCond .ne 7, 3) := by decide +kernel
theorem dX2_takeItem_18 : decode cX2_takeItem 18 = .ok (.iconst 1, 1) := by decide +kernel
theorem dX2_takeItem_19 : decode cX2_takeItem 19 = .ok (.goto 4, 3) := by decide +kernel
theorem dX2_takeItem_22 : decode cX2_takeItem 22 = .ok (.iconst 0, 1) := by decide +kernel
theorem dX2_takeItem_23 : decode cX2_takeItem 23 = .ok (.if_icmp .eq 5, 3) := by decide +kernel
theorem dX2_takeItem_26 : decode cX2_takeItem 26 = .ok (.iconst 0, 1) := by decide +kernel
theorem dX2_takeItem_27 : decode cX2_takeItem 27 = .ok (.ireturn, 1) := by decide +kernel
theorem dX2_takeItem_28 : decode cX2_takeItem 28 = .ok (.iload_n 1, 1) := by decide +kernel
theorem dX2_takeItem_29 : decode cX2_takeItem 29 = .ok (.lookupswitch 102 #[(98, 96), (102, 87), (103, 65), (108, 71), (110, 59), (120, 80)], 59) := by decide +kernel
theorem dX2_takeItem_88 : decode cX2_takeItem 88 = .ok (.aload_n 0, 1) := by decide +kernel
theorem dX2_takeItem_89 : decode cX2_takeItem 89 = .ok (.iload_n 2, 1) := by decide +kernel
theorem dX2_takeItem_90 : decode cX2_takeItem 90 = .ok (.invokevirtual 74, 3) := by decide +kernel
theorem dX2_takeItem_93 : decode cX2_takeItem 93 = .ok (.ireturn, 1) := by decide +kernel
theorem dX2_takeItem_94 : decode cX2_takeItem 94 = .ok (.aload_n 0, 1) := by decide +kernel
theorem dX2_takeItem_95 : decode cX2_takeItem 95 = .ok (.iload_n 2, 1) := by decide +kernel
theorem dX2_takeItem_96 : decode cX2_takeItem 96 = .ok (.invokevirtual 77, 3) := by decide +kernel
theorem dX2_takeItem_99 : decode cX2_takeItem 99 = .ok (.ireturn, 1) := by decide +kernel
theorem dX2_takeItem_100 : decode cX2_takeItem 100 = .ok (.aload_n 0, 1) := by decide +kernel
theorem dX2_takeItem_101 : decode cX2_takeItem 101 = .ok (.iload_n 2, 1) := by decide +kernel
theorem dX2_takeItem_102 : decode cX2_takeItem 102 = .ok (.iload_n 3, 1) := by decide +kernel
theorem dX2_takeItem_103 : decode cX2_takeItem 103 = .ok (.iload 4, 2) := by decide +kernel
theorem dX2_takeItem_105 : decode cX2_takeItem 105 = .ok (.invokevirtual 80, 3) := by decide +kernel
theorem dX2_takeItem_108 : decode cX2_takeItem 108 = .ok (.ireturn, 1) := by decide +kernel
theorem dX2_takeItem_109 : decode cX2_takeItem 109 = .ok (.aload_n 0, 1) := by decide +kernel
theorem dX2_takeItem_110 : decode cX2_takeItem 110 = .ok (.iload_n 2, 1) := by decide +kernel
theorem dX2_takeItem_111 : decode cX2_takeItem 111 = .ok (.iload_n 3, 1) := by decide +kernel
theorem dX2_takeItem_112 : decode cX2_takeItem 112 = .ok (.invokevirtual 84, 3) := by decide +kernel
theorem dX2_takeItem_115 : decode cX2_takeItem 115 = .ok (.ireturn, 1) := by decide +kernel
theorem dX2_takeItem_116 : decode cX2_takeItem 116 = .ok (.aload_n 0, 1) := by decide +kernel
theorem dX2_takeItem_117 : decode cX2_takeItem 117 = .ok (.iload_n 2, 1) := by decide +kernel
theorem dX2_takeItem_118 : decode cX2_takeItem 118 = .ok (.iload_n 3, 1) := by decide +kernel
theorem dX2_takeItem_119 : decode cX2_takeItem 119 = .ok (.iload 4, 2) := by decide +kernel
theorem dX2_takeItem_121 : decode cX2_takeItem 121 = .ok (.invokevirtual 88, 3) := by decide +kernel
theorem dX2_takeItem_124 : decode cX2_takeItem 124 = .ok (.ireturn, 1) := by decide +kernel
theorem dX2_takeItem_125 : decode cX2_takeItem 125 = .ok (.aload_n 0, 1) := by decide +kernel
theorem dX2_takeItem_126 : decode cX2_takeItem 126 = .ok (.iload_n 2, 1) := by decide +kernel
theorem dX2_takeItem_127 : decode cX2_takeItem 127 = .ok (.invokevirtual 91, 3) := by decide +kernel
theorem dX2_takeItem_130 : decode cX2_takeItem 130 = .ok (.ireturn, 1) := by decide +kernel
theorem dX2_takeItem_131 : decode cX2_takeItem 131 = .ok (.aload_n 0, 1) := by decide +kernel
theorem dX2_takeItem_132 : decode cX2_takeItem 132 = .ok (.iload_n 2, 1) := by decide +kernel
theorem dX2_takeItem_133 : decode cX2_takeItem 133 = .ok (.invokevirtual 94, 3) := by decide +kernel
theorem dX2_takeItem_136 : decode cX2_takeItem 136 = .ok (.ireturn, 1) := by decide +kernel
theorem dX2_findHops_0 : decode cX2_findHops 0 = .ok (.aload_n 0, 1) := by decide +kernel
theorem dX2_findHops_1 : decode cX2_findHops 1 = .ok (.getfield 30, 3) := by decide +kernel
theorem dX2_findHops_4 : decode cX2_findHops 4 = .ok (.bipush 9, 2) := by decide +kernel
theorem dX2_findHops_6 : decode cX2_findHops 6 = .ok (.invokestatic 49, 3) := by decide +kernel
theorem dX2_findHops_9 : decode cX2_findHops 9 = .ok (.iconst 0, 1) := by decide +kernel
theorem dX2_findHops_10 : decode cX2_findHops 10 = .ok (.istore_n 1, 1) := by decide +kernel
theorem dX2_findHops_11 : decode cX2_findHops 11 = .ok (.iload_n 1, 1) := by decide +kernel
theorem dX2_findHops_12 : decode cX2_findHops 12 = .ok (.aload_n 0, 1) := by decide +kernel
theorem dX2_findHops_13 : decode cX2_findHops 13 = .ok (.getfield 37, 3) := by decide +kernel
theorem dX2_findHops_16 : decode cX2_findHops 16 = .ok (.if_icmp .ge 46, 3) := by decide +kernel
theorem dX2_findHops_19 : decode cX2_findHops 19 = .ok (.aload_n 0, 1) := by decide +kernel
theorem dX2_findHops_20 : decode cX2_findHops 20 = .ok (.getfield 30, 3) := by decide +kernel
theorem dX2_findHops_23 : decode cX2_findHops 23 = .ok (.aload_n 0, 1) := by decide +kernel
theorem dX2_findHops_24 : decode cX2_findHops 24 = .ok (.getfield 9, 3) := by decide +kernel
theorem dX2_findHops_27 : decode cX2_findHops 27 = .ok (.iload_n 1, 1) := by decide +kernel
theorem dX2_findHops_28 : decode cX2_findHops 28 = .ok (.iaload, 1) := by decide +kernel
theorem dX2_findHops_29 : decode cX2_findHops 29 = .ok (.iload_n 1, 1) := by decide +kernel
theorem dX2_findHops_30 : decode cX2_findHops 30 = .ok (.invokestatic 97, 3) := by decide +kernel
theorem dX2_findHops_33 : decode cX2_findHops 33 = .ok (.iconst 0, 1) := by decide +kernel
theorem dX2_findHops_34 : decode cX2_findHops 34 = .ok (.iastore, 1) := by decide +kernel
theorem dX2_findHops_35 : decode cX2_findHops 35 = .ok (.iconst 1, 1) := by decide +kernel
theorem dX2_findHops_36 : decode cX2_findHops 36 = .ok (.istore_n 2, 1) := by decide +kernel
theorem dX2_findHops_37 : decode cX2_findHops 37 = .ok (.iload_n 2, 1) := by decide +kernel
theorem dX2_findHops_38 : decode cX2_findHops 38 = .ok (.aload_n 0, 1) := by decide +kernel
theorem dX2_findHops_39 : decode cX2_findHops 39 = .ok (.getfield 33, 3) := by decide +kernel
theorem dX2_findHops_42 : decode cX2_findHops 42 = .ok (.if_icmp .ge 14, 3) := by decide +kernel
theorem dX2_findHops_45 : decode cX2_findHops 45 = .ok (.aload_n 0, 1) := by decide +kernel
theorem dX2_findHops_46 : decode cX2_findHops 46 = .ok (.iload_n 1, 1) := by decide +kernel
theorem dX2_findHops_47 : decode cX2_findHops 47 = .ok (.invokevirtual 101, 3) := by decide +kernel
theorem dX2_findHops_50 : decode cX2_findHops 50 = .ok (.iinc 2 1, 3) := by decide +kernel
theorem dX2_findHops_53 : decode cX2_findHops 53 = .ok (.goto (-16), 3) := by decide +kernel
theorem dX2_findHops_56 : decode cX2_findHops 56 = .ok (.iinc 1 1, 3) := by decide +kernel
theorem dX2_findHops_59 : decode cX2_findHops 59 = .ok (.goto (-48), 3) := by decide +kernel
theorem dX2_findHops_62 : decode cX2_findHops 62 = .ok (.return_, 1) := by decide +kernel
theorem dX2_shortenWays_0 : decode cX2_shortenWays 0 = .ok (.iconst 0, 1) := by decide +kernel
theorem dX2_shortenWays_1 : decode cX2_shortenWays 1 = .ok (.istore_n 2, 1) := by decide +kernel
theorem dX2_shortenWays_2 : decode cX2_shortenWays 2 = .ok (.iload_n 2, 1) := by decide +kernel
theorem dX2_shortenWays_3 : decode cX2_shortenWays 3 = .ok (.aload_n 0, 1) := by decide +kernel
theorem dX2_shortenWays_4 : decode cX2_shortenWays 4 = .ok (.getfield 40, 3) := by decide +kernel
theorem dX2_shortenWays_7 : decode cX2_shortenWays 7 = .ok (.if_icmp .ge 52, 3) := by decide +kernel
theorem dX2_shortenWays_10 : decode cX2_shortenWays 10 = .ok (.aload_n 0, 1) := by decide +kernel
theorem dX2_shortenWays_11 : decode cX2_shortenWays 11 = .ok (.getfield 15, 3) := by decide +kernel
theorem dX2_shortenWays_14 : decode cX2_shortenWays 14 = .ok (.iload_n 2, 1) := by decide +kernel
theorem dX2_shortenWays_15 : decode cX2_shortenWays 15 = .ok (.iaload, 1) := by decide +kernel
theorem dX2_shortenWays_16 : decode cX2_shortenWays 16 = .ok (.iload_n 1, 1) := by decide +kernel
theorem dX2_shortenWays_17 : decode cX2_shortenWays 17 = .ok (.invokestatic 97, 3) := by decide +kernel
theorem dX2_shortenWays_20 : decode cX2_shortenWays 20 = .ok (.istore_n 3, 1) := by decide +kernel
theorem dX2_shortenWays_21 : decode cX2_shortenWays 21 = .ok (.aload_n 0, 1) := by decide +kernel
theorem dX2_shortenWays_22 : decode cX2_shortenWays 22 = .ok (.getfield 30, 3) := by decide +kernel
theorem dX2_shortenWays_25 : decode cX2_shortenWays 25 = .ok (.iload_n 3, 1) := by decide +kernel
theorem dX2_shortenWays_26 : decode cX2_shortenWays 26 = .ok (.aload_n 0, 1) := by decide +kernel
theorem dX2_shortenWays_27 : decode cX2_shortenWays 27 = .ok (.getfield 30, 3) := by decide +kernel
theorem dX2_shortenWays_30 : decode cX2_shortenWays 30 = .ok (.iload_n 3, 1) := by decide +kernel
theorem dX2_shortenWays_31 : decode cX2_shortenWays 31 = .ok (.iaload, 1) := by decide +kernel
theorem dX2_shortenWays_32 : decode cX2_shortenWays 32 = .ok (.aload_n 0, 1) := by decide +kernel
theorem dX2_shortenWays_33 : decode cX2_shortenWays 33 = .ok (.getfield 30, 3) := by decide +kernel
theorem dX2_shortenWays_36 : decode cX2_shortenWays 36 = .ok (.aload_n 0, 1) := by decide +kernel
theorem dX2_shortenWays_37 : decode cX2_shortenWays 37 = .ok (.getfield 18, 3) := by decide +kernel
theorem dX2_shortenWays_40 : decode cX2_shortenWays 40 = .ok (.iload_n 2, 1) := by decide +kernel
theorem dX2_shortenWays_41 : decode cX2_shortenWays 41 = .ok (.iaload, 1) := by decide +kernel
theorem dX2_shortenWays_42 : decode cX2_shortenWays 42 = .ok (.iload_n 1, 1) := by decide +kernel
theorem dX2_shortenWays_43 : decode cX2_shortenWays 43 = .ok (.invokestatic 97, 3) := by decide +kernel
theorem dX2_shortenWays_46 : decode cX2_shortenWays 46 = .ok (.iaload, 1) := by decide +kernel
theorem dX2_shortenWays_47 : decode cX2_shortenWays 47 = .ok (.iconst 1, 1) := by decide +kernel
theorem dX2_shortenWays_48 : decode cX2_shortenWays 48 = .ok (.iadd, 1) := by decide +kernel
theorem dX2_shortenWays_49 : decode cX2_shortenWays 49 = .ok (.invokestatic 105, 3) := by decide +kernel
theorem dX2_shortenWays_52 : decode cX2_shortenWays 52 = .ok (.iastore, 1) := by decide +kernel
theorem dX2_shortenWays_53 : decode cX2_shortenWays 53 = .ok (.iinc 2 1, 3) := by decide +kernel
theorem dX2_shortenWays_56 : decode cX2_shortenWays 56 = .ok (.goto (-54), 3) := by decide +kernel
theorem dX2_shortenWays_59 : decode cX2_shortenWays 59 = .ok (.return_, 1) := by decide +kernel
theorem dX2_takeNodes_0 : decode cX2_takeNodes 0 = .ok (.iload_n 1, 1) := by decide +kernel
theorem dX2_takeNodes_1 : decode cX2_takeNodes 1 = .ok (.iconst 2, 1) := by decide +kernel
theorem dX2_takeNodes_2 : decode cX2_takeNodes 2 = .ok (.bipush 6, 2) := by decide +kernel
theorem dX2_takeNodes_4 : decode cX2_takeNodes 4 = .ok (.invokestatic 110, 3) := by decide +kernel
theorem dX2_takeNodes_7 : decode cX2_takeNodes 7 = .ok (.ifCond .ne 5, 3) := by decide +kernel
theorem dX2_takeNodes_10 : decode cX2_takeNodes 10 = .ok (.iconst 0, 1) := by decide +kernel
theorem dX2_takeNodes_11 : decode cX2_takeNodes 11 = .ok (.ireturn, 1) := by decide +kernel
theorem dX2_takeNodes_12 : decode cX2_takeNodes 12 = .ok (.aload_n 0, 1) := by decide +kernel
theorem dX2_takeNodes_13 : decode cX2_takeNodes 13 = .ok (.iload_n 1, 1) := by decide +kernel
theorem dX2_takeNodes_14 : decode cX2_takeNodes 14 = .ok (.putfield 33, 3) := by decide +kernel
theorem dX2_takeNodes_17 : decode cX2_takeNodes 17 = .ok (.iconst 1, 1) := by decide +kernel
theorem dX2_takeNodes_18 : decode cX2_takeNodes 18 = .ok (.ireturn, 1) := by decide +kernel
theorem dX2_takeGoal_0 : decode cX2_takeGoal 0 = .ok (.aload_n 0, 1) := by decide +kernel
theorem dX2_takeGoal_1 : decode cX2_takeGoal 1 = .ok (.iload_n 1, 1) := by decide +kernel
theorem dX2_takeGoal_2 : decode cX2_takeGoal 2 = .ok (.invokevirtual 61, 3) := by decide +kernel
theorem dX2_takeGoal_5 : decode cX2_takeGoal 5 = .ok (.ifCond .eq 11, 3) := by decide +kernel
theorem dX2_takeGoal_8 : decode cX2_takeGoal 8 = .ok (.aload_n 0, 1) := by decide +kernel
theorem dX2_takeGoal_9 : decode cX2_takeGoal 9 = .ok (.getfield 37, 3) := by decide +kernel
theorem dX2_takeGoal_12 : decode cX2_takeGoal 12 = .ok (.iconst 3, 1) := by decide +kernel
theorem dX2_takeGoal_13 : decode cX2_takeGoal 13 = .ok (.if_icmp .lt 5, 3) := by decide +kernel
theorem dX2_takeGoal_16 : decode cX2_takeGoal 16 = .ok (.iconst 0, 1) := by decide +kernel
theorem dX2_takeGoal_17 : decode cX2_takeGoal 17 = .ok (.ireturn, 1) := by decide +kernel
theorem dX2_takeGoal_18 : decode cX2_takeGoal 18 = .ok (.iconst 0, 1) := by decide +kernel
theorem dX2_takeGoal_19 : decode cX2_takeGoal 19 = .ok (.istore_n 2, 1) := by decide +kernel
theorem dX2_takeGoal_20 : decode cX2_takeGoal 20 = .ok (.iload_n 2, 1) := by decide +kernel
theorem dX2_takeGoal_21 : decode cX2_takeGoal 21 = .ok (.aload_n 0, 1) := by decide +kernel
theorem dX2_takeGoal_22 : decode cX2_takeGoal 22 = .ok (.getfield 37, 3) := by decide +kernel
theorem dX2_takeGoal_25 : decode cX2_takeGoal 25 = .ok (.if_icmp .ge 21, 3) := by decide +kernel
theorem dX2_takeGoal_28 : decode cX2_takeGoal 28 = .ok (.aload_n 0, 1) := by decide +kernel
theorem dX2_takeGoal_29 : decode cX2_takeGoal 29 = .ok (.getfield 9, 3) := by decide +kernel
theorem dX2_takeGoal_32 : decode cX2_takeGoal 32 = .ok (.iload_n 2, 1) := by decide +kernel
theorem dX2_takeGoal_33 : decode cX2_takeGoal 33 = .ok (.iaload, 1) := by decide +kernel
theorem dX2_takeGoal_34 : decode cX2_takeGoal 34 = .ok (.iload_n 1, 1) := by decide +kernel
theorem dX2_takeGoal_35 : decode cX2_takeGoal 35 = .ok (.if_icmp .ne 5, 3) := by decide +kernel
theorem dX2_takeGoal_38 : decode cX2_takeGoal 38 = .ok (.iconst 0, 1) := by decide +kernel
theorem dX2_takeGoal_39 : decode cX2_takeGoal 39 = .ok (.ireturn, 1) := by decide +kernel
theorem dX2_takeGoal_40 : decode cX2_takeGoal 40 = .ok (.iinc 2 1, 3) := by decide +kernel
theorem dX2_takeGoal_43 : decode cX2_takeGoal 43 = .ok (.goto (-23), 3) := by decide +kernel
theorem dX2_takeGoal_46 : decode cX2_takeGoal 46 = .ok (.aload_n 0, 1) := by decide +kernel
theorem dX2_takeGoal_47 : decode cX2_takeGoal 47 = .ok (.getfield 9, 3) := by decide +kernel
theorem dX2_takeGoal_50 : decode cX2_takeGoal 50 = .ok (.aload_n 0, 1) := by decide +kernel
theorem dX2_takeGoal_51 : decode cX2_takeGoal 51 = .ok (.getfield 37, 3) := by decide +kernel
theorem dX2_takeGoal_54 : decode cX2_takeGoal 54 = .ok (.iload_n 1, 1) := by decide +kernel
theorem dX2_takeGoal_55 : decode cX2_takeGoal 55 = .ok (.iastore, 1) := by decide +kernel
theorem dX2_takeGoal_56 : decode cX2_takeGoal 56 = .ok (.aload_n 0, 1) := by decide +kernel
theorem dX2_takeGoal_57 : decode cX2_takeGoal 57 = .ok (.dup, 1) := by decide +kernel
theorem dX2_takeGoal_58 : decode cX2_takeGoal 58 = .ok (.getfield 37, 3) := by decide +kernel
theorem dX2_takeGoal_61 : decode cX2_takeGoal 61 = .ok (.iconst 1, 1) := by decide +kernel
theorem dX2_takeGoal_62 : decode cX2_takeGoal 62 = .ok (.iadd, 1) := by decide +kernel
theorem dX2_takeGoal_63 : decode cX2_takeGoal 63 = .ok (.putfield 37, 3) := by decide +kernel
theorem dX2_takeGoal_66 : decode cX2_takeGoal 66 = .ok (.iconst 1, 1) := by decide +kernel
theorem dX2_takeGoal_67 : decode cX2_takeGoal 67 = .ok (.ireturn, 1) := by decide +kernel
theorem dX2_takeLink_0 : decode cX2_takeLink 0 = .ok (.aload_n 0, 1) := by decide +kernel
theorem dX2_takeLink_1 : decode cX2_takeLink 1 = .ok (.iload_n 1, 1) := by decide +kernel
theorem dX2_takeLink_2 : decode cX2_takeLink 2 = .ok (.invokevirtual 61, 3) := by decide +kernel
theorem dX2_takeLink_5 : decode cX2_takeLink 5 = .ok (.ifCond .eq 35, 3) := by decide +kernel
theorem dX2_takeLink_8 : decode cX2_takeLink 8 = .ok (.aload_n 0, 1) := by decide +kernel
theorem dX2_takeLink_9 : decode cX2_takeLink 9 = .ok (.iload_n 2, 1) := by decide +kernel
theorem dX2_takeLink_10 : decode cX2_takeLink 10 = .ok (.invokevirtual 61, 3) := by decide +kernel
theorem dX2_takeLink_13 : decode cX2_takeLink 13 = .ok (.ifCond .eq 27, 3) := by decide +kernel
theorem dX2_takeLink_16 : decode cX2_takeLink 16 = .ok (.iload_n 1, 1) := by decide +kernel
theorem dX2_takeLink_17 : decode cX2_takeLink 17 = .ok (.iload_n 2, 1) := by decide +kernel
theorem dX2_takeLink_18 : decode cX2_takeLink 18 = .ok (.if_icmp .eq 22, 3) := by decide +kernel
theorem dX2_takeLink_21 : decode cX2_takeLink 21 = .ok (.iload_n 3, 1) := by decide +kernel
theorem dX2_takeLink_22 : decode cX2_takeLink 22 = .ok (.iconst 1, 1) := by decide +kernel
theorem dX2_takeLink_23 : decode cX2_takeLink 23 = .ok (.bipush 9, 2) := by decide +kernel
theorem dX2_takeLink_25 : decode cX2_takeLink 25 = .ok (.invokestatic 110, 3) := by decide +kernel
theorem dX2_takeLink_28 : decode cX2_takeLink 28 = .ok (.ifCond .eq 12, 3) := by decide +kernel
theorem dX2_takeLink_31 : decode cX2_takeLink 31 = .ok (.aload_n 0, 1) := by decide +kernel
theorem dX2_takeLink_32 : decode cX2_takeLink 32 = .ok (.getfield 40, 3) := by decide +kernel
theorem dX2_takeLink_35 : decode cX2_takeLink 35 = .ok (.bipush 10, 2) := by decide +kernel
theorem dX2_takeLink_37 : decode cX2_takeLink 37 = .ok (.if_icmp .lt 5, 3) := by decide +kernel
theorem dX2_takeLink_40 : decode cX2_takeLink 40 = .ok (.iconst 0, 1) := by decide +kernel
theorem dX2_takeLink_41 : decode cX2_takeLink 41 = .ok (.ireturn, 1) := by decide +kernel
theorem dX2_takeLink_42 : decode cX2_takeLink 42 = .ok (.aload_n 0, 1) := by decide +kernel
theorem dX2_takeLink_43 : decode cX2_takeLink 43 = .ok (.getfield 15, 3) := by decide +kernel
theorem dX2_takeLink_46 : decode cX2_takeLink 46 = .ok (.aload_n 0, 1) := by decide +kernel
theorem dX2_takeLink_47 : decode cX2_takeLink 47 = .ok (.getfield 40, 3) := by decide +kernel
theorem dX2_takeLink_50 : decode cX2_takeLink 50 = .ok (.iload_n 1, 1) := by decide +kernel
theorem dX2_takeLink_51 : decode cX2_takeLink 51 = .ok (.iastore, 1) := by decide +kernel
theorem dX2_takeLink_52 : decode cX2_takeLink 52 = .ok (.aload_n 0, 1) := by decide +kernel
theorem dX2_takeLink_53 : decode cX2_takeLink 53 = .ok (.getfield 18, 3) := by decide +kernel
theorem dX2_takeLink_56 : decode cX2_takeLink 56 = .ok (.aload_n 0, 1) := by decide +kernel
theorem dX2_takeLink_57 : decode cX2_takeLink 57 = .ok (.getfield 40, 3) := by decide +kernel
theorem dX2_takeLink_60 : decode cX2_takeLink 60 = .ok (.iload_n 2, 1) := by decide +kernel
theorem dX2_takeLink_61 : decode cX2_takeLink 61 = .ok (.iastore, 1) := by decide +kernel
theorem dX2_takeLink_62 : decode cX2_takeLink 62 = .ok (.aload_n 0, 1) := by decide +kernel
theorem dX2_takeLink_63 : decode cX2_takeLink 63 = .ok (.getfield 21, 3) := by decide +kernel
theorem dX2_takeLink_66 : decode cX2_takeLink 66 = .ok (.aload_n 0, 1) := by decide +kernel
theorem dX2_takeLink_67 : decode cX2_takeLink 67 = .ok (.getfield 40, 3) := by decide +kernel
theorem dX2_takeLink_70 : decode cX2_takeLink 70 = .ok (.iload_n 3, 1) := by decide +kernel
theorem dX2_takeLink_71 : decode cX2_takeLink 71 = .ok (.iastore, 1) := by decide +kernel
theorem dX2_takeLink_72 : decode cX2_takeLink 72 = .ok (.aload_n 0, 1) := by decide +kernel
theorem dX2_takeLink_73 : decode cX2_takeLink 73 = .ok (.dup, 1) := by decide +kernel
theorem dX2_takeLink_74 : decode cX2_takeLink 74 = .ok (.getfield 40, 3) := by decide +kernel
theorem dX2_takeLink_77 : decode cX2_takeLink 77 = .ok (.iconst 1, 1) := by decide +kernel
theorem dX2_takeLink_78 : decode cX2_takeLink 78 = .ok (.iadd, 1) := by decide +kernel
theorem dX2_takeLink_79 : decode cX2_takeLink 79 = .ok (.putfield 40, 3) := by decide +kernel
theorem dX2_takeLink_82 : decode cX2_takeLink 82 = .ok (.iconst 1, 1) := by decide +kernel
theorem dX2_takeLink_83 : decode cX2_takeLink 83 = .ok (.ireturn, 1) := by decide +kernel
theorem dX2_takeClash_0 : decode cX2_takeClash 0 = .ok (.aload_n 0, 1) := by decide +kernel
theorem dX2_takeClash_1 : decode cX2_takeClash 1 = .ok (.iload_n 1, 1) := by decide +kernel
theorem dX2_takeClash_2 : decode cX2_takeClash 2 = .ok (.invokevirtual 113, 3) := by decide +kernel
theorem dX2_takeClash_5 : decode cX2_takeClash 5 = .ok (.ifCond .eq 16, 3) := by decide +kernel
theorem dX2_takeClash_8 : decode cX2_takeClash 8 = .ok (.aload_n 0, 1) := by decide +kernel
theorem dX2_takeClash_9 : decode cX2_takeClash 9 = .ok (.iload_n 2, 1) := by decide +kernel
theorem dX2_takeClash_10 : decode cX2_takeClash 10 = .ok (.invokevirtual 113, 3) := by decide +kernel
theorem dX2_takeClash_13 : decode cX2_takeClash 13 = .ok (.ifCond .eq 8, 3) := by decide +kernel
theorem dX2_takeClash_16 : decode cX2_takeClash 16 = .ok (.iload_n 1, 1) := by decide +kernel
theorem dX2_takeClash_17 : decode cX2_takeClash 17 = .ok (.iload_n 2, 1) := by decide +kernel
theorem dX2_takeClash_18 : decode cX2_takeClash 18 = .ok (.if_icmp .ne 5, 3) := by decide +kernel
theorem dX2_takeClash_21 : decode cX2_takeClash 21 = .ok (.iconst 0, 1) := by decide +kernel
theorem dX2_takeClash_22 : decode cX2_takeClash 22 = .ok (.ireturn, 1) := by decide +kernel
theorem dX2_takeClash_23 : decode cX2_takeClash 23 = .ok (.aload_n 0, 1) := by decide +kernel
theorem dX2_takeClash_24 : decode cX2_takeClash 24 = .ok (.iload_n 1, 1) := by decide +kernel
theorem dX2_takeClash_25 : decode cX2_takeClash 25 = .ok (.iload_n 2, 1) := by decide +kernel
theorem dX2_takeClash_26 : decode cX2_takeClash 26 = .ok (.invokevirtual 116, 3) := by decide +kernel
theorem dX2_takeClash_29 : decode cX2_takeClash 29 = .ok (.ifCond .ne 9, 3) := by decide +kernel
theorem dX2_takeClash_32 : decode cX2_takeClash 32 = .ok (.aload_n 0, 1) := by decide +kernel
theorem dX2_takeClash_33 : decode cX2_takeClash 33 = .ok (.iload_n 1, 1) := by decide +kernel
theorem dX2_takeClash_34 : decode cX2_takeClash 34 = .ok (.iload_n 2, 1) := by decide +kernel
theorem dX2_takeClash_35 : decode cX2_takeClash 35 = .ok (.invokevirtual 119, 3) := by decide +kernel
theorem dX2_takeClash_38 : decode cX2_takeClash 38 = .ok (.iconst 1, 1) := by decide +kernel
theorem dX2_takeClash_39 : decode cX2_takeClash 39 = .ok (.ireturn, 1) := by decide +kernel
theorem dX2_takeFeed_0 : decode cX2_takeFeed 0 = .ok (.aload_n 0, 1) := by decide +kernel
theorem dX2_takeFeed_1 : decode cX2_takeFeed 1 = .ok (.iload_n 1, 1) := by decide +kernel
theorem dX2_takeFeed_2 : decode cX2_takeFeed 2 = .ok (.iload_n 2, 1) := by decide +kernel
theorem dX2_takeFeed_3 : decode cX2_takeFeed 3 = .ok (.invokevirtual 123, 3) := by decide +kernel
theorem dX2_takeFeed_6 : decode cX2_takeFeed 6 = .ok (.ifCond .eq 13, 3) := by decide +kernel
theorem dX2_takeFeed_9 : decode cX2_takeFeed 9 = .ok (.iload_n 3, 1) := by decide +kernel
theorem dX2_takeFeed_10 : decode cX2_takeFeed 10 = .ok (.iconst 0, 1) := by decide +kernel
theorem dX2_takeFeed_11 : decode cX2_takeFeed 11 = .ok (.bipush 9, 2) := by decide +kernel
theorem dX2_takeFeed_13 : decode cX2_takeFeed 13 = .ok (.invokestatic 110, 3) := by decide +kernel
theorem dX2_takeFeed_16 : decode cX2_takeFeed 16 = .ok (.ifCond .ne 5, 3) := by decide +kernel
theorem dX2_takeFeed_19 : decode cX2_takeFeed 19 = .ok (.iconst 0, 1) := by decide +kernel
theorem dX2_takeFeed_20 : decode cX2_takeFeed 20 = .ok (.ireturn, 1) := by decide +kernel
theorem dX2_takeFeed_21 : decode cX2_takeFeed 21 = .ok (.aload_n 0, 1) := by decide +kernel
theorem dX2_takeFeed_22 : decode cX2_takeFeed 22 = .ok (.getfield 27, 3) := by decide +kernel
theorem dX2_takeFeed_25 : decode cX2_takeFeed 25 = .ok (.iload_n 1, 1) := by decide +kernel
theorem dX2_takeFeed_26 : decode cX2_takeFeed 26 = .ok (.iload_n 2, 1) := by decide +kernel
theorem dX2_takeFeed_27 : decode cX2_takeFeed 27 = .ok (.invokestatic 97, 3) := by decide +kernel
theorem dX2_takeFeed_30 : decode cX2_takeFeed 30 = .ok (.iload_n 3, 1) := by decide +kernel
theorem dX2_takeFeed_31 : decode cX2_takeFeed 31 = .ok (.iastore, 1) := by decide +kernel
theorem dX2_takeFeed_32 : decode cX2_takeFeed 32 = .ok (.iconst 1, 1) := by decide +kernel
theorem dX2_takeFeed_33 : decode cX2_takeFeed 33 = .ok (.ireturn, 1) := by decide +kernel
theorem dX2_takeB_0 : decode cX2_takeB 0 = .ok (.iload_n 1, 1) := by decide +kernel
theorem dX2_takeB_1 : decode cX2_takeB 1 = .ok (.iconst 0, 1) := by decide +kernel
theorem dX2_takeB_2 : decode cX2_takeB 2 = .ok (.bipush 9, 2) := by decide +kernel
theorem dX2_takeB_4 : decode cX2_takeB 4 = .ok (.invokestatic 110, 3) := by decide +kernel
theorem dX2_takeB_7 : decode cX2_takeB 7 = .ok (.ifCond .ne 5, 3) := by decide +kernel
theorem dX2_takeB_10 : decode cX2_takeB 10 = .ok (.iconst 0, 1) := by decide +kernel
theorem dX2_takeB_11 : decode cX2_takeB 11 = .ok (.ireturn, 1) := by decide +kernel
theorem dX2_takeB_12 : decode cX2_takeB 12 = .ok (.aload_n 0, 1) := by decide +kernel
theorem dX2_takeB_13 : decode cX2_takeB 13 = .ok (.iload_n 1, 1) := by decide +kernel
theorem dX2_takeB_14 : decode cX2_takeB 14 = .ok (.putfield 46, 3) := by decide +kernel
theorem dX2_takeB_17 : decode cX2_takeB 17 = .ok (.iconst 1, 1) := by decide +kernel
theorem dX2_takeB_18 : decode cX2_takeB 18 = .ok (.ireturn, 1) := by decide +kernel
theorem dX2_takeLaw_0 : decode cX2_takeLaw 0 = .ok (.iload_n 1, 1) := by decide +kernel
theorem dX2_takeLaw_1 : decode cX2_takeLaw 1 = .ok (.iconst 0, 1) := by decide +kernel
theorem dX2_takeLaw_2 : decode cX2_takeLaw 2 = .ok (.iconst 1, 1) := by decide +kernel
theorem dX2_takeLaw_3 : decode cX2_takeLaw 3 = .ok (.invokestatic 110, 3) := by decide +kernel
theorem dX2_takeLaw_6 : decode cX2_takeLaw 6 = .ok (.ifCond .ne 5, 3) := by decide +kernel
theorem dX2_takeLaw_9 : decode cX2_takeLaw 9 = .ok (.iconst 0, 1) := by decide +kernel
theorem dX2_takeLaw_10 : decode cX2_takeLaw 10 = .ok (.ireturn, 1) := by decide +kernel
theorem dX2_takeLaw_11 : decode cX2_takeLaw 11 = .ok (.aload_n 0, 1) := by decide +kernel
theorem dX2_takeLaw_12 : decode cX2_takeLaw 12 = .ok (.iload_n 1, 1) := by decide +kernel
theorem dX2_takeLaw_13 : decode cX2_takeLaw 13 = .ok (.putfield 43, 3) := by decide +kernel
theorem dX2_takeLaw_16 : decode cX2_takeLaw 16 = .ok (.iconst 1, 1) := by decide +kernel
theorem dX2_takeLaw_17 : decode cX2_takeLaw 17 = .ok (.ireturn, 1) := by decide +kernel
theorem dX3_weigh_0 : decode cX3_weigh 0 = .ok (.iconst 0, 1) := by decide +kernel
theorem dX3_weigh_1 : decode cX3_weigh 1 = .ok (.istore_n 2, 1) := by decide +kernel
theorem dX3_weigh_2 : decode cX3_weigh 2 = .ok (.iload_n 2, 1) := by decide +kernel
theorem dX3_weigh_3 : decode cX3_weigh 3 = .ok (.aload_n 1, 1) := by decide +kernel
theorem dX3_weigh_4 : decode cX3_weigh 4 = .ok (.getfield 18, 3) := by decide +kernel
theorem dX3_weigh_7 : decode cX3_weigh 7 = .ok (.getfield 24, 3) := by decide +kernel
theorem dX3_weigh_10 : decode cX3_weigh 10 = .ok (.if_icmp .ge 54, 3) := by decide +kernel
theorem dX3_weigh_13 : decode cX3_weigh 13 = .ok (.aload_n 1, 1) := by decide +kernel
theorem dX3_weigh_14 : decode cX3_weigh 14 = .ok (.iload_n 2, 1) := by decide +kernel
theorem dX3_weigh_15 : decode cX3_weigh 15 = .ok (.invokestatic 30, 3) := by decide +kernel
theorem dX3_weigh_18 : decode cX3_weigh 18 = .ok (.istore_n 3, 1) := by decide +kernel
theorem dX3_weigh_19 : decode cX3_weigh 19 = .ok (.aload_n 0, 1) := by decide +kernel
theorem dX3_weigh_20 : decode cX3_weigh 20 = .ok (.getfield 9, 3) := by decide +kernel
theorem dX3_weigh_23 : decode cX3_weigh 23 = .ok (.iload_n 2, 1) := by decide +kernel
theorem dX3_weigh_24 : decode cX3_weigh 24 = .ok (.iload_n 3, 1) := by decide +kernel
theorem dX3_weigh_25 : decode cX3_weigh 25 = .ok (.iastore, 1) := by decide +kernel
theorem dX3_weigh_26 : decode cX3_weigh 26 = .ok (.aload_n 0, 1) := by decide +kernel
theorem dX3_weigh_27 : decode cX3_weigh 27 = .ok (.getfield 15, 3) := by decide +kernel
theorem dX3_weigh_30 : decode cX3_weigh 30 = .ok (.iload_n 2, 1) := by decide +kernel
theorem dX3_weigh_31 : decode cX3_weigh 31 = .ok (.iload_n 3, 1) := by decide +kernel
theorem dX3_weigh_32 : decode cX3_weigh 32 = .ok (.bipush (-4), 2) := by decide +kernel
theorem dX3_weigh_34 : decode cX3_weigh 34 = .ok (.if_icmp .ne 7, 3) := by decide +kernel
theorem dX3_weigh_37 : decode cX3_weigh 37 = .ok (.iconst 0, 1) := by decide +kernel
theorem dX3_weigh_38 : decode cX3_weigh 38 = .ok (.goto 19, 3) := by decide +kernel
theorem dX3_weigh_41 : decode cX3_weigh 41 = .ok (.aload_n 1, 1) := by decide +kernel
theorem dX3_weigh_42 : decode cX3_weigh 42 = .ok (.getfield 18, 3) := by decide +kernel
theorem dX3_weigh_45 : decode cX3_weigh 45 = .ok (.getfield 34, 3) := by decide +kernel
theorem dX3_weigh_48 : decode cX3_weigh 48 = .ok (.iload_n 2, 1) := by decide +kernel
theorem dX3_weigh_49 : decode cX3_weigh 49 = .ok (.iaload, 1) := by decide +kernel
theorem dX3_weigh_50 : decode cX3_weigh 50 = .ok (.aload_n 1, 1) := by decide +kernel
theorem dX3_weigh_51 : decode cX3_weigh 51 = .ok (.iload_n 2, 1) := by decide +kernel
theorem dX3_weigh_52 : decode cX3_weigh 52 = .ok (.iload_n 3, 1) := by decide +kernel
theorem dX3_weigh_53 : decode cX3_weigh 53 = .ok (.invokevirtual 37, 3) := by decide +kernel
theorem dX3_weigh_56 : decode cX3_weigh 56 = .ok (.imul, 1) := by decide +kernel
theorem dX3_weigh_57 : decode cX3_weigh 57 = .ok (.iastore, 1) := by decide +kernel
theorem dX3_weigh_58 : decode cX3_weigh 58 = .ok (.iinc 2 1, 3) := by decide +kernel
theorem dX3_weigh_61 : decode cX3_weigh 61 = .ok (.goto (-59), 3) := by decide +kernel
theorem dX3_weigh_64 : decode cX3_weigh 64 = .ok (.return_, 1) := by decide +kernel
theorem dX3_pick_0 : decode cX3_pick 0 = .ok (.iconst 0, 1) := by decide +kernel
theorem dX3_pick_1 : decode cX3_pick 1 = .ok (.istore_n 3, 1) := by decide +kernel
theorem dX3_pick_2 : decode cX3_pick 2 = .ok (.iconst 0, 1) := by decide +kernel
theorem dX3_pick_3 : decode cX3_pick 3 = .ok (.istore 4, 2) := by decide +kernel
theorem dX3_pick_5 : decode cX3_pick 5 = .ok (.iload 4, 2) := by decide +kernel
theorem dX3_pick_7 : decode cX3_pick 7 = .ok (.aload_n 1, 1) := by decide +kernel
theorem dX3_pick_8 : decode cX3_pick 8 = .ok (.getfield 24, 3) := by decide +kernel
theorem dX3_pick_11 : decode cX3_pick 11 = .ok (.if_icmp .ge 28, 3) := by decide +kernel
theorem dX3_pick_14 : decode cX3_pick 14 = .ok (.aload_n 0, 1) := by decide +kernel
theorem dX3_pick_15 : decode cX3_pick 15 = .ok (.getfield 9, 3) := by decide +kernel
theorem dX3_pick_18 : decode cX3_pick 18 = .ok (.iload 4, 2) := by decide +kernel
theorem dX3_pick_20 : decode cX3_pick 20 = .ok (.iaload, 1) := by decide +kernel
theorem dX3_pick_21 : decode cX3_pick 21 = .ok (.bipush (-4), 2) := by decide +kernel
theorem dX3_pick_23 : decode cX3_pick 23 = .ok (.if_icmp .eq 10, 3) := by decide +kernel
theorem dX3_pick_26 : decode cX3_pick 26 = .ok (.iload_n 3, 1) := by decide +kernel
theorem dX3_pick_27 : decode cX3_pick 27 = .ok (.iconst 1, 1) := by decide +kernel
theorem dX3_pick_28 : decode cX3_pick 28 = .ok (.iload 4, 2) := by decide +kernel
theorem dX3_pick_30 : decode cX3_pick 30 = .ok (.ishl, 1) := by decide +kernel
theorem dX3_pick_31 : decode cX3_pick 31 = .ok (.ior, 1) := by decide +kernel
theorem dX3_pick_32 : decode cX3_pick 32 = .ok (.istore_n 3, 1) := by decide +kernel
theorem dX3_pick_33 : decode cX3_pick 33 = .ok (.iinc 4 1, 3) := by decide +kernel
theorem dX3_pick_36 : decode cX3_pick 36 = .ok (.goto (-31), 3) := by decide +kernel
theorem dX3_pick_39 : decode cX3_pick 39 = .ok (.aload_n 0, 1) := by decide +kernel
theorem dX3_pick_40 : decode cX3_pick 40 = .ok (.iconst 0, 1) := by decide +kernel
theorem dX3_pick_41 : decode cX3_pick 41 = .ok (.putfield 41, 3) := by decide +kernel
theorem dX3_pick_44 : decode cX3_pick 44 = .ok (.aload_n 0, 1) := by decide +kernel
theorem dX3_pick_45 : decode cX3_pick 45 = .ok (.iconst 0, 1) := by decide +kernel
theorem dX3_pick_46 : decode cX3_pick 46 = .ok (.putfield 44, 3) := by decide +kernel
theorem dX3_pick_49 : decode cX3_pick 49 = .ok (.aload_n 0, 1) := by decide +kernel
theorem dX3_pick_50 : decode cX3_pick 50 = .ok (.aload_n 1, 1) := by decide +kernel
theorem dX3_pick_51 : decode cX3_pick 51 = .ok (.iconst 0, 1) := by decide +kernel
theorem dX3_pick_52 : decode cX3_pick 52 = .ok (.iload_n 3, 1) := by decide +kernel
theorem dX3_pick_53 : decode cX3_pick 53 = .ok (.iload_n 2, 1) := by decide +kernel
theorem dX3_pick_54 : decode cX3_pick 54 = .ok (.iconst (-1), 1) := by decide +kernel
theorem dX3_pick_55 : decode cX3_pick 55 = .ok (.ixor, 1) := by decide +kernel
theorem dX3_pick_56 : decode cX3_pick 56 = .ok (.iand, 1) := by decide +kernel
theorem dX3_pick_57 : decode cX3_pick 57 = .ok (.iconst 0, 1) := by decide +kernel
theorem dX3_pick_58 : decode cX3_pick 58 = .ok (.iconst 0, 1) := by decide +kernel
theorem dX3_pick_59 : decode cX3_pick 59 = .ok (.invokestatic 47, 3) := by decide +kernel
theorem dX3_pick_62 : decode cX3_pick 62 = .ok (.return_, 1) := by decide +kernel
theorem dX3_choiceOf_0 : decode cX3_choiceOf 0 = .ok (.bipush (-4), 2) := by decide +kernel
theorem dX3_choiceOf_2 : decode cX3_choiceOf 2 = .ok (.istore_n 2, 1) := by decide +kernel
theorem dX3_choiceOf_3 : decode cX3_choiceOf 3 = .ok (.iconst 0, 1) := by decide +kernel
theorem dX3_choiceOf_4 : decode cX3_choiceOf 4 = .ok (.istore_n 3, 1) := by decide +kernel
theorem dX3_choiceOf_5 : decode cX3_choiceOf 5 = .ok (.iconst 0, 1) := by decide +kernel
theorem dX3_choiceOf_6 : decode cX3_choiceOf 6 = .ok (.istore 4, 2) := by decide +kernel
theorem dX3_choiceOf_8 : decode cX3_choiceOf 8 = .ok (.iload 4, 2) := by decide +kernel
theorem dX3_choiceOf_10 : decode cX3_choiceOf 10 = .ok (.aload_n 0, 1) := by decide +kernel
theorem dX3_choiceOf_11 : decode cX3_choiceOf 11 = .ok (.getfield 18, 3) := by decide +kernel
theorem dX3_choiceOf_14 : decode cX3_choiceOf 14 = .ok (.getfield 51, 3) := by decide +kernel
theorem dX3_choiceOf_17 : decode cX3_choiceOf 17 = .ok (.if_icmp .ge 56, 3) := by decide +kernel
theorem dX3_choiceOf_20 : decode cX3_choiceOf 20 = .ok (.aload_n 0, 1) := by decide +kernel
theorem dX3_choiceOf_21 : decode cX3_choiceOf 21 = .ok (.getfield 54, 3) := by decide +kernel
theorem dX3_choiceOf_24 : decode cX3_choiceOf 24 = .ok (.getfield 58, 3) := by decide +kernel
theorem dX3_choiceOf_27 : decode cX3_choiceOf 27 = .ok (.aload_n 0, 1) := by decide +kernel
theorem dX3_choiceOf_28 : decode cX3_choiceOf 28 = .ok (.getfield 18, 3) := by decide +kernel
theorem dX3_choiceOf_31 : decode cX3_choiceOf 31 = .ok (.getfield 63, 3) := by decide +kernel
theorem dX3_choiceOf_34 : decode cX3_choiceOf 34 = .ok (.iload_n 1, 1) := by decide +kernel
theorem dX3_choiceOf_35 : decode cX3_choiceOf 35 = .ok (.iaload, 1) := by decide +kernel
theorem dX3_choiceOf_36 : decode cX3_choiceOf 36 = .ok (.iload 4, 2) := by decide +kernel
theorem dX3_choiceOf_38 : decode cX3_choiceOf 38 = .ok (.invokestatic 66, 3) := by decide +kernel
theorem dX3_choiceOf_41 : decode cX3_choiceOf 41 = .ok (.iaload, 1) := by decide +kernel
theorem dX3_choiceOf_42 : decode cX3_choiceOf 42 = .ok (.ifCond .le 25, 3) := by decide +kernel
theorem dX3_choiceOf_45 : decode cX3_choiceOf 45 = .ok (.aload_n 0, 1) := by decide +kernel
theorem dX3_choiceOf_46 : decode cX3_choiceOf 46 = .ok (.iload_n 1, 1) := by decide +kernel
theorem dX3_choiceOf_47 : decode cX3_choiceOf 47 = .ok (.iload 4, 2) := by decide +kernel
theorem dX3_choiceOf_49 : decode cX3_choiceOf 49 = .ok (.invokevirtual 37, 3) := by decide +kernel
theorem dX3_choiceOf_52 : decode cX3_choiceOf 52 = .ok (.iload_n 3, 1) := by decide +kernel
theorem dX3_choiceOf_53 : decode cX3_choiceOf 53 = .ok (.if_icmp .le 14, 3) := by decide +kernel
theorem dX3_choiceOf_56 : decode cX3_choiceOf 56 = .ok (.iload 4, 2) := by decide +kernel
theorem dX3_choiceOf_58 : decode cX3_choiceOf 58 = .ok (.istore_n 2, 1) := by decide +kernel
theorem dX3_choiceOf_59 : decode cX3_choiceOf 59 = .ok (.aload_n 0, 1) := by decide +kernel
theorem dX3_choiceOf_60 : decode cX3_choiceOf 60 = .ok (.iload_n 1, 1) := by decide +kernel
theorem dX3_choiceOf_61 : decode cX3_choiceOf 61 = .ok (.iload 4, 2) := by decide +kernel
theorem dX3_choiceOf_63 : decode cX3_choiceOf 63 = .ok (.invokevirtual 37, 3) := by decide +kernel
theorem dX3_choiceOf_66 : decode cX3_choiceOf 66 = .ok (.istore_n 3, 1) := by decide +kernel
theorem dX3_choiceOf_67 : decode cX3_choiceOf 67 = .ok (.iinc 4 1, 3) := by decide +kernel
theorem dX3_choiceOf_70 : decode cX3_choiceOf 70 = .ok (.goto (-62), 3) := by decide +kernel
theorem dX3_choiceOf_73 : decode cX3_choiceOf 73 = .ok (.iload_n 2, 1) := by decide +kernel
theorem dX3_choiceOf_74 : decode cX3_choiceOf 74 = .ok (.ireturn, 1) := by decide +kernel
theorem dX3_search_0 : decode cX3_search 0 = .ok (.iload 5, 2) := by decide +kernel
theorem dX3_search_2 : decode cX3_search 2 = .ok (.aload_n 0, 1) := by decide +kernel
theorem dX3_search_3 : decode cX3_search 3 = .ok (.iload_n 3, 1) := by decide +kernel
theorem dX3_search_4 : decode cX3_search 4 = .ok (.invokevirtual 69, 3) := by decide +kernel
theorem dX3_search_7 : decode cX3_search 7 = .ok (.iadd, 1) := by decide +kernel
theorem dX3_search_8 : decode cX3_search 8 = .ok (.aload_n 0, 1) := by decide +kernel
theorem dX3_search_9 : decode cX3_search 9 = .ok (.getfield 44, 3) := by decide +kernel
theorem dX3_search_12 : decode cX3_search 12 = .ok (.if_icmp .ge 4, 3) := by decide +kernel
theorem dX3_search_15 : decode cX3_search 15 = .ok (.return_, 1) := by decide +kernel
theorem dX3_search_16 : decode cX3_search 16 = .ok (.iload_n 2, 1) := by decide +kernel
theorem dX3_search_17 : decode cX3_search 17 = .ok (.aload_n 1, 1) := by decide +kernel
theorem dX3_search_18 : decode cX3_search 18 = .ok (.getfield 24, 3) := by decide +kernel
theorem dX3_search_21 : decode cX3_search 21 = .ok (.if_icmp .ge 9, 3) := by decide +kernel
theorem dX3_search_24 : decode cX3_search 24 = .ok (.iload_n 2, 1) := by decide +kernel
theorem dX3_search_25 : decode cX3_search 25 = .ok (.bipush 10, 2) := by decide +kernel
theorem dX3_search_27 : decode cX3_search 27 = .ok (.if_icmp .lt 12, 3) := by decide +kernel
theorem dX3_search_30 : decode cX3_search 30 = .ok (.aload_n 0, 1) := by decide +kernel
theorem dX3_search_31 : decode cX3_search 31 = .ok (.iload 4, 2) := by decide +kernel
theorem dX3_search_33 : decode cX3_search 33 = .ok (.iload 5, 2) := by decide +kernel
theorem dX3_search_35 : decode cX3_search 35 = .ok (.invokevirtual 73, 3) := by decide +kernel
theorem dX3_search_38 : decode cX3_search 38 = .ok (.return_, 1) := by decide +kernel
theorem dX3_search_39 : decode cX3_search 39 = .ok (.iconst 1, 1) := by decide +kernel
theorem dX3_search_40 : decode cX3_search 40 = .ok (.iload_n 2, 1) := by decide +kernel
theorem dX3_search_41 : decode cX3_search 41 = .ok (.ishl, 1) := by decide +kernel
theorem dX3_search_42 : decode cX3_search 42 = .ok (.istore 6, 2) := by decide +kernel
theorem dX3_search_44 : decode cX3_search 44 = .ok (.iload_n 3, 1) := by decide +kernel
theorem dX3_search_45 : decode cX3_search 45 = .ok (.iload 6, 2) := by decide +kernel
theorem dX3_search_47 : decode cX3_search 47 = .ok (.iconst (-1), 1) := by decide +kernel
theorem dX3_search_48 : decode cX3_search 48 = .ok (.ixor, 1) := by decide +kernel
theorem dX3_search_49 : decode cX3_search 49 = .ok (.iand, 1) := by decide +kernel
theorem dX3_search_50 : decode cX3_search 50 = .ok (.istore 7, 2) := by decide +kernel
theorem dX3_search_52 : decode cX3_search 52 = .ok (.iload 7, 2) := by decide +kernel
theorem dX3_search_54 : decode cX3_search 54 = .ok (.iload_n 3, 1) := by decide +kernel
theorem dX3_search_55 : decode cX3_search 55 = .ok (.if_icmp .eq 7, 3) := by decide +kernel
theorem dX3_search_58 : decode cX3_search 58 = .ok (.iconst 1, 1) := by decide +kernel
theorem dX3_search_59 : decode cX3_search 59 = .ok (.goto 4, 3) := by decide +kernel
theorem dX3_search_62 : decode cX3_search 62 = .ok (.iconst 0, 1) := by decide +kernel
theorem dX3_search_63 : decode cX3_search 63 = .ok (.istore 8, 2) := by decide +kernel
theorem dX3_search_65 : decode cX3_search 65 = .ok (.iload 8, 2) := by decide +kernel
theorem dX3_search_67 : decode cX3_search 67 = .ok (.ifCond .eq 36, 3) := by decide +kernel
theorem dX3_search_70 : decode cX3_search 70 = .ok (.aload_n 0, 1) := by decide +kernel
theorem dX3_search_71 : decode cX3_search 71 = .ok (.aload_n 1, 1) := by decide +kernel
theorem dX3_search_72 : decode cX3_search 72 = .ok (.iload_n 2, 1) := by decide +kernel
theorem dX3_search_73 : decode cX3_search 73 = .ok (.iconst 1, 1) := by decide +kernel
theorem dX3_search_74 : decode cX3_search 74 = .ok (.iadd, 1) := by decide +kernel
theorem dX3_search_75 : decode cX3_search 75 = .ok (.iload 7, 2) := by decide +kernel
theorem dX3_search_77 : decode cX3_search 77 = .ok (.aload_n 1, 1) := by decide +kernel
theorem dX3_search_78 : decode cX3_search 78 = .ok (.getfield 77, 3) := by decide +kernel
theorem dX3_search_81 : decode cX3_search 81 = .ok (.iload_n 2, 1) := by decide +kernel
theorem dX3_search_82 : decode cX3_search 82 = .ok (.iaload, 1) := by decide +kernel
theorem dX3_search_83 : decode cX3_search 83 = .ok (.iconst (-1), 1) := by decide +kernel
theorem dX3_search_84 : decode cX3_search 84 = .ok (.ixor, 1) := by decide +kernel
theorem dX3_search_85 : decode cX3_search 85 = .ok (.iand, 1) := by decide +kernel
theorem dX3_search_86 : decode cX3_search 86 = .ok (.iload 4, 2) := by decide +kernel
theorem dX3_search_88 : decode cX3_search 88 = .ok (.iload 6, 2) := by decide +kernel
theorem dX3_search_90 : decode cX3_search 90 = .ok (.ior, 1) := by decide +kernel
theorem dX3_search_91 : decode cX3_search 91 = .ok (.iload 5, 2) := by decide +kernel
theorem dX3_search_93 : decode cX3_search 93 = .ok (.aload_n 0, 1) := by decide +kernel
theorem dX3_search_94 : decode cX3_search 94 = .ok (.getfield 15, 3) := by decide +kernel
theorem dX3_search_97 : decode cX3_search 97 = .ok (.iload_n 2, 1) := by decide +kernel
theorem dX3_search_98 : decode cX3_search 98 = .ok (.iaload, 1) := by decide +kernel
theorem dX3_search_99 : decode cX3_search 99 = .ok (.iadd, 1) := by decide +kernel
theorem dX3_search_100 : decode cX3_search 100 = .ok (.invokestatic 47, 3) := by decide +kernel
theorem dX3_search_103 : decode cX3_search 103 = .ok (.iload 8, 2) := by decide +kernel
theorem dX3_search_105 : decode cX3_search 105 = .ok (.ifCond .eq 15, 3) := by decide +kernel
theorem dX3_search_108 : decode cX3_search 108 = .ok (.iload 7, 2) := by decide +kernel
theorem dX3_search_110 : decode cX3_search 110 = .ok (.aload_n 1, 1) := by decide +kernel
theorem dX3_search_111 : decode cX3_search 111 = .ok (.getfield 77, 3) := by decide +kernel
theorem dX3_search_114 : decode cX3_search 114 = .ok (.iload_n 2, 1) := by decide +kernel
theorem dX3_search_115 : decode cX3_search 115 = .ok (.iaload, 1) := by decide +kernel
theorem dX3_search_116 : decode cX3_search 116 = .ok (.iand, 1) := by decide +kernel
theorem dX3_search_117 : decode cX3_search 117 = .ok (.ifCond .eq 17, 3) := by decide +kernel
theorem dX3_search_120 : decode cX3_search 120 = .ok (.aload_n 0, 1) := by decide +kernel
theorem dX3_search_121 : decode cX3_search 121 = .ok (.aload_n 1, 1) := by decide +kernel
theorem dX3_search_122 : decode cX3_search 122 = .ok (.iload_n 2, 1) := by decide +kernel
theorem dX3_search_123 : decode cX3_search 123 = .ok (.iconst 1, 1) := by decide +kernel
theorem dX3_search_124 : decode cX3_search 124 = .ok (.iadd, 1) := by decide +kernel
theorem dX3_search_125 : decode cX3_search 125 = .ok (.iload 7, 2) := by decide +kernel
theorem dX3_search_127 : decode cX3_search 127 = .ok (.iload 4, 2) := by decide +kernel
theorem dX3_search_129 : decode cX3_search 129 = .ok (.iload 5, 2) := by decide +kernel
theorem dX3_search_131 : decode cX3_search 131 = .ok (.invokestatic 47, 3) := by decide +kernel
theorem dX3_search_134 : decode cX3_search 134 = .ok (.return_, 1) := by decide +kernel
theorem dX3_weightOf_0 : decode cX3_weightOf 0 = .ok (.iconst 0, 1) := by decide +kernel
theorem dX3_weightOf_1 : decode cX3_weightOf 1 = .ok (.istore_n 2, 1) := by decide +kernel
theorem dX3_weightOf_2 : decode cX3_weightOf 2 = .ok (.iconst 0, 1) := by decide +kernel
theorem dX3_weightOf_3 : decode cX3_weightOf 3 = .ok (.istore_n 3, 1) := by decide +kernel
theorem dX3_weightOf_4 : decode cX3_weightOf 4 = .ok (.iload_n 3, 1) := by decide +kernel
theorem dX3_weightOf_5 : decode cX3_weightOf 5 = .ok (.bipush 10, 2) := by decide +kernel
theorem dX3_weightOf_7 : decode cX3_weightOf 7 = .ok (.if_icmp .ge 27, 3) := by decide +kernel
theorem dX3_weightOf_10 : decode cX3_weightOf 10 = .ok (.iload_n 1, 1) := by decide +kernel
theorem dX3_weightOf_11 : decode cX3_weightOf 11 = .ok (.iload_n 3, 1) := by decide +kernel
theorem dX3_weightOf_12 : decode cX3_weightOf 12 = .ok (.ishr, 1) := by decide +kernel
theorem dX3_weightOf_13 : decode cX3_weightOf 13 = .ok (.iconst 1, 1) := by decide +kernel
theorem dX3_weightOf_14 : decode cX3_weightOf 14 = .ok (.iand, 1) := by decide +kernel
theorem dX3_weightOf_15 : decode cX3_weightOf 15 = .ok (.iconst 1, 1) := by decide +kernel
theorem dX3_weightOf_16 : decode cX3_weightOf 16 = .ok (.if_icmp .ne 12, 3) := by decide +kernel
theorem dX3_weightOf_19 : decode cX3_weightOf 19 = .ok (.iload_n 2, 1) := by decide +kernel
theorem dX3_weightOf_20 : decode cX3_weightOf 20 = .ok (.aload_n 0, 1) := by decide +kernel
theorem dX3_weightOf_21 : decode cX3_weightOf 21 = .ok (.getfield 15, 3) := by decide +kernel
theorem dX3_weightOf_24 : decode cX3_weightOf 24 = .ok (.iload_n 3, 1) := by decide +kernel
theorem dX3_weightOf_25 : decode cX3_weightOf 25 = .ok (.iaload, 1) := by decide +kernel
theorem dX3_weightOf_26 : decode cX3_weightOf 26 = .ok (.iadd, 1) := by decide +kernel
theorem dX3_weightOf_27 : decode cX3_weightOf 27 = .ok (.istore_n 2, 1) := by decide +kernel
theorem dX3_weightOf_28 : decode cX3_weightOf 28 = .ok (.iinc 3 1, 3) := by decide +kernel
theorem dX3_weightOf_31 : decode cX3_weightOf 31 = .ok (.goto (-27), 3) := by decide +kernel
theorem dX3_weightOf_34 : decode cX3_weightOf 34 = .ok (.iload_n 2, 1) := by decide +kernel
theorem dX3_weightOf_35 : decode cX3_weightOf 35 = .ok (.ireturn, 1) := by decide +kernel
theorem dX3_offer_0 : decode cX3_offer 0 = .ok (.iload_n 2, 1) := by decide +kernel
theorem dX3_offer_1 : decode cX3_offer 1 = .ok (.aload_n 0, 1) := by decide +kernel
theorem dX3_offer_2 : decode cX3_offer 2 = .ok (.getfield 44, 3) := by decide +kernel
theorem dX3_offer_5 : decode cX3_offer 5 = .ok (.if_icmp .gt 22, 3) := by decide +kernel
theorem dX3_offer_8 : decode cX3_offer 8 = .ok (.iload_n 2, 1) := by decide +kernel
theorem dX3_offer_9 : decode cX3_offer 9 = .ok (.aload_n 0, 1) := by decide +kernel
theorem dX3_offer_10 : decode cX3_offer 10 = .ok (.getfield 44, 3) := by decide +kernel
theorem dX3_offer_13 : decode cX3_offer 13 = .ok (.if_icmp .ne 24, 3) := by decide +kernel
theorem dX3_offer_16 : decode cX3_offer 16 = .ok (.iload_n 1, 1) := by decide +kernel
theorem dX3_offer_17 : decode cX3_offer 17 = .ok (.aload_n 0, 1) := by decide +kernel
theorem dX3_offer_18 : decode cX3_offer 18 = .ok (.getfield 41, 3) := by decide +kernel
theorem dX3_offer_21 : decode cX3_offer 21 = .ok (.invokestatic 80, 3) := by decide +kernel
theorem dX3_offer_24 : decode cX3_offer 24 = .ok (.ifCond .eq 13, 3) := by decide +kernel
theorem dX3_offer_27 : decode cX3_offer 27 = .ok (.aload_n 0, 1) := by decide +kernel
theorem dX3_offer_28 : decode cX3_offer 28 = .ok (.iload_n 1, 1) := by decide +kernel
theorem dX3_offer_29 : decode cX3_offer 29 = .ok (.putfield 41, 3) := by decide +kernel
theorem dX3_offer_32 : decode cX3_offer 32 = .ok (.aload_n 0, 1) := by decide +kernel
theorem dX3_offer_33 : decode cX3_offer 33 = .ok (.iload_n 2, 1) := by decide +kernel
theorem dX3_offer_34 : decode cX3_offer 34 = .ok (.putfield 44, 3) := by decide +kernel
theorem dX3_offer_37 : decode cX3_offer 37 = .ok (.return_, 1) := by decide +kernel
theorem dX3_comesAhead_0 : decode cX3_comesAhead 0 = .ok (.iload_n 0, 1) := by decide +kernel
theorem dX3_comesAhead_1 : decode cX3_comesAhead 1 = .ok (.invokestatic 84, 3) := by decide +kernel
theorem dX3_comesAhead_4 : decode cX3_comesAhead 4 = .ok (.iload_n 1, 1) := by decide +kernel
theorem dX3_comesAhead_5 : decode cX3_comesAhead 5 = .ok (.invokestatic 84, 3) := by decide +kernel
theorem dX3_comesAhead_8 : decode cX3_comesAhead 8 = .ok (.isub, 1) := by decide +kernel
theorem dX3_comesAhead_9 : decode cX3_comesAhead 9 = .ok (.istore_n 2, 1) := by decide +kernel
theorem dX3_comesAhead_10 : decode cX3_comesAhead 10 = .ok (.iload_n 2, 1) := by decide +kernel
theorem dX3_comesAhead_11 : decode cX3_comesAhead 11 = .ok (.ifCond .lt 12, 3) := by decide +kernel
theorem dX3_comesAhead_14 : decode cX3_comesAhead 14 = .ok (.iload_n 2, 1) := by decide +kernel
theorem dX3_comesAhead_15 : decode cX3_comesAhead 15 = .ok (.ifCond .ne 12, 3) := by decide +kernel
theorem dX3_comesAhead_18 : decode cX3_comesAhead 18 = .ok (.iload_n 0, 1) := by decide +kernel
theorem dX3_comesAhead_19 : decode cX3_comesAhead 19 = .ok (.iload_n 1, 1) := by decide +kernel
theorem dX3_comesAhead_20 : decode cX3_comesAhead 20 = .ok (.if_icmp .ge 7, 3) := by decide +kernel
theorem dX3_comesAhead_23 : decode cX3_comesAhead 23 = .ok (.iconst 1, 1) := by decide +kernel
theorem dX3_comesAhead_24 : decode cX3_comesAhead 24 = .ok (.goto 4, 3) := by decide +kernel
theorem dX3_comesAhead_27 : decode cX3_comesAhead 27 = .ok (.iconst 0, 1) := by decide +kernel
theorem dX3_comesAhead_28 : decode cX3_comesAhead 28 = .ok (.ireturn, 1) := by decide +kernel
theorem dX4_clear_0 : decode cX4_clear 0 = .ok (.aload_n 0, 1) := by decide +kernel
theorem dX4_clear_1 : decode cX4_clear 1 = .ok (.iconst 0, 1) := by decide +kernel
theorem dX4_clear_2 : decode cX4_clear 2 = .ok (.putfield 30, 3) := by decide +kernel
theorem dX4_clear_5 : decode cX4_clear 5 = .ok (.aload_n 0, 1) := by decide +kernel
theorem dX4_clear_6 : decode cX4_clear 6 = .ok (.iconst 0, 1) := by decide +kernel
theorem dX4_clear_7 : decode cX4_clear 7 = .ok (.putfield 34, 3) := by decide +kernel
theorem dX4_clear_10 : decode cX4_clear 10 = .ok (.aload_n 0, 1) := by decide +kernel
theorem dX4_clear_11 : decode cX4_clear 11 = .ok (.getfield 9, 3) := by decide +kernel
theorem dX4_clear_14 : decode cX4_clear 14 = .ok (.iconst 0, 1) := by decide +kernel
theorem dX4_clear_15 : decode cX4_clear 15 = .ok (.invokestatic 37, 3) := by decide +kernel
theorem dX4_clear_18 : decode cX4_clear 18 = .ok (.aload_n 0, 1) := by decide +kernel
theorem dX4_clear_19 : decode cX4_clear 19 = .ok (.getfield 15, 3) := by decide +kernel
theorem dX4_clear_22 : decode cX4_clear 22 = .ok (.iconst 0, 1) := by decide +kernel
theorem dX4_clear_23 : decode cX4_clear 23 = .ok (.invokestatic 37, 3) := by decide +kernel
theorem dX4_clear_26 : decode cX4_clear 26 = .ok (.aload_n 0, 1) := by decide +kernel
theorem dX4_clear_27 : decode cX4_clear 27 = .ok (.getfield 18, 3) := by decide +kernel
theorem dX4_clear_30 : decode cX4_clear 30 = .ok (.iconst 0, 1) := by decide +kernel
theorem dX4_clear_31 : decode cX4_clear 31 = .ok (.invokestatic 37, 3) := by decide +kernel
theorem dX4_clear_34 : decode cX4_clear 34 = .ok (.aload_n 0, 1) := by decide +kernel
theorem dX4_clear_35 : decode cX4_clear 35 = .ok (.getfield 21, 3) := by decide +kernel
theorem dX4_clear_38 : decode cX4_clear 38 = .ok (.iconst 0, 1) := by decide +kernel
theorem dX4_clear_39 : decode cX4_clear 39 = .ok (.invokestatic 37, 3) := by decide +kernel
theorem dX4_clear_42 : decode cX4_clear 42 = .ok (.aload_n 0, 1) := by decide +kernel
theorem dX4_clear_43 : decode cX4_clear 43 = .ok (.getfield 27, 3) := by decide +kernel
theorem dX4_clear_46 : decode cX4_clear 46 = .ok (.iconst 0, 1) := by decide +kernel
theorem dX4_clear_47 : decode cX4_clear 47 = .ok (.invokestatic 37, 3) := by decide +kernel
theorem dX4_clear_50 : decode cX4_clear 50 = .ok (.return_, 1) := by decide +kernel
theorem dX4_copyFrom_0 : decode cX4_copyFrom 0 = .ok (.aload_n 0, 1) := by decide +kernel
theorem dX4_copyFrom_1 : decode cX4_copyFrom 1 = .ok (.aload_n 1, 1) := by decide +kernel
theorem dX4_copyFrom_2 : decode cX4_copyFrom 2 = .ok (.getfield 30, 3) := by decide +kernel
theorem dX4_copyFrom_5 : decode cX4_copyFrom 5 = .ok (.putfield 30, 3) := by decide +kernel
theorem dX4_copyFrom_8 : decode cX4_copyFrom 8 = .ok (.aload_n 0, 1) := by decide +kernel
theorem dX4_copyFrom_9 : decode cX4_copyFrom 9 = .ok (.aload_n 1, 1) := by decide +kernel
theorem dX4_copyFrom_10 : decode cX4_copyFrom 10 = .ok (.getfield 34, 3) := by decide +kernel
theorem dX4_copyFrom_13 : decode cX4_copyFrom 13 = .ok (.putfield 34, 3) := by decide +kernel
theorem dX4_copyFrom_16 : decode cX4_copyFrom 16 = .ok (.aload_n 1, 1) := by decide +kernel
theorem dX4_copyFrom_17 : decode cX4_copyFrom 17 = .ok (.getfield 9, 3) := by decide +kernel
theorem dX4_copyFrom_20 : decode cX4_copyFrom 20 = .ok (.iconst 0, 1) := by decide +kernel
theorem dX4_copyFrom_21 : decode cX4_copyFrom 21 = .ok (.aload_n 0, 1) := by decide +kernel
theorem dX4_copyFrom_22 : decode cX4_copyFrom 22 = .ok (.getfield 9, 3) := by decide +kernel
theorem dX4_copyFrom_25 : decode cX4_copyFrom 25 = .ok (.iconst 0, 1) := by decide +kernel
theorem dX4_copyFrom_26 : decode cX4_copyFrom 26 = .ok (.iconst 3, 1) := by decide +kernel
theorem dX4_copyFrom_27 : decode cX4_copyFrom 27 = .ok (.invokestatic 43, 3) := by decide +kernel
theorem dX4_copyFrom_30 : decode cX4_copyFrom 30 = .ok (.aload_n 1, 1) := by decide +kernel
theorem dX4_copyFrom_31 : decode cX4_copyFrom 31 = .ok (.getfield 15, 3) := by decide +kernel
theorem dX4_copyFrom_34 : decode cX4_copyFrom 34 = .ok (.iconst 0, 1) := by decide +kernel
theorem dX4_copyFrom_35 : decode cX4_copyFrom 35 = .ok (.aload_n 0, 1) := by decide +kernel
theorem dX4_copyFrom_36 : decode cX4_copyFrom 36 = .ok (.getfield 15, 3) := by decide +kernel
theorem dX4_copyFrom_39 : decode cX4_copyFrom 39 = .ok (.iconst 0, 1) := by decide +kernel
theorem dX4_copyFrom_40 : decode cX4_copyFrom 40 = .ok (.iconst 3, 1) := by decide +kernel
theorem dX4_copyFrom_41 : decode cX4_copyFrom 41 = .ok (.invokestatic 43, 3) := by decide +kernel
theorem dX4_copyFrom_44 : decode cX4_copyFrom 44 = .ok (.aload_n 1, 1) := by decide +kernel
theorem dX4_copyFrom_45 : decode cX4_copyFrom 45 = .ok (.getfield 18, 3) := by decide +kernel
theorem dX4_copyFrom_48 : decode cX4_copyFrom 48 = .ok (.iconst 0, 1) := by decide +kernel
theorem dX4_copyFrom_49 : decode cX4_copyFrom 49 = .ok (.aload_n 0, 1) := by decide +kernel
theorem dX4_copyFrom_50 : decode cX4_copyFrom 50 = .ok (.getfield 18, 3) := by decide +kernel
theorem dX4_copyFrom_53 : decode cX4_copyFrom 53 = .ok (.iconst 0, 1) := by decide +kernel
theorem dX4_copyFrom_54 : decode cX4_copyFrom 54 = .ok (.iconst 3, 1) := by decide +kernel
theorem dX4_copyFrom_55 : decode cX4_copyFrom 55 = .ok (.invokestatic 43, 3) := by decide +kernel
theorem dX4_copyFrom_58 : decode cX4_copyFrom 58 = .ok (.aload_n 1, 1) := by decide +kernel
theorem dX4_copyFrom_59 : decode cX4_copyFrom 59 = .ok (.getfield 21, 3) := by decide +kernel
theorem dX4_copyFrom_62 : decode cX4_copyFrom 62 = .ok (.iconst 0, 1) := by decide +kernel
theorem dX4_copyFrom_63 : decode cX4_copyFrom 63 = .ok (.aload_n 0, 1) := by decide +kernel
theorem dX4_copyFrom_64 : decode cX4_copyFrom 64 = .ok (.getfield 21, 3) := by decide +kernel
theorem dX4_copyFrom_67 : decode cX4_copyFrom 67 = .ok (.iconst 0, 1) := by decide +kernel
theorem dX4_copyFrom_68 : decode cX4_copyFrom 68 = .ok (.bipush 18, 2) := by decide +kernel
theorem dX4_copyFrom_70 : decode cX4_copyFrom 70 = .ok (.invokestatic 43, 3) := by decide +kernel
theorem dX4_copyFrom_73 : decode cX4_copyFrom 73 = .ok (.aload_n 1, 1) := by decide +kernel
theorem dX4_copyFrom_74 : decode cX4_copyFrom 74 = .ok (.getfield 24, 3) := by decide +kernel
theorem dX4_copyFrom_77 : decode cX4_copyFrom 77 = .ok (.iconst 0, 1) := by decide +kernel
theorem dX4_copyFrom_78 : decode cX4_copyFrom 78 = .ok (.aload_n 0, 1) := by decide +kernel
theorem dX4_copyFrom_79 : decode cX4_copyFrom 79 = .ok (.getfield 24, 3) := by decide +kernel
theorem dX4_copyFrom_82 : decode cX4_copyFrom 82 = .ok (.iconst 0, 1) := by decide +kernel
theorem dX4_copyFrom_83 : decode cX4_copyFrom 83 = .ok (.sipush 720, 3) := by decide +kernel
theorem dX4_copyFrom_86 : decode cX4_copyFrom 86 = .ok (.invokestatic 43, 3) := by decide +kernel
theorem dX4_copyFrom_89 : decode cX4_copyFrom 89 = .ok (.aload_n 1, 1) := by decide +kernel
theorem dX4_copyFrom_90 : decode cX4_copyFrom 90 = .ok (.getfield 27, 3) := by decide +kernel
theorem dX4_copyFrom_93 : decode cX4_copyFrom 93 = .ok (.iconst 0, 1) := by decide +kernel
theorem dX4_copyFrom_94 : decode cX4_copyFrom 94 = .ok (.aload_n 0, 1) := by decide +kernel
theorem dX4_copyFrom_95 : decode cX4_copyFrom 95 = .ok (.getfield 27, 3) := by decide +kernel
theorem dX4_copyFrom_98 : decode cX4_copyFrom 98 = .ok (.iconst 0, 1) := by decide +kernel
theorem dX4_copyFrom_99 : decode cX4_copyFrom 99 = .ok (.bipush 18, 2) := by decide +kernel
theorem dX4_copyFrom_101 : decode cX4_copyFrom 101 = .ok (.invokestatic 43, 3) := by decide +kernel
theorem dX4_copyFrom_104 : decode cX4_copyFrom 104 = .ok (.return_, 1) := by decide +kernel
theorem dX4_addOne_0 : decode cX4_addOne 0 = .ok (.aload_n 0, 1) := by decide +kernel
theorem dX4_addOne_1 : decode cX4_addOne 1 = .ok (.getfield 21, 3) := by decide +kernel
theorem dX4_addOne_4 : decode cX4_addOne 4 = .ok (.iload_n 1, 1) := by decide +kernel
theorem dX4_addOne_5 : decode cX4_addOne 5 = .ok (.iaload, 1) := by decide +kernel
theorem dX4_addOne_6 : decode cX4_addOne 6 = .ok (.bipush 40, 2) := by decide +kernel
theorem dX4_addOne_8 : decode cX4_addOne 8 = .ok (.if_icmp .lt 14, 3) := by decide +kernel
theorem dX4_addOne_11 : decode cX4_addOne 11 = .ok (.aload_n 0, 1) := by decide +kernel
theorem dX4_addOne_12 : decode cX4_addOne 12 = .ok (.dup, 1) := by decide +kernel
theorem dX4_addOne_13 : decode cX4_addOne 13 = .ok (.getfield 34, 3) := by decide +kernel
theorem dX4_addOne_16 : decode cX4_addOne 16 = .ok (.iconst 1, 1) := by decide +kernel
theorem dX4_addOne_17 : decode cX4_addOne 17 = .ok (.iadd, 1) := by decide +kernel
theorem dX4_addOne_18 : decode cX4_addOne 18 = .ok (.putfield 34, 3) := by decide +kernel
theorem dX4_addOne_21 : decode cX4_addOne 21 = .ok (.return_, 1) := by decide +kernel
theorem dX4_addOne_22 : decode cX4_addOne 22 = .ok (.aload_n 0, 1) := by decide +kernel
theorem dX4_addOne_23 : decode cX4_addOne 23 = .ok (.getfield 24, 3) := by decide +kernel
theorem dX4_addOne_26 : decode cX4_addOne 26 = .ok (.aload_n 0, 1) := by decide +kernel
theorem dX4_addOne_27 : decode cX4_addOne 27 = .ok (.iload_n 1, 1) := by decide +kernel
theorem dX4_addOne_28 : decode cX4_addOne 28 = .ok (.aload_n 0, 1) := by decide +kernel
theorem dX4_addOne_29 : decode cX4_addOne 29 = .ok (.getfield 21, 3) := by decide +kernel
theorem dX4_addOne_32 : decode cX4_addOne 32 = .ok (.iload_n 1, 1) := by decide +kernel
theorem dX4_addOne_33 : decode cX4_addOne 33 = .ok (.iaload, 1) := by decide +kernel
theorem dX4_addOne_34 : decode cX4_addOne 34 = .ok (.invokevirtual 49, 3) := by decide +kernel
theorem dX4_addOne_37 : decode cX4_addOne 37 = .ok (.iload_n 2, 1) := by decide +kernel
theorem dX4_addOne_38 : decode cX4_addOne 38 = .ok (.iastore, 1) := by decide +kernel
theorem dX4_addOne_39 : decode cX4_addOne 39 = .ok (.aload_n 0, 1) := by decide +kernel
theorem dX4_addOne_40 : decode cX4_addOne 40 = .ok (.getfield 21, 3) := by decide +kernel
theorem dX4_addOne_43 : decode cX4_addOne 43 = .ok (.iload_n 1, 1) := by decide +kernel
theorem dX4_addOne_44 : decode cX4_addOne 44 = .ok (.dup2, 1) := by decide +kernel
theorem dX4_addOne_45 : decode cX4_addOne 45 = .ok (.iaload, 1) := by decide +kernel
theorem dX4_addOne_46 : decode cX4_addOne 46 = .ok (.iconst 1, 1) := by decide +kernel
theorem dX4_addOne_47 : decode cX4_addOne 47 = .ok (.iadd, 1) := by decide +kernel
theorem dX4_addOne_48 : decode cX4_addOne 48 = .ok (.iastore, 1) := by decide +kernel
theorem dX4_addOne_49 : decode cX4_addOne 49 = .ok (.return_, 1) := by decide +kernel
theorem dX4_addMany_0 : decode cX4_addMany 0 = .ok (.iconst 0, 1) := by decide +kernel
theorem dX4_addMany_1 : decode cX4_addMany 1 = .ok (.istore 4, 2) := by decide +kernel
theorem dX4_addMany_3 : decode cX4_addMany 3 = .ok (.iload 4, 2) := by decide +kernel
theorem dX4_addMany_5 : decode cX4_addMany 5 = .ok (.iload_n 2, 1) := by decide +kernel
theorem dX4_addMany_6 : decode cX4_addMany 6 = .ok (.if_icmp .ge 15, 3) := by decide +kernel
theorem dX4_addMany_9 : decode cX4_addMany 9 = .ok (.aload_n 0, 1) := by decide +kernel
theorem dX4_addMany_10 : decode cX4_addMany 10 = .ok (.iload_n 1, 1) := by decide +kernel
theorem dX4_addMany_11 : decode cX4_addMany 11 = .ok (.iload_n 3, 1) := by decide +kernel
theorem dX4_addMany_12 : decode cX4_addMany 12 = .ok (.invokevirtual 53, 3) := by decide +kernel
theorem dX4_addMany_15 : decode cX4_addMany 15 = .ok (.iinc 4 1, 3) := by decide +kernel
theorem dX4_addMany_18 : decode cX4_addMany 18 = .ok (.goto (-15), 3) := by decide +kernel
theorem dX4_addMany_21 : decode cX4_addMany 21 = .ok (.return_, 1) := by decide +kernel
theorem dX4_nextBorn_0 : decode cX4_nextBorn 0 = .ok (.aload_n 0, 1) := by decide +kernel
theorem dX4_nextBorn_1 : decode cX4_nextBorn 1 = .ok (.getfield 21, 3) := by decide +kernel
theorem dX4_nextBorn_4 : decode cX4_nextBorn 4 = .ok (.iload_n 1, 1) := by decide +kernel
theorem dX4_nextBorn_5 : decode cX4_nextBorn 5 = .ok (.iaload, 1) := by decide +kernel
theorem dX4_nextBorn_6 : decode cX4_nextBorn 6 = .ok (.ifCond .ne 6, 3) := by decide +kernel
theorem dX4_nextBorn_9 : decode cX4_nextBorn 9 = .ok (.bipush (-4), 2) := by decide +kernel
theorem dX4_nextBorn_11 : decode cX4_nextBorn 11 = .ok (.ireturn, 1) := by decide +kernel
theorem dX4_nextBorn_12 : decode cX4_nextBorn 12 = .ok (.aload_n 0, 1) := by decide +kernel
theorem dX4_nextBorn_13 : decode cX4_nextBorn 13 = .ok (.getfield 24, 3) := by decide +kernel
theorem dX4_nextBorn_16 : decode cX4_nextBorn 16 = .ok (.aload_n 0, 1) := by decide +kernel
theorem dX4_nextBorn_17 : decode cX4_nextBorn 17 = .ok (.iload_n 1, 1) := by decide +kernel
theorem dX4_nextBorn_18 : decode cX4_nextBorn 18 = .ok (.iload_n 2, 1) := by decide +kernel
theorem dX4_nextBorn_19 : decode cX4_nextBorn 19 = .ok (.iconst 1, 1) := by decide +kernel
theorem dX4_nextBorn_20 : decode cX4_nextBorn 20 = .ok (.if_icmp .ne 14, 3) := by decide +kernel
theorem dX4_nextBorn_23 : decode cX4_nextBorn 23 = .ok (.aload_n 0, 1) := by decide +kernel
theorem dX4_nextBorn_24 : decode cX4_nextBorn 24 = .ok (.getfield 21, 3) := by decide +kernel
theorem dX4_nextBorn_27 : decode cX4_nextBorn 27 = .ok (.iload_n 1, 1) := by decide +kernel
theorem dX4_nextBorn_28 : decode cX4_nextBorn 28 = .ok (.iaload, 1) := by decide +kernel
theorem dX4_nextBorn_29 : decode cX4_nextBorn 29 = .ok (.iconst 1, 1) := by decide +kernel
theorem dX4_nextBorn_30 : decode cX4_nextBorn 30 = .ok (.isub, 1) := by decide +kernel
theorem dX4_nextBorn_31 : decode cX4_nextBorn 31 = .ok (.goto 4, 3) := by decide +kernel
theorem dX4_nextBorn_34 : decode cX4_nextBorn 34 = .ok (.iconst 0, 1) := by decide +kernel
theorem dX4_nextBorn_35 : decode cX4_nextBorn 35 = .ok (.invokevirtual 49, 3) := by decide +kernel
theorem dX4_nextBorn_38 : decode cX4_nextBorn 38 = .ok (.iaload, 1) := by decide +kernel
theorem dX4_nextBorn_39 : decode cX4_nextBorn 39 = .ok (.ireturn, 1) := by decide +kernel
theorem dX4_takeOne_0 : decode cX4_takeOne 0 = .ok (.aload_n 0, 1) := by decide +kernel
theorem dX4_takeOne_1 : decode cX4_takeOne 1 = .ok (.iload_n 1, 1) := by decide +kernel
theorem dX4_takeOne_2 : decode cX4_takeOne 2 = .ok (.iload_n 2, 1) := by decide +kernel
theorem dX4_takeOne_3 : decode cX4_takeOne 3 = .ok (.invokevirtual 57, 3) := by decide +kernel
theorem dX4_takeOne_6 : decode cX4_takeOne 6 = .ok (.istore_n 3, 1) := by decide +kernel
theorem dX4_takeOne_7 : decode cX4_takeOne 7 = .ok (.aload_n 0, 1) := by decide +kernel
theorem dX4_takeOne_8 : decode cX4_takeOne 8 = .ok (.getfield 21, 3) := by decide +kernel
theorem dX4_takeOne_11 : decode cX4_takeOne 11 = .ok (.iload_n 1, 1) := by decide +kernel
theorem dX4_takeOne_12 : decode cX4_takeOne 12 = .ok (.iaload, 1) := by decide +kernel
theorem dX4_takeOne_13 : decode cX4_takeOne 13 = .ok (.ifCond .le 44, 3) := by decide +kernel
theorem dX4_takeOne_16 : decode cX4_takeOne 16 = .ok (.aload_n 0, 1) := by decide +kernel
theorem dX4_takeOne_17 : decode cX4_takeOne 17 = .ok (.getfield 21, 3) := by decide +kernel
theorem dX4_takeOne_20 : decode cX4_takeOne 20 = .ok (.iload_n 1, 1) := by decide +kernel
theorem dX4_takeOne_21 : decode cX4_takeOne 21 = .ok (.dup2, 1) := by decide +kernel
theorem dX4_takeOne_22 : decode cX4_takeOne 22 = .ok (.iaload, 1) := by decide +kernel
theorem dX4_takeOne_23 : decode cX4_takeOne 23 = .ok (.iconst 1, 1) := by decide +kernel
theorem dX4_takeOne_24 : decode cX4_takeOne 24 = .ok (.isub, 1) := by decide +kernel
theorem dX4_takeOne_25 : decode cX4_takeOne 25 = .ok (.iastore, 1) := by decide +kernel
theorem dX4_takeOne_26 : decode cX4_takeOne 26 = .ok (.aload_n 0, 1) := by decide +kernel
theorem dX4_takeOne_27 : decode cX4_takeOne 27 = .ok (.getfield 27, 3) := by decide +kernel
theorem dX4_takeOne_30 : decode cX4_takeOne 30 = .ok (.iload_n 1, 1) := by decide +kernel
theorem dX4_takeOne_31 : decode cX4_takeOne 31 = .ok (.iload_n 2, 1) := by decide +kernel
theorem dX4_takeOne_32 : decode cX4_takeOne 32 = .ok (.iconst 1, 1) := by decide +kernel
theorem dX4_takeOne_33 : decode cX4_takeOne 33 = .ok (.if_icmp .ne 12, 3) := by decide +kernel
theorem dX4_takeOne_36 : decode cX4_takeOne 36 = .ok (.aload_n 0, 1) := by decide +kernel
theorem dX4_takeOne_37 : decode cX4_takeOne 37 = .ok (.getfield 27, 3) := by decide +kernel
theorem dX4_takeOne_40 : decode cX4_takeOne 40 = .ok (.iload_n 1, 1) := by decide +kernel
theorem dX4_takeOne_41 : decode cX4_takeOne 41 = .ok (.iaload, 1) := by decide +kernel
theorem dX4_takeOne_42 : decode cX4_takeOne 42 = .ok (.goto 14, 3) := by decide +kernel
theorem dX4_takeOne_45 : decode cX4_takeOne 45 = .ok (.aload_n 0, 1) := by decide +kernel
theorem dX4_takeOne_46 : decode cX4_takeOne 46 = .ok (.getfield 27, 3) := by decide +kernel
theorem dX4_takeOne_49 : decode cX4_takeOne 49 = .ok (.iload_n 1, 1) := by decide +kernel
theorem dX4_takeOne_50 : decode cX4_takeOne 50 = .ok (.iaload, 1) := by decide +kernel
theorem dX4_takeOne_51 : decode cX4_takeOne 51 = .ok (.iconst 1, 1) := by decide +kernel
theorem dX4_takeOne_52 : decode cX4_takeOne 52 = .ok (.iadd, 1) := by decide +kernel
theorem dX4_takeOne_53 : decode cX4_takeOne 53 = .ok (.bipush 40, 2) := by decide +kernel
theorem dX4_takeOne_55 : decode cX4_takeOne 55 = .ok (.irem, 1) := by decide +kernel
theorem dX4_takeOne_56 : decode cX4_takeOne 56 = .ok (.iastore, 1) := by decide +kernel
theorem dX4_takeOne_57 : decode cX4_takeOne 57 = .ok (.iload_n 3, 1) := by decide +kernel
theorem dX4_takeOne_58 : decode cX4_takeOne 58 = .ok (.ireturn, 1) := by decide +kernel
theorem dX4_arrive_0 : decode cX4_arrive 0 = .ok (.aload_n 0, 1) := by decide +kernel
theorem dX4_arrive_1 : decode cX4_arrive 1 = .ok (.getfield 30, 3) := by decide +kernel
theorem dX4_arrive_4 : decode cX4_arrive 4 = .ok (.iload_n 2, 1) := by decide +kernel
theorem dX4_arrive_5 : decode cX4_arrive 5 = .ok (.isub, 1) := by decide +kernel
theorem dX4_arrive_6 : decode cX4_arrive 6 = .ok (.istore_n 3, 1) := by decide +kernel
theorem dX4_arrive_7 : decode cX4_arrive 7 = .ok (.aload_n 0, 1) := by decide +kernel
theorem dX4_arrive_8 : decode cX4_arrive 8 = .ok (.getfield 9, 3) := by decide +kernel
theorem dX4_arrive_11 : decode cX4_arrive 11 = .ok (.iload_n 1, 1) := by decide +kernel
theorem dX4_arrive_12 : decode cX4_arrive 12 = .ok (.dup2, 1) := by decide +kernel
theorem dX4_arrive_13 : decode cX4_arrive 13 = .ok (.iaload, 1) := by decide +kernel
theorem dX4_arrive_14 : decode cX4_arrive 14 = .ok (.iconst 1, 1) := by decide +kernel
theorem dX4_arrive_15 : decode cX4_arrive 15 = .ok (.iadd, 1) := by decide +kernel
theorem dX4_arrive_16 : decode cX4_arrive 16 = .ok (.iastore, 1) := by decide +kernel
theorem dX4_arrive_17 : decode cX4_arrive 17 = .ok (.aload_n 0, 1) := by decide +kernel
theorem dX4_arrive_18 : decode cX4_arrive 18 = .ok (.getfield 15, 3) := by decide +kernel
theorem dX4_arrive_21 : decode cX4_arrive 21 = .ok (.iload_n 1, 1) := by decide +kernel
theorem dX4_arrive_22 : decode cX4_arrive 22 = .ok (.dup2, 1) := by decide +kernel
theorem dX4_arrive_23 : decode cX4_arrive 23 = .ok (.iaload, 1) := by decide +kernel
theorem dX4_arrive_24 : decode cX4_arrive 24 = .ok (.iload_n 3, 1) := by decide +kernel
theorem dX4_arrive_25 : decode cX4_arrive 25 = .ok (.iadd, 1) := by decide +kernel
theorem dX4_arrive_26 : decode cX4_arrive 26 = .ok (.iastore, 1) := by decide +kernel
theorem dX4_arrive_27 : decode cX4_arrive 27 = .ok (.aload_n 0, 1) := by decide +kernel
theorem dX4_arrive_28 : decode cX4_arrive 28 = .ok (.getfield 18, 3) := by decide +kernel
theorem dX4_arrive_31 : decode cX4_arrive 31 = .ok (.iload_n 1, 1) := by decide +kernel
theorem dX4_arrive_32 : decode cX4_arrive 32 = .ok (.aload_n 0, 1) := by decide +kernel
theorem dX4_arrive_33 : decode cX4_arrive 33 = .ok (.getfield 18, 3) := by decide +kernel
theorem dX4_arrive_36 : decode cX4_arrive 36 = .ok (.iload_n 1, 1) := by decide +kernel
theorem dX4_arrive_37 : decode cX4_arrive 37 = .ok (.iaload, 1) := by decide +kernel
theorem dX4_arrive_38 : decode cX4_arrive 38 = .ok (.iload_n 3, 1) := by decide +kernel
theorem dX4_arrive_39 : decode cX4_arrive 39 = .ok (.invokestatic 60, 3) := by decide +kernel
theorem dX4_arrive_42 : decode cX4_arrive 42 = .ok (.iastore, 1) := by decide +kernel
theorem dX4_arrive_43 : decode cX4_arrive 43 = .ok (.return_, 1) := by decide +kernel
theorem dX4_thereInAll_0 : decode cX4_thereInAll 0 = .ok (.iconst 0, 1) := by decide +kernel
theorem dX4_thereInAll_1 : decode cX4_thereInAll 1 = .ok (.istore_n 1, 1) := by decide +kernel
theorem dX4_thereInAll_2 : decode cX4_thereInAll 2 = .ok (.iconst 0, 1) := by decide +kernel
theorem dX4_thereInAll_3 : decode cX4_thereInAll 3 = .ok (.istore_n 2, 1) := by decide +kernel
theorem dX4_thereInAll_4 : decode cX4_thereInAll 4 = .ok (.iload_n 2, 1) := by decide +kernel
theorem dX4_thereInAll_5 : decode cX4_thereInAll 5 = .ok (.iconst 3, 1) := by decide +kernel
theorem dX4_thereInAll_6 : decode cX4_thereInAll 6 = .ok (.if_icmp .ge 18, 3) := by decide +kernel
theorem dX4_thereInAll_9 : decode cX4_thereInAll 9 = .ok (.iload_n 1, 1) := by decide +kernel
theorem dX4_thereInAll_10 : decode cX4_thereInAll 10 = .ok (.aload_n 0, 1) := by decide +kernel
theorem dX4_thereInAll_11 : decode cX4_thereInAll 11 = .ok (.getfield 9, 3) := by decide +kernel
theorem dX4_thereInAll_14 : decode cX4_thereInAll 14 = .ok (.iload_n 2, 1) := by decide +kernel
theorem dX4_thereInAll_15 : decode cX4_thereInAll 15 = .ok (.iaload, 1) := by decide +kernel
theorem dX4_thereInAll_16 : decode cX4_thereInAll 16 = .ok (.iadd, 1) := by decide +kernel
theorem dX4_thereInAll_17 : decode cX4_thereInAll 17 = .ok (.istore_n 1, 1) := by decide +kernel
theorem dX4_thereInAll_18 : decode cX4_thereInAll 18 = .ok (.iinc 2 1, 3) := by decide +kernel
theorem dX4_thereInAll_21 : decode cX4_thereInAll 21 = .ok (.goto (-17), 3) := by decide +kernel
theorem dX4_thereInAll_24 : decode cX4_thereInAll 24 = .ok (.iload_n 1, 1) := by decide +kernel
theorem dX4_thereInAll_25 : decode cX4_thereInAll 25 = .ok (.ireturn, 1) := by decide +kernel
theorem dX4_packetsFor_0 : decode cX4_packetsFor 0 = .ok (.iconst 0, 1) := by decide +kernel
theorem dX4_packetsFor_1 : decode cX4_packetsFor 1 = .ok (.istore_n 2, 1) := by decide +kernel
theorem dX4_packetsFor_2 : decode cX4_packetsFor 2 = .ok (.iconst 0, 1) := by decide +kernel
theorem dX4_packetsFor_3 : decode cX4_packetsFor 3 = .ok (.istore_n 3, 1) := by decide +kernel
theorem dX4_packetsFor_4 : decode cX4_packetsFor 4 = .ok (.iload_n 3, 1) := by decide +kernel
theorem dX4_packetsFor_5 : decode cX4_packetsFor 5 = .ok (.bipush 6, 2) := by decide +kernel
theorem dX4_packetsFor_7 : decode cX4_packetsFor 7 = .ok (.if_icmp .ge 22, 3) := by decide +kernel
theorem dX4_packetsFor_10 : decode cX4_packetsFor 10 = .ok (.iload_n 2, 1) := by decide +kernel
theorem dX4_packetsFor_11 : decode cX4_packetsFor 11 = .ok (.aload_n 0, 1) := by decide +kernel
theorem dX4_packetsFor_12 : decode cX4_packetsFor 12 = .ok (.getfield 21, 3) := by decide +kernel
theorem dX4_packetsFor_15 : decode cX4_packetsFor 15 = .ok (.iload_n 3, 1) := by decide +kernel
theorem dX4_packetsFor_16 : decode cX4_packetsFor 16 = .ok (.iload_n 1, 1) := by decide +kernel
theorem dX4_packetsFor_17 : decode cX4_packetsFor 17 = .ok (.invokestatic 65, 3) := by decide +kernel
theorem dX4_packetsFor_20 : decode cX4_packetsFor 20 = .ok (.iaload, 1) := by decide +kernel
theorem dX4_packetsFor_21 : decode cX4_packetsFor 21 = .ok (.iadd, 1) := by decide +kernel
theorem dX4_packetsFor_22 : decode cX4_packetsFor 22 = .ok (.istore_n 2, 1) := by decide +kernel
theorem dX4_packetsFor_23 : decode cX4_packetsFor 23 = .ok (.iinc 3 1, 3) := by decide +kernel
theorem dX4_packetsFor_26 : decode cX4_packetsFor 26 = .ok (.goto (-22), 3) := by decide +kernel
theorem dX4_packetsFor_29 : decode cX4_packetsFor 29 = .ok (.iload_n 2, 1) := by decide +kernel
theorem dX4_packetsFor_30 : decode cX4_packetsFor 30 = .ok (.ireturn, 1) := by decide +kernel
theorem dX4_packets_0 : decode cX4_packets 0 = .ok (.iconst 0, 1) := by decide +kernel
theorem dX4_packets_1 : decode cX4_packets 1 = .ok (.istore_n 1, 1) := by decide +kernel
theorem dX4_packets_2 : decode cX4_packets 2 = .ok (.iconst 0, 1) := by decide +kernel
theorem dX4_packets_3 : decode cX4_packets 3 = .ok (.istore_n 2, 1) := by decide +kernel
theorem dX4_packets_4 : decode cX4_packets 4 = .ok (.iload_n 2, 1) := by decide +kernel
theorem dX4_packets_5 : decode cX4_packets 5 = .ok (.bipush 18, 2) := by decide +kernel
theorem dX4_packets_7 : decode cX4_packets 7 = .ok (.if_icmp .ge 18, 3) := by decide +kernel
theorem dX4_packets_10 : decode cX4_packets 10 = .ok (.iload_n 1, 1) := by decide +kernel
theorem dX4_packets_11 : decode cX4_packets 11 = .ok (.aload_n 0, 1) := by decide +kernel
theorem dX4_packets_12 : decode cX4_packets 12 = .ok (.getfield 21, 3) := by decide +kernel
theorem dX4_packets_15 : decode cX4_packets 15 = .ok (.iload_n 2, 1) := by decide +kernel
theorem dX4_packets_16 : decode cX4_packets 16 = .ok (.iaload, 1) := by decide +kernel
theorem dX4_packets_17 : decode cX4_packets 17 = .ok (.iadd, 1) := by decide +kernel
theorem dX4_packets_18 : decode cX4_packets 18 = .ok (.istore_n 1, 1) := by decide +kernel
theorem dX4_packets_19 : decode cX4_packets 19 = .ok (.iinc 2 1, 3) := by decide +kernel
theorem dX4_packets_22 : decode cX4_packets 22 = .ok (.goto (-18), 3) := by decide +kernel
theorem dX4_packets_25 : decode cX4_packets 25 = .ok (.iload_n 1, 1) := by decide +kernel
theorem dX4_packets_26 : decode cX4_packets 26 = .ok (.ireturn, 1) := by decide +kernel
theorem dX4_squares_0 : decode cX4_squares 0 = .ok (.iconst 0, 1) := by decide +kernel
theorem dX4_squares_1 : decode cX4_squares 1 = .ok (.istore_n 1, 1) := by decide +kernel
theorem dX4_squares_2 : decode cX4_squares 2 = .ok (.iconst 0, 1) := by decide +kernel
theorem dX4_squares_3 : decode cX4_squares 3 = .ok (.istore_n 2, 1) := by decide +kernel
theorem dX4_squares_4 : decode cX4_squares 4 = .ok (.iload_n 2, 1) := by decide +kernel
theorem dX4_squares_5 : decode cX4_squares 5 = .ok (.bipush 18, 2) := by decide +kernel
theorem dX4_squares_7 : decode cX4_squares 7 = .ok (.if_icmp .ge 25, 3) := by decide +kernel
theorem dX4_squares_10 : decode cX4_squares 10 = .ok (.iload_n 1, 1) := by decide +kernel
theorem dX4_squares_11 : decode cX4_squares 11 = .ok (.aload_n 0, 1) := by decide +kernel
theorem dX4_squares_12 : decode cX4_squares 12 = .ok (.getfield 21, 3) := by decide +kernel
theorem dX4_squares_15 : decode cX4_squares 15 = .ok (.iload_n 2, 1) := by decide +kernel
theorem dX4_squares_16 : decode cX4_squares 16 = .ok (.iaload, 1) := by decide +kernel
theorem dX4_squares_17 : decode cX4_squares 17 = .ok (.aload_n 0, 1) := by decide +kernel
theorem dX4_squares_18 : decode cX4_squares 18 = .ok (.getfield 21, 3) := by decide +kernel
theorem dX4_squares_21 : decode cX4_squares 21 = .ok (.iload_n 2, 1) := by decide +kernel
theorem dX4_squares_22 : decode cX4_squares 22 = .ok (.iaload, 1) := by decide +kernel
theorem dX4_squares_23 : decode cX4_squares 23 = .ok (.imul, 1) := by decide +kernel
theorem dX4_squares_24 : decode cX4_squares 24 = .ok (.iadd, 1) := by decide +kernel
theorem dX4_squares_25 : decode cX4_squares 25 = .ok (.istore_n 1, 1) := by decide +kernel
theorem dX4_squares_26 : decode cX4_squares 26 = .ok (.iinc 2 1, 3) := by decide +kernel
theorem dX4_squares_29 : decode cX4_squares 29 = .ok (.goto (-25), 3) := by decide +kernel
theorem dX4_squares_32 : decode cX4_squares 32 = .ok (.iload_n 1, 1) := by decide +kernel
theorem dX4_squares_33 : decode cX4_squares 33 = .ok (.ireturn, 1) := by decide +kernel
theorem dX4_placeOf_0 : decode cX4_placeOf 0 = .ok (.iload_n 1, 1) := by decide +kernel
theorem dX4_placeOf_1 : decode cX4_placeOf 1 = .ok (.bipush 40, 2) := by decide +kernel
theorem dX4_placeOf_3 : decode cX4_placeOf 3 = .ok (.imul, 1) := by decide +kernel
theorem dX4_placeOf_4 : decode cX4_placeOf 4 = .ok (.aload_n 0, 1) := by decide +kernel
theorem dX4_placeOf_5 : decode cX4_placeOf 5 = .ok (.getfield 27, 3) := by decide +kernel
theorem dX4_placeOf_8 : decode cX4_placeOf 8 = .ok (.iload_n 1, 1) := by decide +kernel
theorem dX4_placeOf_9 : decode cX4_placeOf 9 = .ok (.iaload, 1) := by decide +kernel
theorem dX4_placeOf_10 : decode cX4_placeOf 10 = .ok (.iload_n 2, 1) := by decide +kernel
theorem dX4_placeOf_11 : decode cX4_placeOf 11 = .ok (.iadd, 1) := by decide +kernel
theorem dX4_placeOf_12 : decode cX4_placeOf 12 = .ok (.bipush 40, 2) := by decide +kernel
theorem dX4_placeOf_14 : decode cX4_placeOf 14 = .ok (.irem, 1) := by decide +kernel
theorem dX4_placeOf_15 : decode cX4_placeOf 15 = .ok (.iadd, 1) := by decide +kernel
theorem dX4_placeOf_16 : decode cX4_placeOf 16 = .ok (.ireturn, 1) := by decide +kernel
theorem dX5_append_0 : decode cX5_append 0 = .ok (.aload_n 0, 1) := by decide +kernel
theorem dX5_append_1 : decode cX5_append 1 = .ok (.getfield 19, 3) := by decide +kernel
theorem dX5_append_4 : decode cX5_append 4 = .ok (.sipush 200, 3) := by decide +kernel
theorem dX5_append_7 : decode cX5_append 7 = .ok (.if_icmp .ge 23, 3) := by decide +kernel
theorem dX5_append_10 : decode cX5_append 10 = .ok (.aload_n 0, 1) := by decide +kernel
theorem dX5_append_11 : decode cX5_append 11 = .ok (.getfield 9, 3) := by decide +kernel
theorem dX5_append_14 : decode cX5_append 14 = .ok (.aload_n 0, 1) := by decide +kernel
theorem dX5_append_15 : decode cX5_append 15 = .ok (.getfield 19, 3) := by decide +kernel
theorem dX5_append_18 : decode cX5_append 18 = .ok (.iload_n 1, 1) := by decide +kernel
theorem dX5_append_19 : decode cX5_append 19 = .ok (.castore, 1) := by decide +kernel
theorem dX5_append_20 : decode cX5_append 20 = .ok (.aload_n 0, 1) := by decide +kernel
theorem dX5_append_21 : decode cX5_append 21 = .ok (.dup, 1) := by decide +kernel
theorem dX5_append_22 : decode cX5_append 22 = .ok (.getfield 19, 3) := by decide +kernel
theorem dX5_append_25 : decode cX5_append 25 = .ok (.iconst 1, 1) := by decide +kernel
theorem dX5_append_26 : decode cX5_append 26 = .ok (.iadd, 1) := by decide +kernel
theorem dX5_append_27 : decode cX5_append 27 = .ok (.putfield 19, 3) := by decide +kernel
theorem dX5_append_30 : decode cX5_append 30 = .ok (.return_, 1) := by decide +kernel
theorem dX5_readInto_0 : decode cX5_readInto 0 = .ok (.aload_n 1, 1) := by decide +kernel
theorem dX5_readInto_1 : decode cX5_readInto 1 = .ok (.invokevirtual 23, 3) := by decide +kernel
theorem dX5_readInto_4 : decode cX5_readInto 4 = .ok (.iconst 0, 1) := by decide +kernel
theorem dX5_readInto_5 : decode cX5_readInto 5 = .ok (.istore_n 2, 1) := by decide +kernel
theorem dX5_readInto_6 : decode cX5_readInto 6 = .ok (.iconst 0, 1) := by decide +kernel
theorem dX5_readInto_7 : decode cX5_readInto 7 = .ok (.istore_n 3, 1) := by decide +kernel
theorem dX5_readInto_8 : decode cX5_readInto 8 = .ok (.iload_n 3, 1) := by decide +kernel
theorem dX5_readInto_9 : decode cX5_readInto 9 = .ok (.aload_n 0, 1) := by decide +kernel
theorem dX5_readInto_10 : decode cX5_readInto 10 = .ok (.getfield 19, 3) := by decide +kernel
theorem dX5_readInto_13 : decode cX5_readInto 13 = .ok (.if_icmp .ge 36, 3) := by decide +kernel
theorem dX5_readInto_16 : decode cX5_readInto 16 = .ok (.aload_n 0, 1) := by decide +kernel
theorem dX5_readInto_17 : decode cX5_readInto 17 = .ok (.getfield 9, 3) := by decide +kernel
theorem dX5_readInto_20 : decode cX5_readInto 20 = .ok (.iload_n 3, 1) := by decide +kernel
theorem dX5_readInto_21 : decode cX5_readInto 21 = .ok (.caload, 1) := by decide +kernel
theorem dX5_readInto_22 : decode cX5_readInto 22 = .ok (.bipush 59, 2) := by decide +kernel
theorem dX5_readInto_24 : decode cX5_readInto 24 = .ok (.if_icmp .ne 19, 3) := by decide +kernel
theorem dX5_readInto_27 : decode cX5_readInto 27 = .ok (.aload_n 0, 1) := by decide +kernel
theorem dX5_readInto_28 : decode cX5_readInto 28 = .ok (.aload_n 1, 1) := by decide +kernel
theorem dX5_readInto_29 : decode cX5_readInto 29 = .ok (.iload_n 2, 1) := by decide +kernel
theorem dX5_readInto_30 : decode cX5_readInto 30 = .ok (.iload_n 3, 1) := by decide +kernel
theorem dX5_readInto_31 : decode cX5_readInto 31 = .ok (.invokevirtual 28, 3) := by decide +kernel
theorem dX5_readInto_34 : decode cX5_readInto 34 = .ok (.ifCond .ne 5, 3) := by decide +kernel
theorem dX5_readInto_37 : decode cX5_readInto 37 = .ok (.iload_n 2, 1) := by decide +kernel
theorem dX5_readInto_38 : decode cX5_readInto 38 = .ok (.ireturn, 1) := by decide +kernel
theorem dX5_readInto_39 : decode cX5_readInto 39 = .ok (.iload_n 3, 1) := by decide +kernel
theorem dX5_readInto_40 : decode cX5_readInto 40 = .ok (.iconst 1, 1) := by decide +kernel
theorem dX5_readInto_41 : decode cX5_readInto 41 = .ok (.iadd, 1) := by decide +kernel
theorem dX5_readInto_42 : decode cX5_readInto 42 = .ok (.istore_n 2, 1) := by decide +kernel
theorem dX5_readInto_43 : decode cX5_readInto 43 = .ok (.iinc 3 1, 3) := by decide +kernel
theorem dX5_readInto_46 : decode cX5_readInto 46 = .ok (.goto (-38), 3) := by decide +kernel
theorem dX5_readInto_49 : decode cX5_readInto 49 = .ok (.iload_n 2, 1) := by decide +kernel
theorem dX5_readInto_50 : decode cX5_readInto 50 = .ok (.aload_n 0, 1) := by decide +kernel
theorem dX5_readInto_51 : decode cX5_readInto 51 = .ok (.getfield 19, 3) := by decide +kernel
theorem dX5_readInto_54 : decode cX5_readInto 54 = .ok (.if_icmp .ge 7, 3) := by decide +kernel
theorem dX5_readInto_57 : decode cX5_readInto 57 = .ok (.iload_n 2, 1) := by decide +kernel
theorem dX5_readInto_58 : decode cX5_readInto 58 = .ok (.goto 5, 3) := by decide +kernel
theorem dX5_readInto_61 : decode cX5_readInto 61 = .ok (.bipush (-4), 2) := by decide +kernel
theorem dX5_readInto_63 : decode cX5_readInto 63 = .ok (.ireturn, 1) := by decide +kernel
theorem dX5_readItem_0 : decode cX5_readItem 0 = .ok (.aload_n 0, 1) := by decide +kernel
theorem dX5_readItem_1 : decode cX5_readItem 1 = .ok (.getfield 9, 3) := by decide +kernel
theorem dX5_readItem_4 : decode cX5_readItem 4 = .ok (.iload_n 2, 1) := by decide +kernel
theorem dX5_readItem_5 : decode cX5_readItem 5 = .ok (.caload, 1) := by decide +kernel
theorem dX5_readItem_6 : decode cX5_readItem 6 = .ok (.invokestatic 32, 3) := by decide +kernel
theorem dX5_readItem_9 : decode cX5_readItem 9 = .ok (.istore 4, 2) := by decide +kernel
theorem dX5_readItem_11 : decode cX5_readItem 11 = .ok (.iload 4, 2) := by decide +kernel
theorem dX5_readItem_13 : decode cX5_readItem 13 = .ok (.ifCond .eq 16, 3) := by decide +kernel
theorem dX5_readItem_16 : decode cX5_readItem 16 = .ok (.aload_n 0, 1) := by decide +kernel
theorem dX5_readItem_17 : decode cX5_readItem 17 = .ok (.iload_n 2, 1) := by decide +kernel
theorem dX5_readItem_18 : decode cX5_readItem 18 = .ok (.iconst 1, 1) := by decide +kernel
theorem dX5_readItem_19 : decode cX5_readItem 19 = .ok (.iadd, 1) := by decide +kernel
theorem dX5_readItem_20 : decode cX5_readItem 20 = .ok (.iload_n 3, 1) := by decide +kernel
theorem dX5_readItem_21 : decode cX5_readItem 21 = .ok (.invokevirtual 36, 3) := by decide +kernel
theorem dX5_readItem_24 : decode cX5_readItem 24 = .ok (.iload 4, 2) := by decide +kernel
theorem dX5_readItem_26 : decode cX5_readItem 26 = .ok (.if_icmp .eq 5, 3) := by decide +kernel
theorem dX5_readItem_29 : decode cX5_readItem 29 = .ok (.iconst 0, 1) := by decide +kernel
theorem dX5_readItem_30 : decode cX5_readItem 30 = .ok (.ireturn, 1) := by decide +kernel
theorem dX5_readItem_31 : decode cX5_readItem 31 = .ok (.aload_n 1, 1) := by decide +kernel
theorem dX5_readItem_32 : decode cX5_readItem 32 = .ok (.aload_n 0, 1) := by decide +kernel
theorem dX5_readItem_33 : decode cX5_readItem 33 = .ok (.getfield 9, 3) := by decide +kernel
theorem dX5_readItem_36 : decode cX5_readItem 36 = .ok (.iload_n 2, 1) := by decide +kernel
theorem dX5_readItem_37 : decode cX5_readItem 37 = .ok (.caload, 1) := by decide +kernel
theorem dX5_readItem_38 : decode cX5_readItem 38 = .ok (.aload_n 0, 1) := by decide +kernel
theorem dX5_readItem_39 : decode cX5_readItem 39 = .ok (.getfield 15, 3) := by decide +kernel
theorem dX5_readItem_42 : decode cX5_readItem 42 = .ok (.iconst 0, 1) := by decide +kernel
theorem dX5_readItem_43 : decode cX5_readItem 43 = .ok (.iaload, 1) := by decide +kernel
theorem dX5_readItem_44 : decode cX5_readItem 44 = .ok (.aload_n 0, 1) := by decide +kernel
theorem dX5_readItem_45 : decode cX5_readItem 45 = .ok (.getfield 15, 3) := by decide +kernel
theorem dX5_readItem_48 : decode cX5_readItem 48 = .ok (.iconst 1, 1) := by decide +kernel
theorem dX5_readItem_49 : decode cX5_readItem 49 = .ok (.iaload, 1) := by decide +kernel
theorem dX5_readItem_50 : decode cX5_readItem 50 = .ok (.aload_n 0, 1) := by decide +kernel
theorem dX5_readItem_51 : decode cX5_readItem 51 = .ok (.getfield 15, 3) := by decide +kernel
theorem dX5_readItem_54 : decode cX5_readItem 54 = .ok (.iconst 2, 1) := by decide +kernel
theorem dX5_readItem_55 : decode cX5_readItem 55 = .ok (.iaload, 1) := by decide +kernel
theorem dX5_readItem_56 : decode cX5_readItem 56 = .ok (.invokevirtual 40, 3) := by decide +kernel
theorem dX5_readItem_59 : decode cX5_readItem 59 = .ok (.ireturn, 1) := by decide +kernel
theorem dX5_numbersOf_0 : decode cX5_numbersOf 0 = .ok (.iload_n 0, 1) := by decide +kernel
theorem dX5_numbersOf_1 : decode cX5_numbersOf 1 = .ok (.tableswitch 113 98 120 #[107, 113, 113, 113, 111, 107, 113, 113, 113, 113, 111, 113, 107, 107, 113, 113, 113, 113, 113, 113, 113, 113, 109], 107) := by decide +kernel
theorem dX5_numbersOf_108 : decode cX5_numbersOf 108 = .ok (.iconst 1, 1) := by decide +kernel
theorem dX5_numbersOf_109 : decode cX5_numbersOf 109 = .ok (.ireturn, 1) := by decide +kernel
theorem dX5_numbersOf_110 : decode cX5_numbersOf 110 = .ok (.iconst 2, 1) := by decide +kernel
theorem dX5_numbersOf_111 : decode cX5_numbersOf 111 = .ok (.ireturn, 1) := by decide +kernel
theorem dX5_numbersOf_112 : decode cX5_numbersOf 112 = .ok (.iconst 3, 1) := by decide +kernel
theorem dX5_numbersOf_113 : decode cX5_numbersOf 113 = .ok (.ireturn, 1) := by decide +kernel
theorem dX5_numbersOf_114 : decode cX5_numbersOf 114 = .ok (.iconst 0, 1) := by decide +kernel
theorem dX5_numbersOf_115 : decode cX5_numbersOf 115 = .ok (.ireturn, 1) := by decide +kernel
theorem dX5_readNumbers_0 : decode cX5_readNumbers 0 = .ok (.iconst 0, 1) := by decide +kernel
theorem dX5_readNumbers_1 : decode cX5_readNumbers 1 = .ok (.istore_n 3, 1) := by decide +kernel
theorem dX5_readNumbers_2 : decode cX5_readNumbers 2 = .ok (.iconst 0, 1) := by decide +kernel
theorem dX5_readNumbers_3 : decode cX5_readNumbers 3 = .ok (.istore 4, 2) := by decide +kernel
theorem dX5_readNumbers_5 : decode cX5_readNumbers 5 = .ok (.iconst 0, 1) := by decide +kernel
theorem dX5_readNumbers_6 : decode cX5_readNumbers 6 = .ok (.istore 5, 2) := by decide +kernel
theorem dX5_readNumbers_8 : decode cX5_readNumbers 8 = .ok (.iload_n 1, 1) := by decide +kernel
theorem dX5_readNumbers_9 : decode cX5_readNumbers 9 = .ok (.istore 6, 2) := by decide +kernel
theorem dX5_readNumbers_11 : decode cX5_readNumbers 11 = .ok (.iload 6, 2) := by decide +kernel
theorem dX5_readNumbers_13 : decode cX5_readNumbers 13 = .ok (.iload_n 2, 1) := by decide +kernel
theorem dX5_readNumbers_14 : decode cX5_readNumbers 14 = .ok (.if_icmp .gt 103, 3) := by decide +kernel
theorem dX5_readNumbers_17 : decode cX5_readNumbers 17 = .ok (.aload_n 0, 1) := by decide +kernel
theorem dX5_readNumbers_18 : decode cX5_readNumbers 18 = .ok (.getfield 9, 3) := by decide +kernel
theorem dX5_readNumbers_21 : decode cX5_readNumbers 21 = .ok (.iload 6, 2) := by decide +kernel
theorem dX5_readNumbers_23 : decode cX5_readNumbers 23 = .ok (.caload, 1) := by decide +kernel
theorem dX5_readNumbers_24 : decode cX5_readNumbers 24 = .ok (.istore 7, 2) := by decide +kernel
theorem dX5_readNumbers_26 : decode cX5_readNumbers 26 = .ok (.iload 7, 2) := by decide +kernel
theorem dX5_readNumbers_28 : decode cX5_readNumbers 28 = .ok (.bipush 48, 2) := by decide +kernel
theorem dX5_readNumbers_30 : decode cX5_readNumbers 30 = .ok (.if_icmp .lt 35, 3) := by decide +kernel
theorem dX5_readNumbers_33 : decode cX5_readNumbers 33 = .ok (.iload 7, 2) := by decide +kernel
theorem dX5_readNumbers_35 : decode cX5_readNumbers 35 = .ok (.bipush 57, 2) := by decide +kernel
theorem dX5_readNumbers_37 : decode cX5_readNumbers 37 = .ok (.if_icmp .gt 28, 3) := by decide +kernel
theorem dX5_readNumbers_40 : decode cX5_readNumbers 40 = .ok (.iload 4, 2) := by decide +kernel
theorem dX5_readNumbers_42 : decode cX5_readNumbers 42 = .ok (.iconst 2, 1) := by decide +kernel
theorem dX5_readNumbers_43 : decode cX5_readNumbers 43 = .ok (.if_icmp .ge 22, 3) := by decide +kernel
theorem dX5_readNumbers_46 : decode cX5_readNumbers 46 = .ok (.iload 5, 2) := by decide +kernel
theorem dX5_readNumbers_48 : decode cX5_readNumbers 48 = .ok (.bipush 10, 2) := by decide +kernel
theorem dX5_readNumbers_50 : decode cX5_readNumbers 50 = .ok (.imul, 1) := by decide +kernel
theorem dX5_readNumbers_51 : decode cX5_readNumbers 51 = .ok (.iload 7, 2) := by decide +kernel
theorem dX5_readNumbers_53 : decode cX5_readNumbers 53 = .ok (.bipush 48, 2) := by decide +kernel
theorem dX5_readNumbers_55 : decode cX5_readNumbers 55 = .ok (.isub, 1) := by decide +kernel
theorem dX5_readNumbers_56 : decode cX5_readNumbers 56 = .ok (.iadd, 1) := by decide +kernel
theorem dX5_readNumbers_57 : decode cX5_readNumbers 57 = .ok (.istore 5, 2) := by decide +kernel
theorem dX5_readNumbers_59 : decode cX5_readNumbers 59 = .ok (.iinc 4 1, 3) := by decide +kernel
theorem dX5_readNumbers_62 : decode cX5_readNumbers 62 = .ok (.goto 49, 3) := by decide +kernel
theorem dX5_readNumbers_65 : decode cX5_readNumbers 65 = .ok (.iload 7, 2) := by decide +kernel
theorem dX5_readNumbers_67 : decode cX5_readNumbers 67 = .ok (.bipush 44, 2) := by decide +kernel
theorem dX5_readNumbers_69 : decode cX5_readNumbers 69 = .ok (.if_icmp .eq 10, 3) := by decide +kernel
theorem dX5_readNumbers_72 : decode cX5_readNumbers 72 = .ok (.iload 7, 2) := by decide +kernel
theorem dX5_readNumbers_74 : decode cX5_readNumbers 74 = .ok (.bipush 59, 2) := by decide +kernel
theorem dX5_readNumbers_76 : decode cX5_readNumbers 76 = .ok (.if_icmp .ne 33, 3) := by decide +kernel
theorem dX5_readNumbers_79 : decode cX5_readNumbers 79 = .ok (.iload 4, 2) := by decide +kernel
theorem dX5_readNumbers_81 : decode cX5_readNumbers 81 = .ok (.ifCond .le 28, 3) := by decide +kernel
theorem dX5_readNumbers_84 : decode cX5_readNumbers 84 = .ok (.iload_n 3, 1) := by decide +kernel
theorem dX5_readNumbers_85 : decode cX5_readNumbers 85 = .ok (.iconst 3, 1) := by decide +kernel
theorem dX5_readNumbers_86 : decode cX5_readNumbers 86 = .ok (.if_icmp .ge 23, 3) := by decide +kernel
theorem dX5_readNumbers_89 : decode cX5_readNumbers 89 = .ok (.aload_n 0, 1) := by decide +kernel
theorem dX5_readNumbers_90 : decode cX5_readNumbers 90 = .ok (.getfield 15, 3) := by decide +kernel
theorem dX5_readNumbers_93 : decode cX5_readNumbers 93 = .ok (.iload_n 3, 1) := by decide +kernel
theorem dX5_readNumbers_94 : decode cX5_readNumbers 94 = .ok (.iload 5, 2) := by decide +kernel
theorem dX5_readNumbers_96 : decode cX5_readNumbers 96 = .ok (.iastore, 1) := by decide +kernel
theorem dX5_readNumbers_97 : decode cX5_readNumbers 97 = .ok (.iinc 3 1, 3) := by decide +kernel
theorem dX5_readNumbers_100 : decode cX5_readNumbers 100 = .ok (.iconst 0, 1) := by decide +kernel
theorem dX5_readNumbers_101 : decode cX5_readNumbers 101 = .ok (.istore 5, 2) := by decide +kernel
theorem dX5_readNumbers_103 : decode cX5_readNumbers 103 = .ok (.iconst 0, 1) := by decide +kernel
theorem dX5_readNumbers_104 : decode cX5_readNumbers 104 = .ok (.istore 4, 2) := by decide +kernel
theorem dX5_readNumbers_106 : decode cX5_readNumbers 106 = .ok (.goto 5, 3) := by decide +kernel
theorem dX5_readNumbers_109 : decode cX5_readNumbers 109 = .ok (.iconst 0, 1) := by decide +kernel
theorem dX5_readNumbers_110 : decode cX5_readNumbers 110 = .ok (.ireturn, 1) := by decide +kernel
theorem dX5_readNumbers_111 : decode cX5_readNumbers 111 = .ok (.iinc 6 1, 3) := by decide +kernel
theorem dX5_readNumbers_114 : decode cX5_readNumbers 114 = .ok (.goto (-103), 3) := by decide +kernel
theorem dX5_readNumbers_117 : decode cX5_readNumbers 117 = .ok (.iload_n 3, 1) := by decide +kernel
theorem dX5_readNumbers_118 : decode cX5_readNumbers 118 = .ok (.ireturn, 1) := by decide +kernel
theorem dX6_copyFrom_0 : decode cX6_copyFrom 0 = .ok (.aload_n 0, 1) := by decide +kernel
theorem dX6_copyFrom_1 : decode cX6_copyFrom 1 = .ok (.getfield 10, 3) := by decide +kernel
theorem dX6_copyFrom_4 : decode cX6_copyFrom 4 = .ok (.aload_n 1, 1) := by decide +kernel
theorem dX6_copyFrom_5 : decode cX6_copyFrom 5 = .ok (.getfield 10, 3) := by decide +kernel
theorem dX6_copyFrom_8 : decode cX6_copyFrom 8 = .ok (.invokevirtual 23, 3) := by decide +kernel
theorem dX6_copyFrom_11 : decode cX6_copyFrom 11 = .ok (.aload_n 0, 1) := by decide +kernel
theorem dX6_copyFrom_12 : decode cX6_copyFrom 12 = .ok (.getfield 19, 3) := by decide +kernel
theorem dX6_copyFrom_15 : decode cX6_copyFrom 15 = .ok (.aload_n 1, 1) := by decide +kernel
theorem dX6_copyFrom_16 : decode cX6_copyFrom 16 = .ok (.getfield 19, 3) := by decide +kernel
theorem dX6_copyFrom_19 : decode cX6_copyFrom 19 = .ok (.invokevirtual 27, 3) := by decide +kernel
theorem dX6_copyFrom_22 : decode cX6_copyFrom 22 = .ok (.return_, 1) := by decide +kernel
theorem dX6_dropOf_0 : decode cX6_dropOf 0 = .ok (.aload_n 0, 1) := by decide +kernel
theorem dX6_dropOf_1 : decode cX6_dropOf 1 = .ok (.getfield 10, 3) := by decide +kernel
theorem dX6_dropOf_4 : decode cX6_dropOf 4 = .ok (.getfield 30, 3) := by decide +kernel
theorem dX6_dropOf_7 : decode cX6_dropOf 7 = .ok (.iload_n 1, 1) := by decide +kernel
theorem dX6_dropOf_8 : decode cX6_dropOf 8 = .ok (.iaload, 1) := by decide +kernel
theorem dX6_dropOf_9 : decode cX6_dropOf 9 = .ok (.iload_n 2, 1) := by decide +kernel
theorem dX6_dropOf_10 : decode cX6_dropOf 10 = .ok (.invokestatic 34, 3) := by decide +kernel
theorem dX6_dropOf_13 : decode cX6_dropOf 13 = .ok (.istore_n 3, 1) := by decide +kernel
theorem dX6_dropOf_14 : decode cX6_dropOf 14 = .ok (.aload_n 0, 1) := by decide +kernel
theorem dX6_dropOf_15 : decode cX6_dropOf 15 = .ok (.getfield 10, 3) := by decide +kernel
theorem dX6_dropOf_18 : decode cX6_dropOf 18 = .ok (.getfield 40, 3) := by decide +kernel
theorem dX6_dropOf_21 : decode cX6_dropOf 21 = .ok (.iload_n 1, 1) := by decide +kernel
theorem dX6_dropOf_22 : decode cX6_dropOf 22 = .ok (.iaload, 1) := by decide +kernel
theorem dX6_dropOf_23 : decode cX6_dropOf 23 = .ok (.iload_n 2, 1) := by decide +kernel
theorem dX6_dropOf_24 : decode cX6_dropOf 24 = .ok (.invokestatic 34, 3) := by decide +kernel
theorem dX6_dropOf_27 : decode cX6_dropOf 27 = .ok (.istore 4, 2) := by decide +kernel
theorem dX6_dropOf_29 : decode cX6_dropOf 29 = .ok (.aload_n 0, 1) := by decide +kernel
theorem dX6_dropOf_30 : decode cX6_dropOf 30 = .ok (.getfield 19, 3) := by decide +kernel
theorem dX6_dropOf_33 : decode cX6_dropOf 33 = .ok (.getfield 43, 3) := by decide +kernel
theorem dX6_dropOf_36 : decode cX6_dropOf 36 = .ok (.iload_n 3, 1) := by decide +kernel
theorem dX6_dropOf_37 : decode cX6_dropOf 37 = .ok (.iaload, 1) := by decide +kernel
theorem dX6_dropOf_38 : decode cX6_dropOf 38 = .ok (.aload_n 0, 1) := by decide +kernel
theorem dX6_dropOf_39 : decode cX6_dropOf 39 = .ok (.getfield 10, 3) := by decide +kernel
theorem dX6_dropOf_42 : decode cX6_dropOf 42 = .ok (.iload_n 3, 1) := by decide +kernel
theorem dX6_dropOf_43 : decode cX6_dropOf 43 = .ok (.invokevirtual 46, 3) := by decide +kernel
theorem dX6_dropOf_46 : decode cX6_dropOf 46 = .ok (.iadd, 1) := by decide +kernel
theorem dX6_dropOf_47 : decode cX6_dropOf 47 = .ok (.aload_n 0, 1) := by decide +kernel
theorem dX6_dropOf_48 : decode cX6_dropOf 48 = .ok (.getfield 19, 3) := by decide +kernel
theorem dX6_dropOf_51 : decode cX6_dropOf 51 = .ok (.getfield 43, 3) := by decide +kernel
theorem dX6_dropOf_54 : decode cX6_dropOf 54 = .ok (.iload 4, 2) := by decide +kernel
theorem dX6_dropOf_56 : decode cX6_dropOf 56 = .ok (.iaload, 1) := by decide +kernel
theorem dX6_dropOf_57 : decode cX6_dropOf 57 = .ok (.isub, 1) := by decide +kernel
theorem dX6_dropOf_58 : decode cX6_dropOf 58 = .ok (.aload_n 0, 1) := by decide +kernel
theorem dX6_dropOf_59 : decode cX6_dropOf 59 = .ok (.getfield 10, 3) := by decide +kernel
theorem dX6_dropOf_62 : decode cX6_dropOf 62 = .ok (.iload 4, 2) := by decide +kernel
theorem dX6_dropOf_64 : decode cX6_dropOf 64 = .ok (.invokevirtual 46, 3) := by decide +kernel
theorem dX6_dropOf_67 : decode cX6_dropOf 67 = .ok (.isub, 1) := by decide +kernel
theorem dX6_dropOf_68 : decode cX6_dropOf 68 = .ok (.ireturn, 1) := by decide +kernel
theorem dX7_write_0 : decode cX7_write 0 = .ok (.iload_n 1, 1) := by decide +kernel
theorem dX7_write_1 : decode cX7_write 1 = .ok (.bipush 32, 2) := by decide +kernel
theorem dX7_write_3 : decode cX7_write 3 = .ok (.bipush 126, 2) := by decide +kernel
theorem dX7_write_5 : decode cX7_write 5 = .ok (.invokestatic 70, 3) := by decide +kernel
theorem dX7_write_8 : decode cX7_write 8 = .ok (.ifCond .ne 5, 3) := by decide +kernel
theorem dX7_write_11 : decode cX7_write 11 = .ok (.iconst (-1), 1) := by decide +kernel
theorem dX7_write_12 : decode cX7_write 12 = .ok (.ireturn, 1) := by decide +kernel
theorem dX7_write_13 : decode cX7_write 13 = .ok (.aload_n 0, 1) := by decide +kernel
theorem dX7_write_14 : decode cX7_write 14 = .ok (.getfield 12, 3) := by decide +kernel
theorem dX7_write_17 : decode cX7_write 17 = .ok (.getfield 67, 3) := by decide +kernel
theorem dX7_write_20 : decode cX7_write 20 = .ok (.sipush 200, 3) := by decide +kernel
theorem dX7_write_23 : decode cX7_write 23 = .ok (.if_icmp .lt 6, 3) := by decide +kernel
theorem dX7_write_26 : decode cX7_write 26 = .ok (.bipush (-3), 2) := by decide +kernel
theorem dX7_write_28 : decode cX7_write 28 = .ok (.ireturn, 1) := by decide +kernel
theorem dX7_write_29 : decode cX7_write 29 = .ok (.aload_n 0, 1) := by decide +kernel
theorem dX7_write_30 : decode cX7_write 30 = .ok (.getfield 12, 3) := by decide +kernel
theorem dX7_write_33 : decode cX7_write 33 = .ok (.iload_n 1, 1) := by decide +kernel
theorem dX7_write_34 : decode cX7_write 34 = .ok (.i2c, 1) := by decide +kernel
theorem dX7_write_35 : decode cX7_write 35 = .ok (.invokevirtual 59, 3) := by decide +kernel
theorem dX7_write_38 : decode cX7_write 38 = .ok (.aload_n 0, 1) := by decide +kernel
theorem dX7_write_39 : decode cX7_write 39 = .ok (.getfield 12, 3) := by decide +kernel
theorem dX7_write_42 : decode cX7_write 42 = .ok (.getfield 67, 3) := by decide +kernel
theorem dX7_write_45 : decode cX7_write 45 = .ok (.ireturn, 1) := by decide +kernel
theorem dX7_wipe_0 : decode cX7_wipe 0 = .ok (.aload_n 0, 1) := by decide +kernel
theorem dX7_wipe_1 : decode cX7_wipe 1 = .ok (.getfield 12, 3) := by decide +kernel
theorem dX7_wipe_4 : decode cX7_wipe 4 = .ok (.getfield 67, 3) := by decide +kernel
theorem dX7_wipe_7 : decode cX7_wipe 7 = .ok (.istore_n 1, 1) := by decide +kernel
theorem dX7_wipe_8 : decode cX7_wipe 8 = .ok (.aload_n 0, 1) := by decide +kernel
theorem dX7_wipe_9 : decode cX7_wipe 9 = .ok (.getfield 12, 3) := by decide +kernel
theorem dX7_wipe_12 : decode cX7_wipe 12 = .ok (.iconst 0, 1) := by decide +kernel
theorem dX7_wipe_13 : decode cX7_wipe 13 = .ok (.putfield 67, 3) := by decide +kernel
theorem dX7_wipe_16 : decode cX7_wipe 16 = .ok (.iload_n 1, 1) := by decide +kernel
theorem dX7_wipe_17 : decode cX7_wipe 17 = .ok (.ireturn, 1) := by decide +kernel
theorem dX7_fault_0 : decode cX7_fault 0 = .ok (.aload_n 0, 1) := by decide +kernel
theorem dX7_fault_1 : decode cX7_fault 1 = .ok (.getfield 12, 3) := by decide +kernel
theorem dX7_fault_4 : decode cX7_fault 4 = .ok (.aload_n 0, 1) := by decide +kernel
theorem dX7_fault_5 : decode cX7_fault 5 = .ok (.getfield 23, 3) := by decide +kernel
theorem dX7_fault_8 : decode cX7_fault 8 = .ok (.getfield 74, 3) := by decide +kernel
theorem dX7_fault_11 : decode cX7_fault 11 = .ok (.invokevirtual 78, 3) := by decide +kernel
theorem dX7_fault_14 : decode cX7_fault 14 = .ok (.ireturn, 1) := by decide +kernel
theorem dX7_lay_0 : decode cX7_lay 0 = .ok (.aload_n 0, 1) := by decide +kernel
theorem dX7_lay_1 : decode cX7_lay 1 = .ok (.invokevirtual 63, 3) := by decide +kernel
theorem dX7_lay_4 : decode cX7_lay 4 = .ok (.ifCond .eq 16, 3) := by decide +kernel
theorem dX7_lay_7 : decode cX7_lay 7 = .ok (.aload_n 0, 1) := by decide +kernel
theorem dX7_lay_8 : decode cX7_lay 8 = .ok (.getfield 19, 3) := by decide +kernel
theorem dX7_lay_11 : decode cX7_lay 11 = .ok (.getfield 74, 3) := by decide +kernel
theorem dX7_lay_14 : decode cX7_lay 14 = .ok (.getfield 82, 3) := by decide +kernel
theorem dX7_lay_17 : decode cX7_lay 17 = .ok (.goto 5, 3) := by decide +kernel
theorem dX7_lay_20 : decode cX7_lay 20 = .ok (.bipush (-2), 2) := by decide +kernel
theorem dX7_lay_22 : decode cX7_lay 22 = .ok (.ireturn, 1) := by decide +kernel
theorem dX7_feed_0 : decode cX7_feed 0 = .ok (.aload_n 0, 1) := by decide +kernel
theorem dX7_feed_1 : decode cX7_feed 1 = .ok (.getfield 19, 3) := by decide +kernel
theorem dX7_feed_4 : decode cX7_feed 4 = .ok (.getfield 74, 3) := by decide +kernel
theorem dX7_feed_7 : decode cX7_feed 7 = .ok (.iload_n 1, 1) := by decide +kernel
theorem dX7_feed_8 : decode cX7_feed 8 = .ok (.iload_n 2, 1) := by decide +kernel
theorem dX7_feed_9 : decode cX7_feed 9 = .ok (.invokevirtual 87, 3) := by decide +kernel
theorem dX7_feed_12 : decode cX7_feed 12 = .ok (.ifCond .eq 13, 3) := by decide +kernel
theorem dX7_feed_15 : decode cX7_feed 15 = .ok (.iload_n 3, 1) := by decide +kernel
theorem dX7_feed_16 : decode cX7_feed 16 = .ok (.iconst 0, 1) := by decide +kernel
theorem dX7_feed_17 : decode cX7_feed 17 = .ok (.bipush 9, 2) := by decide +kernel
theorem dX7_feed_19 : decode cX7_feed 19 = .ok (.invokestatic 70, 3) := by decide +kernel
theorem dX7_feed_22 : decode cX7_feed 22 = .ok (.ifCond .ne 5, 3) := by decide +kernel
theorem dX7_feed_25 : decode cX7_feed 25 = .ok (.iconst (-1), 1) := by decide +kernel
theorem dX7_feed_26 : decode cX7_feed 26 = .ok (.ireturn, 1) := by decide +kernel
theorem dX7_feed_27 : decode cX7_feed 27 = .ok (.aload_n 0, 1) := by decide +kernel
theorem dX7_feed_28 : decode cX7_feed 28 = .ok (.getfield 19, 3) := by decide +kernel
theorem dX7_feed_31 : decode cX7_feed 31 = .ok (.getfield 74, 3) := by decide +kernel
theorem dX7_feed_34 : decode cX7_feed 34 = .ok (.getfield 91, 3) := by decide +kernel
theorem dX7_feed_37 : decode cX7_feed 37 = .ok (.iload_n 1, 1) := by decide +kernel
theorem dX7_feed_38 : decode cX7_feed 38 = .ok (.iload_n 2, 1) := by decide +kernel
theorem dX7_feed_39 : decode cX7_feed 39 = .ok (.invokestatic 95, 3) := by decide +kernel
theorem dX7_feed_42 : decode cX7_feed 42 = .ok (.iaload, 1) := by decide +kernel
theorem dX7_feed_43 : decode cX7_feed 43 = .ok (.istore 4, 2) := by decide +kernel
theorem dX7_feed_45 : decode cX7_feed 45 = .ok (.iload 4, 2) := by decide +kernel
theorem dX7_feed_47 : decode cX7_feed 47 = .ok (.iload_n 3, 1) := by decide +kernel
theorem dX7_feed_48 : decode cX7_feed 48 = .ok (.if_icmp .ne 6, 3) := by decide +kernel
theorem dX7_feed_51 : decode cX7_feed 51 = .ok (.bipush (-2), 2) := by decide +kernel
theorem dX7_feed_53 : decode cX7_feed 53 = .ok (.ireturn, 1) := by decide +kernel
theorem dX7_feed_54 : decode cX7_feed 54 = .ok (.aload_n 0, 1) := by decide +kernel
theorem dX7_feed_55 : decode cX7_feed 55 = .ok (.getfield 29, 3) := by decide +kernel
theorem dX7_feed_58 : decode cX7_feed 58 = .ok (.aload_n 0, 1) := by decide +kernel
theorem dX7_feed_59 : decode cX7_feed 59 = .ok (.getfield 19, 3) := by decide +kernel
theorem dX7_feed_62 : decode cX7_feed 62 = .ok (.invokevirtual 99, 3) := by decide +kernel
theorem dX7_feed_65 : decode cX7_feed 65 = .ok (.aload_n 0, 1) := by decide +kernel
theorem dX7_feed_66 : decode cX7_feed 66 = .ok (.getfield 19, 3) := by decide +kernel
theorem dX7_feed_69 : decode cX7_feed 69 = .ok (.getfield 74, 3) := by decide +kernel
theorem dX7_feed_72 : decode cX7_feed 72 = .ok (.getfield 91, 3) := by decide +kernel
theorem dX7_feed_75 : decode cX7_feed 75 = .ok (.iload_n 1, 1) := by decide +kernel
theorem dX7_feed_76 : decode cX7_feed 76 = .ok (.iload_n 2, 1) := by decide +kernel
theorem dX7_feed_77 : decode cX7_feed 77 = .ok (.invokestatic 95, 3) := by decide +kernel
theorem dX7_feed_80 : decode cX7_feed 80 = .ok (.iload_n 3, 1) := by decide +kernel
theorem dX7_feed_81 : decode cX7_feed 81 = .ok (.iastore, 1) := by decide +kernel
theorem dX7_feed_82 : decode cX7_feed 82 = .ok (.iload 4, 2) := by decide +kernel
theorem dX7_feed_84 : decode cX7_feed 84 = .ok (.ireturn, 1) := by decide +kernel
theorem dX7_room_0 : decode cX7_room 0 = .ok (.aload_n 0, 1) := by decide +kernel
theorem dX7_room_1 : decode cX7_room 1 = .ok (.getfield 19, 3) := by decide +kernel
theorem dX7_room_4 : decode cX7_room 4 = .ok (.getfield 74, 3) := by decide +kernel
theorem dX7_room_7 : decode cX7_room 7 = .ok (.iload_n 1, 1) := by decide +kernel
theorem dX7_room_8 : decode cX7_room 8 = .ok (.invokevirtual 103, 3) := by decide +kernel
theorem dX7_room_11 : decode cX7_room 11 = .ok (.ifCond .eq 13, 3) := by decide +kernel
theorem dX7_room_14 : decode cX7_room 14 = .ok (.iload_n 2, 1) := by decide +kernel
theorem dX7_room_15 : decode cX7_room 15 = .ok (.iconst 1, 1) := by decide +kernel
theorem dX7_room_16 : decode cX7_room 16 = .ok (.bipush 9, 2) := by decide +kernel
theorem dX7_room_18 : decode cX7_room 18 = .ok (.invokestatic 70, 3) := by decide +kernel
theorem dX7_room_21 : decode cX7_room 21 = .ok (.ifCond .ne 5, 3) := by decide +kernel
theorem dX7_room_24 : decode cX7_room 24 = .ok (.iconst (-1), 1) := by decide +kernel
theorem dX7_room_25 : decode cX7_room 25 = .ok (.ireturn, 1) := by decide +kernel
theorem dX7_room_26 : decode cX7_room 26 = .ok (.aload_n 0, 1) := by decide +kernel
theorem dX7_room_27 : decode cX7_room 27 = .ok (.getfield 19, 3) := by decide +kernel
theorem dX7_room_30 : decode cX7_room 30 = .ok (.getfield 74, 3) := by decide +kernel
theorem dX7_room_33 : decode cX7_room 33 = .ok (.getfield 107, 3) := by decide +kernel
theorem dX7_room_36 : decode cX7_room 36 = .ok (.iload_n 1, 1) := by decide +kernel
theorem dX7_room_37 : decode cX7_room 37 = .ok (.iaload, 1) := by decide +kernel
theorem dX7_room_38 : decode cX7_room 38 = .ok (.istore_n 3, 1) := by decide +kernel
theorem dX7_room_39 : decode cX7_room 39 = .ok (.iload_n 3, 1) := by decide +kernel
theorem dX7_room_40 : decode cX7_room 40 = .ok (.iload_n 2, 1) := by decide +kernel
theorem dX7_room_41 : decode cX7_room 41 = .ok (.if_icmp .ne 6, 3) := by decide +kernel
theorem dX7_room_44 : decode cX7_room 44 = .ok (.bipush (-2), 2) := by decide +kernel
theorem dX7_room_46 : decode cX7_room 46 = .ok (.ireturn, 1) := by decide +kernel
theorem dX7_room_47 : decode cX7_room 47 = .ok (.aload_n 0, 1) := by decide +kernel
theorem dX7_room_48 : decode cX7_room 48 = .ok (.getfield 29, 3) := by decide +kernel
theorem dX7_room_51 : decode cX7_room 51 = .ok (.aload_n 0, 1) := by decide +kernel
theorem dX7_room_52 : decode cX7_room 52 = .ok (.getfield 19, 3) := by decide +kernel
theorem dX7_room_55 : decode cX7_room 55 = .ok (.invokevirtual 99, 3) := by decide +kernel
theorem dX7_room_58 : decode cX7_room 58 = .ok (.aload_n 0, 1) := by decide +kernel
theorem dX7_room_59 : decode cX7_room 59 = .ok (.getfield 19, 3) := by decide +kernel
theorem dX7_room_62 : decode cX7_room 62 = .ok (.getfield 74, 3) := by decide +kernel
theorem dX7_room_65 : decode cX7_room 65 = .ok (.getfield 107, 3) := by decide +kernel
theorem dX7_room_68 : decode cX7_room 68 = .ok (.iload_n 1, 1) := by decide +kernel
theorem dX7_room_69 : decode cX7_room 69 = .ok (.iload_n 2, 1) := by decide +kernel
theorem dX7_room_70 : decode cX7_room 70 = .ok (.iastore, 1) := by decide +kernel
theorem dX7_room_71 : decode cX7_room 71 = .ok (.iload_n 3, 1) := by decide +kernel
theorem dX7_room_72 : decode cX7_room 72 = .ok (.ireturn, 1) := by decide +kernel
theorem dX7_tell_0 : decode cX7_tell 0 = .ok (.iload_n 1, 1) := by decide +kernel
theorem dX7_tell_1 : decode cX7_tell 1 = .ok (.ifCond .ne 9, 3) := by decide +kernel
theorem dX7_tell_4 : decode cX7_tell 4 = .ok (.aload_n 0, 1) := by decide +kernel
theorem dX7_tell_5 : decode cX7_tell 5 = .ok (.iload_n 2, 1) := by decide +kernel
theorem dX7_tell_6 : decode cX7_tell 6 = .ok (.invokevirtual 110, 3) := by decide +kernel
theorem dX7_tell_9 : decode cX7_tell 9 = .ok (.ireturn, 1) := by decide +kernel
theorem dX7_tell_10 : decode cX7_tell 10 = .ok (.iload_n 1, 1) := by decide +kernel
theorem dX7_tell_11 : decode cX7_tell 11 = .ok (.iconst 1, 1) := by decide +kernel
theorem dX7_tell_12 : decode cX7_tell 12 = .ok (.if_icmp .ne 9, 3) := by decide +kernel
theorem dX7_tell_15 : decode cX7_tell 15 = .ok (.aload_n 0, 1) := by decide +kernel
theorem dX7_tell_16 : decode cX7_tell 16 = .ok (.iload_n 2, 1) := by decide +kernel
theorem dX7_tell_17 : decode cX7_tell 17 = .ok (.invokevirtual 114, 3) := by decide +kernel
theorem dX7_tell_20 : decode cX7_tell 20 = .ok (.ireturn, 1) := by decide +kernel
theorem dX7_tell_21 : decode cX7_tell 21 = .ok (.iconst (-1), 1) := by decide +kernel
theorem dX7_tell_22 : decode cX7_tell 22 = .ok (.ireturn, 1) := by decide +kernel
theorem dX7_clash_0 : decode cX7_clash 0 = .ok (.aload_n 0, 1) := by decide +kernel
theorem dX7_clash_1 : decode cX7_clash 1 = .ok (.getfield 19, 3) := by decide +kernel
theorem dX7_clash_4 : decode cX7_clash 4 = .ok (.getfield 74, 3) := by decide +kernel
theorem dX7_clash_7 : decode cX7_clash 7 = .ok (.iload_n 1, 1) := by decide +kernel
theorem dX7_clash_8 : decode cX7_clash 8 = .ok (.invokevirtual 103, 3) := by decide +kernel
theorem dX7_clash_11 : decode cX7_clash 11 = .ok (.ifCond .eq 31, 3) := by decide +kernel
theorem dX7_clash_14 : decode cX7_clash 14 = .ok (.aload_n 0, 1) := by decide +kernel
theorem dX7_clash_15 : decode cX7_clash 15 = .ok (.getfield 19, 3) := by decide +kernel
theorem dX7_clash_18 : decode cX7_clash 18 = .ok (.getfield 74, 3) := by decide +kernel
theorem dX7_clash_21 : decode cX7_clash 21 = .ok (.iload_n 2, 1) := by decide +kernel
theorem dX7_clash_22 : decode cX7_clash 22 = .ok (.invokevirtual 103, 3) := by decide +kernel
theorem dX7_clash_25 : decode cX7_clash 25 = .ok (.ifCond .eq 17, 3) := by decide +kernel
theorem dX7_clash_28 : decode cX7_clash 28 = .ok (.iload_n 1, 1) := by decide +kernel
theorem dX7_clash_29 : decode cX7_clash 29 = .ok (.iload_n 2, 1) := by decide +kernel
theorem dX7_clash_30 : decode cX7_clash 30 = .ok (.if_icmp .eq 12, 3) := by decide +kernel
theorem dX7_clash_33 : decode cX7_clash 33 = .ok (.iload_n 3, 1) := by decide +kernel
theorem dX7_clash_34 : decode cX7_clash 34 = .ok (.iconst 0, 1) := by decide +kernel
theorem dX7_clash_35 : decode cX7_clash 35 = .ok (.iconst 1, 1) := by decide +kernel
theorem dX7_clash_36 : decode cX7_clash 36 = .ok (.invokestatic 70, 3) := by decide +kernel
theorem dX7_clash_39 : decode cX7_clash 39 = .ok (.ifCond .ne 5, 3) := by decide +kernel
theorem dX7_clash_42 : decode cX7_clash 42 = .ok (.iconst (-1), 1) := by decide +kernel
theorem dX7_clash_43 : decode cX7_clash 43 = .ok (.ireturn, 1) := by decide +kernel
theorem dX7_clash_44 : decode cX7_clash 44 = .ok (.aload_n 0, 1) := by decide +kernel
theorem dX7_clash_45 : decode cX7_clash 45 = .ok (.getfield 19, 3) := by decide +kernel
theorem dX7_clash_48 : decode cX7_clash 48 = .ok (.getfield 74, 3) := by decide +kernel
theorem dX7_clash_51 : decode cX7_clash 51 = .ok (.iload_n 1, 1) := by decide +kernel
theorem dX7_clash_52 : decode cX7_clash 52 = .ok (.iload_n 2, 1) := by decide +kernel
theorem dX7_clash_53 : decode cX7_clash 53 = .ok (.invokevirtual 117, 3) := by decide +kernel
theorem dX7_clash_56 : decode cX7_clash 56 = .ok (.iload_n 3, 1) := by decide +kernel
theorem dX7_clash_57 : decode cX7_clash 57 = .ok (.iconst 1, 1) := by decide +kernel
theorem dX7_clash_58 : decode cX7_clash 58 = .ok (.if_icmp .ne 7, 3) := by decide +kernel
theorem dX7_clash_61 : decode cX7_clash 61 = .ok (.iconst 1, 1) := by decide +kernel
theorem dX7_clash_62 : decode cX7_clash 62 = .ok (.goto 4, 3) := by decide +kernel
theorem dX7_clash_65 : decode cX7_clash 65 = .ok (.iconst 0, 1) := by decide +kernel
theorem dX7_clash_66 : decode cX7_clash 66 = .ok (.if_icmp .ne 6, 3) := by decide +kernel
theorem dX7_clash_69 : decode cX7_clash 69 = .ok (.bipush (-2), 2) := by decide +kernel
theorem dX7_clash_71 : decode cX7_clash 71 = .ok (.ireturn, 1) := by decide +kernel
theorem dX7_clash_72 : decode cX7_clash 72 = .ok (.aload_n 0, 1) := by decide +kernel
theorem dX7_clash_73 : decode cX7_clash 73 = .ok (.getfield 29, 3) := by decide +kernel
theorem dX7_clash_76 : decode cX7_clash 76 = .ok (.aload_n 0, 1) := by decide +kernel
theorem dX7_clash_77 : decode cX7_clash 77 = .ok (.getfield 19, 3) := by decide +kernel
theorem dX7_clash_80 : decode cX7_clash 80 = .ok (.invokevirtual 99, 3) := by decide +kernel
theorem dX7_clash_83 : decode cX7_clash 83 = .ok (.aload_n 0, 1) := by decide +kernel
theorem dX7_clash_84 : decode cX7_clash 84 = .ok (.getfield 19, 3) := by decide +kernel
theorem dX7_clash_87 : decode cX7_clash 87 = .ok (.getfield 74, 3) := by decide +kernel
theorem dX7_clash_90 : decode cX7_clash 90 = .ok (.iload_n 1, 1) := by decide +kernel
theorem dX7_clash_91 : decode cX7_clash 91 = .ok (.iload_n 2, 1) := by decide +kernel
theorem dX7_clash_92 : decode cX7_clash 92 = .ok (.invokevirtual 120, 3) := by decide +kernel
theorem dX7_clash_95 : decode cX7_clash 95 = .ok (.aload_n 0, 1) := by decide +kernel
theorem dX7_clash_96 : decode cX7_clash 96 = .ok (.getfield 19, 3) := by decide +kernel
theorem dX7_clash_99 : decode cX7_clash 99 = .ok (.getfield 74, 3) := by decide +kernel
theorem dX7_clash_102 : decode cX7_clash 102 = .ok (.invokevirtual 124, 3) := by decide +kernel
theorem dX7_clash_105 : decode cX7_clash 105 = .ok (.ireturn, 1) := by decide +kernel
theorem dX7_put_0 : decode cX7_put 0 = .ok (.aload_n 0, 1) := by decide +kernel
theorem dX7_put_1 : decode cX7_put 1 = .ok (.getfield 19, 3) := by decide +kernel
theorem dX7_put_4 : decode cX7_put 4 = .ok (.getfield 74, 3) := by decide +kernel
theorem dX7_put_7 : decode cX7_put 7 = .ok (.iload_n 1, 1) := by decide +kernel
theorem dX7_put_8 : decode cX7_put 8 = .ok (.iload_n 2, 1) := by decide +kernel
theorem dX7_put_9 : decode cX7_put 9 = .ok (.invokevirtual 87, 3) := by decide +kernel
theorem dX7_put_12 : decode cX7_put 12 = .ok (.ifCond .eq 13, 3) := by decide +kernel
theorem dX7_put_15 : decode cX7_put 15 = .ok (.iload_n 3, 1) := by decide +kernel
theorem dX7_put_16 : decode cX7_put 16 = .ok (.iconst 1, 1) := by decide +kernel
theorem dX7_put_17 : decode cX7_put 17 = .ok (.bipush 40, 2) := by decide +kernel
theorem dX7_put_19 : decode cX7_put 19 = .ok (.invokestatic 70, 3) := by decide +kernel
theorem dX7_put_22 : decode cX7_put 22 = .ok (.ifCond .ne 5, 3) := by decide +kernel
theorem dX7_put_25 : decode cX7_put 25 = .ok (.iconst (-1), 1) := by decide +kernel
theorem dX7_put_26 : decode cX7_put 26 = .ok (.ireturn, 1) := by decide +kernel
theorem dX7_put_27 : decode cX7_put 27 = .ok (.iload_n 1, 1) := by decide +kernel
theorem dX7_put_28 : decode cX7_put 28 = .ok (.iload_n 2, 1) := by decide +kernel
theorem dX7_put_29 : decode cX7_put 29 = .ok (.invokestatic 95, 3) := by decide +kernel
theorem dX7_put_32 : decode cX7_put 32 = .ok (.istore 4, 2) := by decide +kernel
theorem dX7_put_34 : decode cX7_put 34 = .ok (.aload_n 0, 1) := by decide +kernel
theorem dX7_put_35 : decode cX7_put 35 = .ok (.getfield 19, 3) := by decide +kernel
theorem dX7_put_38 : decode cX7_put 38 = .ok (.getfield 127, 3) := by decide +kernel
theorem dX7_put_41 : decode cX7_put 41 = .ok (.getfield 131, 3) := by decide +kernel
theorem dX7_put_44 : decode cX7_put 44 = .ok (.iload 4, 2) := by decide +kernel
theorem dX7_put_46 : decode cX7_put 46 = .ok (.iaload, 1) := by decide +kernel
theorem dX7_put_47 : decode cX7_put 47 = .ok (.iload_n 3, 1) := by decide +kernel
theorem dX7_put_48 : decode cX7_put 48 = .ok (.iadd, 1) := by decide +kernel
theorem dX7_put_49 : decode cX7_put 49 = .ok (.bipush 40, 2) := by decide +kernel
theorem dX7_put_51 : decode cX7_put 51 = .ok (.if_icmp .le 6, 3) := by decide +kernel
theorem dX7_put_54 : decode cX7_put 54 = .ok (.bipush (-3), 2) := by decide +kernel
theorem dX7_put_56 : decode cX7_put 56 = .ok (.ireturn, 1) := by decide +kernel
theorem dX7_put_57 : decode cX7_put 57 = .ok (.aload_n 0, 1) := by decide +kernel
theorem dX7_put_58 : decode cX7_put 58 = .ok (.getfield 29, 3) := by decide +kernel
theorem dX7_put_61 : decode cX7_put 61 = .ok (.aload_n 0, 1) := by decide +kernel
theorem dX7_put_62 : decode cX7_put 62 = .ok (.getfield 19, 3) := by decide +kernel
theorem dX7_put_65 : decode cX7_put 65 = .ok (.invokevirtual 99, 3) := by decide +kernel
theorem dX7_put_68 : decode cX7_put 68 = .ok (.aload_n 0, 1) := by decide +kernel
theorem dX7_put_69 : decode cX7_put 69 = .ok (.getfield 19, 3) := by decide +kernel
theorem dX7_put_72 : decode cX7_put 72 = .ok (.getfield 127, 3) := by decide +kernel
theorem dX7_put_75 : decode cX7_put 75 = .ok (.iload 4, 2) := by decide +kernel
theorem dX7_put_77 : decode cX7_put 77 = .ok (.iload_n 3, 1) := by decide +kernel
theorem dX7_put_78 : decode cX7_put 78 = .ok (.aload_n 0, 1) := by decide +kernel
theorem dX7_put_79 : decode cX7_put 79 = .ok (.getfield 19, 3) := by decide +kernel
theorem dX7_put_82 : decode cX7_put 82 = .ok (.getfield 127, 3) := by decide +kernel
theorem dX7_put_85 : decode cX7_put 85 = .ok (.getfield 136, 3) := by decide +kernel
theorem dX7_put_88 : decode cX7_put 88 = .ok (.invokevirtual 139, 3) := by decide +kernel
theorem dX7_put_91 : decode cX7_put 91 = .ok (.aload_n 0, 1) := by decide +kernel
theorem dX7_put_92 : decode cX7_put 92 = .ok (.getfield 19, 3) := by decide +kernel
theorem dX7_put_95 : decode cX7_put 95 = .ok (.getfield 127, 3) := by decide +kernel
theorem dX7_put_98 : decode cX7_put 98 = .ok (.getfield 131, 3) := by decide +kernel
theorem dX7_put_101 : decode cX7_put 101 = .ok (.iload 4, 2) := by decide +kernel
theorem dX7_put_103 : decode cX7_put 103 = .ok (.iaload, 1) := by decide +kernel
theorem dX7_put_104 : decode cX7_put 104 = .ok (.ireturn, 1) := by decide +kernel
theorem dX7_slot_0 : decode cX7_slot 0 = .ok (.iload_n 1, 1) := by decide +kernel
theorem dX7_slot_1 : decode cX7_slot 1 = .ok (.iconst 1, 1) := by decide +kernel
theorem dX7_slot_2 : decode cX7_slot 2 = .ok (.bipush 60, 2) := by decide +kernel
theorem dX7_slot_4 : decode cX7_slot 4 = .ok (.invokestatic 70, 3) := by decide +kernel
theorem dX7_slot_7 : decode cX7_slot 7 = .ok (.ifCond .ne 5, 3) := by decide +kernel
theorem dX7_slot_10 : decode cX7_slot 10 = .ok (.iconst (-1), 1) := by decide +kernel
theorem dX7_slot_11 : decode cX7_slot 11 = .ok (.ireturn, 1) := by decide +kernel
theorem dX7_slot_12 : decode cX7_slot 12 = .ok (.aload_n 0, 1) := by decide +kernel
theorem dX7_slot_13 : decode cX7_slot 13 = .ok (.getfield 29, 3) := by decide +kernel
theorem dX7_slot_16 : decode cX7_slot 16 = .ok (.aload_n 0, 1) := by decide +kernel
theorem dX7_slot_17 : decode cX7_slot 17 = .ok (.getfield 19, 3) := by decide +kernel
theorem dX7_slot_20 : decode cX7_slot 20 = .ok (.invokevirtual 99, 3) := by decide +kernel
theorem dX7_slot_23 : decode cX7_slot 23 = .ok (.aload_n 0, 1) := by decide +kernel
theorem dX7_slot_24 : decode cX7_slot 24 = .ok (.getfield 19, 3) := by decide +kernel
theorem dX7_slot_27 : decode cX7_slot 27 = .ok (.getfield 127, 3) := by decide +kernel
theorem dX7_slot_30 : decode cX7_slot 30 = .ok (.invokevirtual 143, 3) := by decide +kernel
theorem dX7_slot_33 : decode cX7_slot 33 = .ok (.istore_n 2, 1) := by decide +kernel
theorem dX7_slot_34 : decode cX7_slot 34 = .ok (.iconst 0, 1) := by decide +kernel
theorem dX7_slot_35 : decode cX7_slot 35 = .ok (.istore_n 3, 1) := by decide +kernel
theorem dX7_slot_36 : decode cX7_slot 36 = .ok (.iload_n 3, 1) := by decide +kernel
theorem dX7_slot_37 : decode cX7_slot 37 = .ok (.iload_n 1, 1) := by decide +kernel
theorem dX7_slot_38 : decode cX7_slot 38 = .ok (.if_icmp .ge 31, 3) := by decide +kernel
theorem dX7_slot_41 : decode cX7_slot 41 = .ok (.aload_n 0, 1) := by decide +kernel
theorem dX7_slot_42 : decode cX7_slot 42 = .ok (.getfield 43, 3) := by decide +kernel
theorem dX7_slot_45 : decode cX7_slot 45 = .ok (.aload_n 0, 1) := by decide +kernel
theorem dX7_slot_46 : decode cX7_slot 46 = .ok (.getfield 19, 3) := by decide +kernel
theorem dX7_slot_49 : decode cX7_slot 49 = .ok (.iconst 0, 1) := by decide +kernel
theorem dX7_slot_50 : decode cX7_slot 50 = .ok (.aload_n 0, 1) := by decide +kernel
theorem dX7_slot_51 : decode cX7_slot 51 = .ok (.getfield 19, 3) := by decide +kernel
theorem dX7_slot_54 : decode cX7_slot 54 = .ok (.getfield 74, 3) := by decide +kernel
theorem dX7_slot_57 : decode cX7_slot 57 = .ok (.getfield 91, 3) := by decide +kernel
theorem dX7_slot_60 : decode cX7_slot 60 = .ok (.invokevirtual 146, 3) := by decide +kernel
theorem dX7_slot_63 : decode cX7_slot 63 = .ok (.iinc 3 1, 3) := by decide +kernel
theorem dX7_slot_66 : decode cX7_slot 66 = .ok (.goto (-30), 3) := by decide +kernel
theorem dX7_slot_69 : decode cX7_slot 69 = .ok (.aload_n 0, 1) := by decide +kernel
theorem dX7_slot_70 : decode cX7_slot 70 = .ok (.getfield 19, 3) := by decide +kernel
theorem dX7_slot_73 : decode cX7_slot 73 = .ok (.getfield 127, 3) := by decide +kernel
theorem dX7_slot_76 : decode cX7_slot 76 = .ok (.invokevirtual 143, 3) := by decide +kernel
theorem dX7_slot_79 : decode cX7_slot 79 = .ok (.iload_n 2, 1) := by decide +kernel
theorem dX7_slot_80 : decode cX7_slot 80 = .ok (.isub, 1) := by decide +kernel
theorem dX7_slot_81 : decode cX7_slot 81 = .ok (.ireturn, 1) := by decide +kernel
theorem dX7_undo_0 : decode cX7_undo 0 = .ok (.aload_n 0, 1) := by decide +kernel
theorem dX7_undo_1 : decode cX7_undo 1 = .ok (.getfield 29, 3) := by decide +kernel
theorem dX7_undo_4 : decode cX7_undo 4 = .ok (.getfield 150, 3) := by decide +kernel
theorem dX7_undo_7 : decode cX7_undo 7 = .ok (.ifCond .ne 6, 3) := by decide +kernel
theorem dX7_undo_10 : decode cX7_undo 10 = .ok (.bipush (-2), 2) := by decide +kernel
theorem dX7_undo_12 : decode cX7_undo 12 = .ok (.ireturn, 1) := by decide +kernel
theorem dX7_undo_13 : decode cX7_undo 13 = .ok (.aload_n 0, 1) := by decide +kernel
theorem dX7_undo_14 : decode cX7_undo 14 = .ok (.getfield 29, 3) := by decide +kernel
theorem dX7_undo_17 : decode cX7_undo 17 = .ok (.aload_n 0, 1) := by decide +kernel
theorem dX7_undo_18 : decode cX7_undo 18 = .ok (.getfield 19, 3) := by decide +kernel
theorem dX7_undo_21 : decode cX7_undo 21 = .ok (.invokevirtual 153, 3) := by decide +kernel
theorem dX7_undo_24 : decode cX7_undo 24 = .ok (.aload_n 0, 1) := by decide +kernel
theorem dX7_undo_25 : decode cX7_undo 25 = .ok (.getfield 29, 3) := by decide +kernel
theorem dX7_undo_28 : decode cX7_undo 28 = .ok (.getfield 150, 3) := by decide +kernel
theorem dX7_undo_31 : decode cX7_undo 31 = .ok (.ireturn, 1) := by decide +kernel
theorem dX7_queue_0 : decode cX7_queue 0 = .ok (.aload_n 0, 1) := by decide +kernel
theorem dX7_queue_1 : decode cX7_queue 1 = .ok (.getfield 19, 3) := by decide +kernel
theorem dX7_queue_4 : decode cX7_queue 4 = .ok (.getfield 74, 3) := by decide +kernel
theorem dX7_queue_7 : decode cX7_queue 7 = .ok (.iload_n 1, 1) := by decide +kernel
theorem dX7_queue_8 : decode cX7_queue 8 = .ok (.iload_n 2, 1) := by decide +kernel
theorem dX7_queue_9 : decode cX7_queue 9 = .ok (.invokevirtual 87, 3) := by decide +kernel
theorem dX7_queue_12 : decode cX7_queue 12 = .ok (.ifCond .eq 12, 3) := by decide +kernel
theorem dX7_queue_15 : decode cX7_queue 15 = .ok (.iload_n 3, 1) := by decide +kernel
theorem dX7_queue_16 : decode cX7_queue 16 = .ok (.iconst 0, 1) := by decide +kernel
theorem dX7_queue_17 : decode cX7_queue 17 = .ok (.iconst 3, 1) := by decide +kernel
theorem dX7_queue_18 : decode cX7_queue 18 = .ok (.invokestatic 70, 3) := by decide +kernel
theorem dX7_queue_21 : decode cX7_queue 21 = .ok (.ifCond .ne 5, 3) := by decide +kernel
theorem dX7_queue_24 : decode cX7_queue 24 = .ok (.iconst (-1), 1) := by decide +kernel
theorem dX7_queue_25 : decode cX7_queue 25 = .ok (.ireturn, 1) := by decide +kernel
theorem dX7_queue_26 : decode cX7_queue 26 = .ok (.iload_n 1, 1) := by decide +kernel
theorem dX7_queue_27 : decode cX7_queue 27 = .ok (.iload_n 2, 1) := by decide +kernel
theorem dX7_queue_28 : decode cX7_queue 28 = .ok (.invokestatic 95, 3) := by decide +kernel
theorem dX7_queue_31 : decode cX7_queue 31 = .ok (.istore 4, 2) := by decide +kernel
theorem dX7_queue_33 : decode cX7_queue 33 = .ok (.iload_n 3, 1) := by decide +kernel
theorem dX7_queue_34 : decode cX7_queue 34 = .ok (.tableswitch 77 0 2 #[26, 40, 63], 26) := by decide +kernel
theorem dX7_queue_60 : decode cX7_queue 60 = .ok (.aload_n 0, 1) := by decide +kernel
theorem dX7_queue_61 : decode cX7_queue 61 = .ok (.getfield 19, 3) := by decide +kernel
theorem dX7_queue_64 : decode cX7_queue 64 = .ok (.getfield 127, 3) := by decide +kernel
theorem dX7_queue_67 : decode cX7_queue 67 = .ok (.getfield 131, 3) := by decide +kernel
theorem dX7_queue_70 : decode cX7_queue 70 = .ok (.iload 4, 2) := by decide +kernel
theorem dX7_queue_72 : decode cX7_queue 72 = .ok (.iaload, 1) := by decide +kernel
theorem dX7_queue_73 : decode cX7_queue 73 = .ok (.ireturn, 1) := by decide +kernel
theorem dX7_queue_74 : decode cX7_queue 74 = .ok (.aload_n 0, 1) := by decide +kernel
theorem dX7_queue_75 : decode cX7_queue 75 = .ok (.getfield 19, 3) := by decide +kernel
theorem dX7_queue_78 : decode cX7_queue 78 = .ok (.getfield 127, 3) := by decide +kernel
theorem dX7_queue_81 : decode cX7_queue 81 = .ok (.iload 4, 2) := by decide +kernel
theorem dX7_queue_83 : decode cX7_queue 83 = .ok (.aload_n 0, 1) := by decide +kernel
theorem dX7_queue_84 : decode cX7_queue 84 = .ok (.getfield 19, 3) := by decide +kernel
theorem dX7_queue_87 : decode cX7_queue 87 = .ok (.getfield 74, 3) := by decide +kernel
theorem dX7_queue_90 : decode cX7_queue 90 = .ok (.getfield 156, 3) := by decide +kernel
theorem dX7_queue_93 : decode cX7_queue 93 = .ok (.invokevirtual 159, 3) := by decide +kernel
theorem dX7_queue_96 : decode cX7_queue 96 = .ok (.ireturn, 1) := by decide +kernel
theorem dX7_queue_97 : decode cX7_queue 97 = .ok (.aload_n 0, 1) := by decide +kernel
theorem dX7_queue_98 : decode cX7_queue 98 = .ok (.getfield 19, 3) := by decide +kernel
theorem dX7_queue_101 : decode cX7_queue 101 = .ok (.getfield 74, 3) := by decide +kernel
theorem dX7_queue_104 : decode cX7_queue 104 = .ok (.getfield 91, 3) := by decide +kernel
theorem dX7_queue_107 : decode cX7_queue 107 = .ok (.iload 4, 2) := by decide +kernel
theorem dX7_queue_109 : decode cX7_queue 109 = .ok (.iaload, 1) := by decide +kernel
theorem dX7_queue_110 : decode cX7_queue 110 = .ok (.ireturn, 1) := by decide +kernel
theorem dX7_queue_111 : decode cX7_queue 111 = .ok (.aload_n 0, 1) := by decide +kernel
theorem dX7_queue_112 : decode cX7_queue 112 = .ok (.getfield 19, 3) := by decide +kernel
theorem dX7_queue_115 : decode cX7_queue 115 = .ok (.getfield 74, 3) := by decide +kernel
theorem dX7_queue_118 : decode cX7_queue 118 = .ok (.iload 4, 2) := by decide +kernel
theorem dX7_queue_120 : decode cX7_queue 120 = .ok (.invokevirtual 162, 3) := by decide +kernel
theorem dX7_queue_123 : decode cX7_queue 123 = .ok (.ireturn, 1) := by decide +kernel
theorem dX7_link_0 : decode cX7_link 0 = .ok (.aload_n 0, 1) := by decide +kernel
theorem dX7_link_1 : decode cX7_link 1 = .ok (.getfield 19, 3) := by decide +kernel
theorem dX7_link_4 : decode cX7_link 4 = .ok (.getfield 74, 3) := by decide +kernel
theorem dX7_link_7 : decode cX7_link 7 = .ok (.iload_n 1, 1) := by decide +kernel
theorem dX7_link_8 : decode cX7_link 8 = .ok (.invokevirtual 103, 3) := by decide +kernel
theorem dX7_link_11 : decode cX7_link 11 = .ok (.ifCond .eq 13, 3) := by decide +kernel
theorem dX7_link_14 : decode cX7_link 14 = .ok (.iload_n 2, 1) := by decide +kernel
theorem dX7_link_15 : decode cX7_link 15 = .ok (.iconst 0, 1) := by decide +kernel
theorem dX7_link_16 : decode cX7_link 16 = .ok (.bipush 6, 2) := by decide +kernel
theorem dX7_link_18 : decode cX7_link 18 = .ok (.invokestatic 70, 3) := by decide +kernel
theorem dX7_link_21 : decode cX7_link 21 = .ok (.ifCond .ne 5, 3) := by decide +kernel
theorem dX7_link_24 : decode cX7_link 24 = .ok (.iconst (-1), 1) := by decide +kernel
theorem dX7_link_25 : decode cX7_link 25 = .ok (.ireturn, 1) := by decide +kernel
theorem dX7_link_26 : decode cX7_link 26 = .ok (.iload_n 2, 1) := by decide +kernel
theorem dX7_link_27 : decode cX7_link 27 = .ok (.tableswitch 93 0 6 #[41, 54, 67, 93, 93, 93, 80], 41) := by decide +kernel
theorem dX7_link_68 : decode cX7_link 68 = .ok (.aload_n 0, 1) := by decide +kernel
theorem dX7_link_69 : decode cX7_link 69 = .ok (.getfield 19, 3) := by decide +kernel
theorem dX7_link_72 : decode cX7_link 72 = .ok (.getfield 74, 3) := by decide +kernel
theorem dX7_link_75 : decode cX7_link 75 = .ok (.getfield 165, 3) := by decide +kernel
theorem dX7_link_78 : decode cX7_link 78 = .ok (.iload_n 1, 1) := by decide +kernel
theorem dX7_link_79 : decode cX7_link 79 = .ok (.iaload, 1) := by decide +kernel
theorem dX7_link_80 : decode cX7_link 80 = .ok (.ireturn, 1) := by decide +kernel
theorem dX7_link_81 : decode cX7_link 81 = .ok (.aload_n 0, 1) := by decide +kernel
theorem dX7_link_82 : decode cX7_link 82 = .ok (.getfield 19, 3) := by decide +kernel
theorem dX7_link_85 : decode cX7_link 85 = .ok (.getfield 74, 3) := by decide +kernel
theorem dX7_link_88 : decode cX7_link 88 = .ok (.getfield 168, 3) := by decide +kernel
theorem dX7_link_91 : decode cX7_link 91 = .ok (.iload_n 1, 1) := by decide +kernel
theorem dX7_link_92 : decode cX7_link 92 = .ok (.iaload, 1) := by decide +kernel
theorem dX7_link_93 : decode cX7_link 93 = .ok (.ireturn, 1) := by decide +kernel
theorem dX7_link_94 : decode cX7_link 94 = .ok (.aload_n 0, 1) := by decide +kernel
theorem dX7_link_95 : decode cX7_link 95 = .ok (.getfield 19, 3) := by decide +kernel
theorem dX7_link_98 : decode cX7_link 98 = .ok (.getfield 74, 3) := by decide +kernel
theorem dX7_link_101 : decode cX7_link 101 = .ok (.getfield 107, 3) := by decide +kernel
theorem dX7_link_104 : decode cX7_link 104 = .ok (.iload_n 1, 1) := by decide +kernel
theorem dX7_link_105 : decode cX7_link 105 = .ok (.iaload, 1) := by decide +kernel
theorem dX7_link_106 : decode cX7_link 106 = .ok (.ireturn, 1) := by decide +kernel
theorem dX7_link_107 : decode cX7_link 107 = .ok (.aload_n 0, 1) := by decide +kernel
theorem dX7_link_108 : decode cX7_link 108 = .ok (.getfield 19, 3) := by decide +kernel
theorem dX7_link_111 : decode cX7_link 111 = .ok (.getfield 74, 3) := by decide +kernel
theorem dX7_link_114 : decode cX7_link 114 = .ok (.getfield 171, 3) := by decide +kernel
theorem dX7_link_117 : decode cX7_link 117 = .ok (.iload_n 1, 1) := by decide +kernel
theorem dX7_link_118 : decode cX7_link 118 = .ok (.iaload, 1) := by decide +kernel
theorem dX7_link_119 : decode cX7_link 119 = .ok (.ireturn, 1) := by decide +kernel
theorem dX7_link_120 : decode cX7_link 120 = .ok (.aload_n 0, 1) := by decide +kernel
theorem dX7_link_121 : decode cX7_link 121 = .ok (.iload_n 1, 1) := by decide +kernel
theorem dX7_link_122 : decode cX7_link 122 = .ok (.iload_n 2, 1) := by decide +kernel
theorem dX7_link_123 : decode cX7_link 123 = .ok (.invokevirtual 174, 3) := by decide +kernel
theorem dX7_link_126 : decode cX7_link 126 = .ok (.ireturn, 1) := by decide +kernel
theorem dX7_drop_0 : decode cX7_drop 0 = .ok (.aload_n 0, 1) := by decide +kernel
theorem dX7_drop_1 : decode cX7_drop 1 = .ok (.getfield 19, 3) := by decide +kernel
theorem dX7_drop_4 : decode cX7_drop 4 = .ok (.getfield 74, 3) := by decide +kernel
theorem dX7_drop_7 : decode cX7_drop 7 = .ok (.iload_n 1, 1) := by decide +kernel
theorem dX7_drop_8 : decode cX7_drop 8 = .ok (.invokevirtual 103, 3) := by decide +kernel
theorem dX7_drop_11 : decode cX7_drop 11 = .ok (.ifCond .eq 17, 3) := by decide +kernel
theorem dX7_drop_14 : decode cX7_drop 14 = .ok (.aload_n 0, 1) := by decide +kernel
theorem dX7_drop_15 : decode cX7_drop 15 = .ok (.getfield 19, 3) := by decide +kernel
theorem dX7_drop_18 : decode cX7_drop 18 = .ok (.getfield 74, 3) := by decide +kernel
theorem dX7_drop_21 : decode cX7_drop 21 = .ok (.iload_n 2, 1) := by decide +kernel
theorem dX7_drop_22 : decode cX7_drop 22 = .ok (.invokevirtual 177, 3) := by decide +kernel
theorem dX7_drop_25 : decode cX7_drop 25 = .ok (.ifCond .ne 5, 3) := by decide +kernel
theorem dX7_drop_28 : decode cX7_drop 28 = .ok (.iconst (-1), 1) := by decide +kernel
theorem dX7_drop_29 : decode cX7_drop 29 = .ok (.ireturn, 1) := by decide +kernel
theorem dX7_drop_30 : decode cX7_drop 30 = .ok (.aload_n 0, 1) := by decide +kernel
theorem dX7_drop_31 : decode cX7_drop 31 = .ok (.getfield 19, 3) := by decide +kernel
theorem dX7_drop_34 : decode cX7_drop 34 = .ok (.iload_n 1, 1) := by decide +kernel
theorem dX7_drop_35 : decode cX7_drop 35 = .ok (.iload_n 2, 1) := by decide +kernel
theorem dX7_drop_36 : decode cX7_drop 36 = .ok (.invokevirtual 180, 3) := by decide +kernel
theorem dX7_drop_39 : decode cX7_drop 39 = .ok (.sipush 1000, 3) := by decide +kernel
theorem dX7_drop_42 : decode cX7_drop 42 = .ok (.iadd, 1) := by decide +kernel
theorem dX7_drop_43 : decode cX7_drop 43 = .ok (.ireturn, 1) := by decide +kernel
theorem dX7_goes_0 : decode cX7_goes 0 = .ok (.iload_n 1, 1) := by decide +kernel
theorem dX7_goes_1 : decode cX7_goes 1 = .ok (.iconst 0, 1) := by decide +kernel
theorem dX7_goes_2 : decode cX7_goes 2 = .ok (.iconst 1, 1) := by decide +kernel
theorem dX7_goes_3 : decode cX7_goes 3 = .ok (.invokestatic 70, 3) := by decide +kernel
theorem dX7_goes_6 : decode cX7_goes 6 = .ok (.ifCond .ne 5, 3) := by decide +kernel
theorem dX7_goes_9 : decode cX7_goes 9 = .ok (.iconst (-1), 1) := by decide +kernel
theorem dX7_goes_10 : decode cX7_goes 10 = .ok (.ireturn, 1) := by decide +kernel
theorem dX7_goes_11 : decode cX7_goes 11 = .ok (.aload_n 0, 1) := by decide +kernel
theorem dX7_goes_12 : decode cX7_goes 12 = .ok (.getfield 36, 3) := by decide +kernel
theorem dX7_goes_15 : decode cX7_goes 15 = .ok (.aload_n 0, 1) := by decide +kernel
theorem dX7_goes_16 : decode cX7_goes 16 = .ok (.getfield 19, 3) := by decide +kernel
theorem dX7_goes_19 : decode cX7_goes 19 = .ok (.invokevirtual 183, 3) := by decide +kernel
theorem dX7_goes_22 : decode cX7_goes 22 = .ok (.aload_n 0, 1) := by decide +kernel
theorem dX7_goes_23 : decode cX7_goes 23 = .ok (.getfield 36, 3) := by decide +kernel
theorem dX7_goes_26 : decode cX7_goes 26 = .ok (.aload_n 0, 1) := by decide +kernel
theorem dX7_goes_27 : decode cX7_goes 27 = .ok (.getfield 19, 3) := by decide +kernel
theorem dX7_goes_30 : decode cX7_goes 30 = .ok (.getfield 74, 3) := by decide +kernel
theorem dX7_goes_33 : decode cX7_goes 33 = .ok (.iconst 0, 1) := by decide +kernel
theorem dX7_goes_34 : decode cX7_goes 34 = .ok (.invokevirtual 186, 3) := by decide +kernel
theorem dX7_goes_37 : decode cX7_goes 37 = .ok (.iload_n 1, 1) := by decide +kernel
theorem dX7_goes_38 : decode cX7_goes 38 = .ok (.ifCond .ne 13, 3) := by decide +kernel
theorem dX7_goes_41 : decode cX7_goes 41 = .ok (.aload_n 0, 1) := by decide +kernel
theorem dX7_goes_42 : decode cX7_goes 42 = .ok (.getfield 36, 3) := by decide +kernel
theorem dX7_goes_45 : decode cX7_goes 45 = .ok (.getfield 190, 3) := by decide +kernel
theorem dX7_goes_48 : decode cX7_goes 48 = .ok (.goto 10, 3) := by decide +kernel
theorem dX7_goes_51 : decode cX7_goes 51 = .ok (.aload_n 0, 1) := by decide +kernel
theorem dX7_goes_52 : decode cX7_goes 52 = .ok (.getfield 36, 3) := by decide +kernel
theorem dX7_goes_55 : decode cX7_goes 55 = .ok (.getfield 193, 3) := by decide +kernel
theorem dX7_goes_58 : decode cX7_goes 58 = .ok (.ireturn, 1) := by decide +kernel
theorem dX7_goal_0 : decode cX7_goal 0 = .ok (.aload_n 0, 1) := by decide +kernel
theorem dX7_goal_1 : decode cX7_goal 1 = .ok (.getfield 19, 3) := by decide +kernel
theorem dX7_goal_4 : decode cX7_goal 4 = .ok (.getfield 74, 3) := by decide +kernel
theorem dX7_goal_7 : decode cX7_goal 7 = .ok (.iload_n 1, 1) := by decide +kernel
theorem dX7_goal_8 : decode cX7_goal 8 = .ok (.invokevirtual 177, 3) := by decide +kernel
theorem dX7_goal_11 : decode cX7_goal 11 = .ok (.ifCond .eq 12, 3) := by decide +kernel
theorem dX7_goal_14 : decode cX7_goal 14 = .ok (.iload_n 2, 1) := by decide +kernel
theorem dX7_goal_15 : decode cX7_goal 15 = .ok (.iconst 0, 1) := by decide +kernel
theorem dX7_goal_16 : decode cX7_goal 16 = .ok (.iconst 4, 1) := by decide +kernel
theorem dX7_goal_17 : decode cX7_goal 17 = .ok (.invokestatic 70, 3) := by decide +kernel
theorem dX7_goal_20 : decode cX7_goal 20 = .ok (.ifCond .ne 5, 3) := by decide +kernel
theorem dX7_goal_23 : decode cX7_goal 23 = .ok (.iconst (-1), 1) := by decide +kernel
theorem dX7_goal_24 : decode cX7_goal 24 = .ok (.ireturn, 1) := by decide +kernel
theorem dX7_goal_25 : decode cX7_goal 25 = .ok (.iload_n 2, 1) := by decide +kernel
theorem dX7_goal_26 : decode cX7_goal 26 = .ok (.tableswitch 102 0 3 #[30, 43, 56, 69], 30) := by decide +kernel
theorem dX7_goal_56 : decode cX7_goal 56 = .ok (.aload_n 0, 1) := by decide +kernel
theorem dX7_goal_57 : decode cX7_goal 57 = .ok (.getfield 19, 3) := by decide +kernel
theorem dX7_goal_60 : decode cX7_goal 60 = .ok (.getfield 74, 3) := by decide +kernel
theorem dX7_goal_63 : decode cX7_goal 63 = .ok (.getfield 196, 3) := by decide +kernel
theorem dX7_goal_66 : decode cX7_goal 66 = .ok (.iload_n 1, 1) := by decide +kernel
theorem dX7_goal_67 : decode cX7_goal 67 = .ok (.iaload, 1) := by decide +kernel
theorem dX7_goal_68 : decode cX7_goal 68 = .ok (.ireturn, 1) := by decide +kernel
theorem dX7_goal_69 : decode cX7_goal 69 = .ok (.aload_n 0, 1) := by decide +kernel
theorem dX7_goal_70 : decode cX7_goal 70 = .ok (.getfield 19, 3) := by decide +kernel
theorem dX7_goal_73 : decode cX7_goal 73 = .ok (.getfield 127, 3) := by decide +kernel
theorem dX7_goal_76 : decode cX7_goal 76 = .ok (.getfield 199, 3) := by decide +kernel
theorem dX7_goal_79 : decode cX7_goal 79 = .ok (.iload_n 1, 1) := by decide +kernel
theorem dX7_goal_80 : decode cX7_goal 80 = .ok (.iaload, 1) := by decide +kernel
theorem dX7_goal_81 : decode cX7_goal 81 = .ok (.ireturn, 1) := by decide +kernel
theorem dX7_goal_82 : decode cX7_goal 82 = .ok (.aload_n 0, 1) := by decide +kernel
theorem dX7_goal_83 : decode cX7_goal 83 = .ok (.getfield 19, 3) := by decide +kernel
theorem dX7_goal_86 : decode cX7_goal 86 = .ok (.getfield 127, 3) := by decide +kernel
theorem dX7_goal_89 : decode cX7_goal 89 = .ok (.getfield 202, 3) := by decide +kernel
theorem dX7_goal_92 : decode cX7_goal 92 = .ok (.iload_n 1, 1) := by decide +kernel
theorem dX7_goal_93 : decode cX7_goal 93 = .ok (.iaload, 1) := by decide +kernel
theorem dX7_goal_94 : decode cX7_goal 94 = .ok (.ireturn, 1) := by decide +kernel
theorem dX7_goal_95 : decode cX7_goal 95 = .ok (.aload_n 0, 1) := by decide +kernel
theorem dX7_goal_96 : decode cX7_goal 96 = .ok (.getfield 19, 3) := by decide +kernel
theorem dX7_goal_99 : decode cX7_goal 99 = .ok (.getfield 127, 3) := by decide +kernel
theorem dX7_goal_102 : decode cX7_goal 102 = .ok (.getfield 199, 3) := by decide +kernel
theorem dX7_goal_105 : decode cX7_goal 105 = .ok (.iload_n 1, 1) := by decide +kernel
theorem dX7_goal_106 : decode cX7_goal 106 = .ok (.iaload, 1) := by decide +kernel
theorem dX7_goal_107 : decode cX7_goal 107 = .ok (.ifCond .ne 8, 3) := by decide +kernel
theorem dX7_goal_110 : decode cX7_goal 110 = .ok (.bipush (-4), 2) := by decide +kernel
theorem dX7_goal_112 : decode cX7_goal 112 = .ok (.goto 15, 3) := by decide +kernel
theorem dX7_goal_115 : decode cX7_goal 115 = .ok (.aload_n 0, 1) := by decide +kernel
theorem dX7_goal_116 : decode cX7_goal 116 = .ok (.getfield 19, 3) := by decide +kernel
theorem dX7_goal_119 : decode cX7_goal 119 = .ok (.getfield 127, 3) := by decide +kernel
theorem dX7_goal_122 : decode cX7_goal 122 = .ok (.getfield 205, 3) := by decide +kernel
theorem dX7_goal_125 : decode cX7_goal 125 = .ok (.iload_n 1, 1) := by decide +kernel
theorem dX7_goal_126 : decode cX7_goal 126 = .ok (.iaload, 1) := by decide +kernel
theorem dX7_goal_127 : decode cX7_goal 127 = .ok (.ireturn, 1) := by decide +kernel
theorem dX7_goal_128 : decode cX7_goal 128 = .ok (.aload_n 0, 1) := by decide +kernel
theorem dX7_goal_129 : decode cX7_goal 129 = .ok (.getfield 19, 3) := by decide +kernel
theorem dX7_goal_132 : decode cX7_goal 132 = .ok (.getfield 127, 3) := by decide +kernel
theorem dX7_goal_135 : decode cX7_goal 135 = .ok (.iload_n 1, 1) := by decide +kernel
theorem dX7_goal_136 : decode cX7_goal 136 = .ok (.invokevirtual 208, 3) := by decide +kernel
theorem dX7_goal_139 : decode cX7_goal 139 = .ok (.ireturn, 1) := by decide +kernel
theorem dX7_ahead_0 : decode cX7_ahead 0 = .ok (.iload_n 1, 1) := by decide +kernel
theorem dX7_ahead_1 : decode cX7_ahead 1 = .ok (.iconst 1, 1) := by decide +kernel
theorem dX7_ahead_2 : decode cX7_ahead 2 = .ok (.bipush 60, 2) := by decide +kernel
theorem dX7_ahead_4 : decode cX7_ahead 4 = .ok (.invokestatic 70, 3) := by decide +kernel
theorem dX7_ahead_7 : decode cX7_ahead 7 = .ok (.ifCond .eq 12, 3) := by decide +kernel
theorem dX7_ahead_10 : decode cX7_ahead 10 = .ok (.iload_n 2, 1) := by decide +kernel
theorem dX7_ahead_11 : decode cX7_ahead 11 = .ok (.iconst 0, 1) := by decide +kernel
theorem dX7_ahead_12 : decode cX7_ahead 12 = .ok (.iconst 3, 1) := by decide +kernel
theorem dX7_ahead_13 : decode cX7_ahead 13 = .ok (.invokestatic 70, 3) := by decide +kernel
theorem dX7_ahead_16 : decode cX7_ahead 16 = .ok (.ifCond .ne 5, 3) := by decide +kernel
theorem dX7_ahead_19 : decode cX7_ahead 19 = .ok (.iconst (-1), 1) := by decide +kernel
theorem dX7_ahead_20 : decode cX7_ahead 20 = .ok (.ireturn, 1) := by decide +kernel
theorem dX7_ahead_21 : decode cX7_ahead 21 = .ok (.aload_n 0, 1) := by decide +kernel
theorem dX7_ahead_22 : decode cX7_ahead 22 = .ok (.getfield 23, 3) := by decide +kernel
theorem dX7_ahead_25 : decode cX7_ahead 25 = .ok (.aload_n 0, 1) := by decide +kernel
theorem dX7_ahead_26 : decode cX7_ahead 26 = .ok (.getfield 19, 3) := by decide +kernel
theorem dX7_ahead_29 : decode cX7_ahead 29 = .ok (.invokevirtual 211, 3) := by decide +kernel
theorem dX7_ahead_32 : decode cX7_ahead 32 = .ok (.iconst 0, 1) := by decide +kernel
theorem dX7_ahead_33 : decode cX7_ahead 33 = .ok (.istore_n 3, 1) := by decide +kernel
theorem dX7_ahead_34 : decode cX7_ahead 34 = .ok (.iconst 0, 1) := by decide +kernel
theorem dX7_ahead_35 : decode cX7_ahead 35 = .ok (.istore 4, 2) := by decide +kernel
theorem dX7_ahead_37 : decode cX7_ahead 37 = .ok (.iload 4, 2) := by decide +kernel
theorem dX7_ahead_39 : decode cX7_ahead 39 = .ok (.iload_n 1, 1) := by decide +kernel
theorem dX7_ahead_40 : decode cX7_ahead 40 = .ok (.if_icmp .ge 46, 3) := by decide +kernel
theorem dX7_ahead_43 : decode cX7_ahead 43 = .ok (.aload_n 0, 1) := by decide +kernel
theorem dX7_ahead_44 : decode cX7_ahead 44 = .ok (.getfield 43, 3) := by decide +kernel
theorem dX7_ahead_47 : decode cX7_ahead 47 = .ok (.aload_n 0, 1) := by decide +kernel
theorem dX7_ahead_48 : decode cX7_ahead 48 = .ok (.getfield 23, 3) := by decide +kernel
theorem dX7_ahead_51 : decode cX7_ahead 51 = .ok (.iconst 0, 1) := by decide +kernel
theorem dX7_ahead_52 : decode cX7_ahead 52 = .ok (.aload_n 0, 1) := by decide +kernel
theorem dX7_ahead_53 : decode cX7_ahead 53 = .ok (.getfield 23, 3) := by decide +kernel
theorem dX7_ahead_56 : decode cX7_ahead 56 = .ok (.getfield 74, 3) := by decide +kernel
theorem dX7_ahead_59 : decode cX7_ahead 59 = .ok (.getfield 91, 3) := by decide +kernel
theorem dX7_ahead_62 : decode cX7_ahead 62 = .ok (.invokevirtual 146, 3) := by decide +kernel
theorem dX7_ahead_65 : decode cX7_ahead 65 = .ok (.iload_n 3, 1) := by decide +kernel
theorem dX7_ahead_66 : decode cX7_ahead 66 = .ok (.aload_n 0, 1) := by decide +kernel
theorem dX7_ahead_67 : decode cX7_ahead 67 = .ok (.getfield 23, 3) := by decide +kernel
theorem dX7_ahead_70 : decode cX7_ahead 70 = .ok (.getfield 127, 3) := by decide +kernel
theorem dX7_ahead_73 : decode cX7_ahead 73 = .ok (.invokevirtual 214, 3) := by decide +kernel
theorem dX7_ahead_76 : decode cX7_ahead 76 = .ok (.invokestatic 217, 3) := by decide +kernel
theorem dX7_ahead_79 : decode cX7_ahead 79 = .ok (.istore_n 3, 1) := by decide +kernel
theorem dX7_ahead_80 : decode cX7_ahead 80 = .ok (.iinc 4 1, 3) := by decide +kernel
theorem dX7_ahead_83 : decode cX7_ahead 83 = .ok (.goto (-46), 3) := by decide +kernel
theorem dX7_ahead_86 : decode cX7_ahead 86 = .ok (.iload_n 2, 1) := by decide +kernel
theorem dX7_ahead_87 : decode cX7_ahead 87 = .ok (.iconst 3, 1) := by decide +kernel
theorem dX7_ahead_88 : decode cX7_ahead 88 = .ok (.if_icmp .ne 7, 3) := by decide +kernel
theorem dX7_ahead_91 : decode cX7_ahead 91 = .ok (.iload_n 3, 1) := by decide +kernel
theorem dX7_ahead_92 : decode cX7_ahead 92 = .ok (.goto 8, 3) := by decide +kernel
theorem dX7_ahead_95 : decode cX7_ahead 95 = .ok (.aload_n 0, 1) := by decide +kernel
theorem dX7_ahead_96 : decode cX7_ahead 96 = .ok (.iload_n 2, 1) := by decide +kernel
theorem dX7_ahead_97 : decode cX7_ahead 97 = .ok (.invokevirtual 222, 3) := by decide +kernel
theorem dX7_ahead_100 : decode cX7_ahead 100 = .ok (.ireturn, 1) := by decide +kernel
theorem dX7_without_0 : decode cX7_without 0 = .ok (.aload_n 0, 1) := by decide +kernel
theorem dX7_without_1 : decode cX7_without 1 = .ok (.getfield 19, 3) := by decide +kernel
theorem dX7_without_4 : decode cX7_without 4 = .ok (.getfield 74, 3) := by decide +kernel
theorem dX7_without_7 : decode cX7_without 7 = .ok (.iload_n 1, 1) := by decide +kernel
theorem dX7_without_8 : decode cX7_without 8 = .ok (.invokevirtual 103, 3) := by decide +kernel
theorem dX7_without_11 : decode cX7_without 11 = .ok (.ifCond .ne 5, 3) := by decide +kernel
theorem dX7_without_14 : decode cX7_without 14 = .ok (.iconst (-1), 1) := by decide +kernel
theorem dX7_without_15 : decode cX7_without 15 = .ok (.ireturn, 1) := by decide +kernel
theorem dX7_without_16 : decode cX7_without 16 = .ok (.aload_n 0, 1) := by decide +kernel
theorem dX7_without_17 : decode cX7_without 17 = .ok (.getfield 23, 3) := by decide +kernel
theorem dX7_without_20 : decode cX7_without 20 = .ok (.aload_n 0, 1) := by decide +kernel
theorem dX7_without_21 : decode cX7_without 21 = .ok (.getfield 19, 3) := by decide +kernel
theorem dX7_without_24 : decode cX7_without 24 = .ok (.invokevirtual 211, 3) := by decide +kernel
theorem dX7_without_27 : decode cX7_without 27 = .ok (.iconst 0, 1) := by decide +kernel
theorem dX7_without_28 : decode cX7_without 28 = .ok (.istore_n 2, 1) := by decide +kernel
theorem dX7_without_29 : decode cX7_without 29 = .ok (.iload_n 2, 1) := by decide +kernel
theorem dX7_without_30 : decode cX7_without 30 = .ok (.bipush 20, 2) := by decide +kernel
theorem dX7_without_32 : decode cX7_without 32 = .ok (.if_icmp .ge 33, 3) := by decide +kernel
theorem dX7_without_35 : decode cX7_without 35 = .ok (.aload_n 0, 1) := by decide +kernel
theorem dX7_without_36 : decode cX7_without 36 = .ok (.getfield 43, 3) := by decide +kernel
theorem dX7_without_39 : decode cX7_without 39 = .ok (.aload_n 0, 1) := by decide +kernel
theorem dX7_without_40 : decode cX7_without 40 = .ok (.getfield 23, 3) := by decide +kernel
theorem dX7_without_43 : decode cX7_without 43 = .ok (.iconst 1, 1) := by decide +kernel
theorem dX7_without_44 : decode cX7_without 44 = .ok (.iload_n 1, 1) := by decide +kernel
theorem dX7_without_45 : decode cX7_without 45 = .ok (.ishl, 1) := by decide +kernel
theorem dX7_without_46 : decode cX7_without 46 = .ok (.aload_n 0, 1) := by decide +kernel
theorem dX7_without_47 : decode cX7_without 47 = .ok (.getfield 23, 3) := by decide +kernel
theorem dX7_without_50 : decode cX7_without 50 = .ok (.getfield 74, 3) := by decide +kernel
theorem dX7_without_53 : decode cX7_without 53 = .ok (.getfield 91, 3) := by decide +kernel
theorem dX7_without_56 : decode cX7_without 56 = .ok (.invokevirtual 146, 3) := by decide +kernel
theorem dX7_without_59 : decode cX7_without 59 = .ok (.iinc 2 1, 3) := by decide +kernel
theorem dX7_without_62 : decode cX7_without 62 = .ok (.goto (-33), 3) := by decide +kernel
theorem dX7_without_65 : decode cX7_without 65 = .ok (.aload_n 0, 1) := by decide +kernel
theorem dX7_without_66 : decode cX7_without 66 = .ok (.getfield 23, 3) := by decide +kernel
theorem dX7_without_69 : decode cX7_without 69 = .ok (.getfield 127, 3) := by decide +kernel
theorem dX7_without_72 : decode cX7_without 72 = .ok (.invokevirtual 225, 3) := by decide +kernel
theorem dX7_without_75 : decode cX7_without 75 = .ok (.ireturn, 1) := by decide +kernel
theorem dX7_worst_0 : decode cX7_worst 0 = .ok (.iload_n 1, 1) := by decide +kernel
theorem dX7_worst_1 : decode cX7_worst 1 = .ok (.iconst 0, 1) := by decide +kernel
theorem dX7_worst_2 : decode cX7_worst 2 = .ok (.iconst 2, 1) := by decide +kernel
theorem dX7_worst_3 : decode cX7_worst 3 = .ok (.invokestatic 70, 3) := by decide +kernel
theorem dX7_worst_6 : decode cX7_worst 6 = .ok (.ifCond .ne 5, 3) := by decide +kernel
theorem dX7_worst_9 : decode cX7_worst 9 = .ok (.iconst (-1), 1) := by decide +kernel
theorem dX7_worst_10 : decode cX7_worst 10 = .ok (.ireturn, 1) := by decide +kernel
theorem dX7_worst_11 : decode cX7_worst 11 = .ok (.aload_n 0, 1) := by decide +kernel
theorem dX7_worst_12 : decode cX7_worst 12 = .ok (.getfield 36, 3) := by decide +kernel
theorem dX7_worst_15 : decode cX7_worst 15 = .ok (.aload_n 0, 1) := by decide +kernel
theorem dX7_worst_16 : decode cX7_worst 16 = .ok (.getfield 19, 3) := by decide +kernel
theorem dX7_worst_19 : decode cX7_worst 19 = .ok (.invokevirtual 183, 3) := by decide +kernel
theorem dX7_worst_22 : decode cX7_worst 22 = .ok (.aload_n 0, 1) := by decide +kernel
theorem dX7_worst_23 : decode cX7_worst 23 = .ok (.getfield 36, 3) := by decide +kernel
theorem dX7_worst_26 : decode cX7_worst 26 = .ok (.aload_n 0, 1) := by decide +kernel
theorem dX7_worst_27 : decode cX7_worst 27 = .ok (.getfield 19, 3) := by decide +kernel
theorem dX7_worst_30 : decode cX7_worst 30 = .ok (.getfield 74, 3) := by decide +kernel
theorem dX7_worst_33 : decode cX7_worst 33 = .ok (.iconst 0, 1) := by decide +kernel
theorem dX7_worst_34 : decode cX7_worst 34 = .ok (.invokevirtual 186, 3) := by decide +kernel
theorem dX7_worst_37 : decode cX7_worst 37 = .ok (.aload_n 0, 1) := by decide +kernel
theorem dX7_worst_38 : decode cX7_worst 38 = .ok (.getfield 36, 3) := by decide +kernel
theorem dX7_worst_41 : decode cX7_worst 41 = .ok (.getfield 193, 3) := by decide +kernel
theorem dX7_worst_44 : decode cX7_worst 44 = .ok (.istore_n 2, 1) := by decide +kernel
theorem dX7_worst_45 : decode cX7_worst 45 = .ok (.bipush (-4), 2) := by decide +kernel
theorem dX7_worst_47 : decode cX7_worst 47 = .ok (.istore_n 3, 1) := by decide +kernel
theorem dX7_worst_48 : decode cX7_worst 48 = .ok (.bipush (-4), 2) := by decide +kernel
theorem dX7_worst_50 : decode cX7_worst 50 = .ok (.istore 4, 2) := by decide +kernel
theorem dX7_worst_52 : decode cX7_worst 52 = .ok (.aload_n 0, 1) := by decide +kernel
theorem dX7_worst_53 : decode cX7_worst 53 = .ok (.getfield 23, 3) := by decide +kernel
theorem dX7_worst_56 : decode cX7_worst 56 = .ok (.getfield 74, 3) := by decide +kernel
theorem dX7_worst_59 : decode cX7_worst 59 = .ok (.aload_n 0, 1) := by decide +kernel
theorem dX7_worst_60 : decode cX7_worst 60 = .ok (.getfield 19, 3) := by decide +kernel
theorem dX7_worst_63 : decode cX7_worst 63 = .ok (.getfield 74, 3) := by decide +kernel
theorem dX7_worst_66 : decode cX7_worst 66 = .ok (.invokevirtual 228, 3) := by decide +kernel
theorem dX7_worst_69 : decode cX7_worst 69 = .ok (.iconst 0, 1) := by decide +kernel
theorem dX7_worst_70 : decode cX7_worst 70 = .ok (.istore 5, 2) := by decide +kernel
theorem dX7_worst_72 : decode cX7_worst 72 = .ok (.iload 5, 2) := by decide +kernel
theorem dX7_worst_74 : decode cX7_worst 74 = .ok (.aload_n 0, 1) := by decide +kernel
theorem dX7_worst_75 : decode cX7_worst 75 = .ok (.getfield 19, 3) := by decide +kernel
theorem dX7_worst_78 : decode cX7_worst 78 = .ok (.getfield 74, 3) := by decide +kernel
theorem dX7_worst_81 : decode cX7_worst 81 = .ok (.getfield 231, 3) := by decide +kernel
theorem dX7_worst_84 : decode cX7_worst 84 = .ok (.if_icmp .ge 80, 3) := by decide +kernel
theorem dX7_worst_87 : decode cX7_worst 87 = .ok (.iload 5, 2) := by decide +kernel
theorem dX7_worst_89 : decode cX7_worst 89 = .ok (.iconst 1, 1) := by decide +kernel
theorem dX7_worst_90 : decode cX7_worst 90 = .ok (.iadd, 1) := by decide +kernel
theorem dX7_worst_91 : decode cX7_worst 91 = .ok (.istore 6, 2) := by decide +kernel
theorem dX7_worst_93 : decode cX7_worst 93 = .ok (.iload 6, 2) := by decide +kernel
theorem dX7_worst_95 : decode cX7_worst 95 = .ok (.aload_n 0, 1) := by decide +kernel
theorem dX7_worst_96 : decode cX7_worst 96 = .ok (.getfield 19, 3) := by decide +kernel
theorem dX7_worst_99 : decode cX7_worst 99 = .ok (.getfield 74, 3) := by decide +kernel
theorem dX7_worst_102 : decode cX7_worst 102 = .ok (.getfield 231, 3) := by decide +kernel
theorem dX7_worst_105 : decode cX7_worst 105 = .ok (.if_icmp .ge 53, 3) := by decide +kernel
theorem dX7_worst_108 : decode cX7_worst 108 = .ok (.aload_n 0, 1) := by decide +kernel
theorem dX7_worst_109 : decode cX7_worst 109 = .ok (.getfield 19, 3) := by decide +kernel
theorem dX7_worst_112 : decode cX7_worst 112 = .ok (.getfield 74, 3) := by decide +kernel
theorem dX7_worst_115 : decode cX7_worst 115 = .ok (.iload 5, 2) := by decide +kernel
theorem dX7_worst_117 : decode cX7_worst 117 = .ok (.iload 6, 2) := by decide +kernel
theorem dX7_worst_119 : decode cX7_worst 119 = .ok (.invokevirtual 117, 3) := by decide +kernel
theorem dX7_worst_122 : decode cX7_worst 122 = .ok (.ifCond .eq 30, 3) := by decide +kernel
theorem dX7_worst_125 : decode cX7_worst 125 = .ok (.aload_n 0, 1) := by decide +kernel
theorem dX7_worst_126 : decode cX7_worst 126 = .ok (.iload 5, 2) := by decide +kernel
theorem dX7_worst_128 : decode cX7_worst 128 = .ok (.iload 6, 2) := by decide +kernel
theorem dX7_worst_130 : decode cX7_worst 130 = .ok (.invokevirtual 234, 3) := by decide +kernel
theorem dX7_worst_133 : decode cX7_worst 133 = .ok (.iload_n 2, 1) := by decide +kernel
theorem dX7_worst_134 : decode cX7_worst 134 = .ok (.if_icmp .le 18, 3) := by decide +kernel
theorem dX7_worst_137 : decode cX7_worst 137 = .ok (.aload_n 0, 1) := by decide +kernel
theorem dX7_worst_138 : decode cX7_worst 138 = .ok (.getfield 36, 3) := by decide +kernel
theorem dX7_worst_141 : decode cX7_worst 141 = .ok (.getfield 193, 3) := by decide +kernel
theorem dX7_worst_144 : decode cX7_worst 144 = .ok (.istore_n 2, 1) := by decide +kernel
theorem dX7_worst_145 : decode cX7_worst 145 = .ok (.iload 5, 2) := by decide +kernel
theorem dX7_worst_147 : decode cX7_worst 147 = .ok (.istore_n 3, 1) := by decide +kernel
theorem dX7_worst_148 : decode cX7_worst 148 = .ok (.iload 6, 2) := by decide +kernel
theorem dX7_worst_150 : decode cX7_worst 150 = .ok (.istore 4, 2) := by decide +kernel
theorem dX7_worst_152 : decode cX7_worst 152 = .ok (.iinc 6 1, 3) := by decide +kernel
theorem dX7_worst_155 : decode cX7_worst 155 = .ok (.goto (-62), 3) := by decide +kernel
theorem dX7_worst_158 : decode cX7_worst 158 = .ok (.iinc 5 1, 3) := by decide +kernel
theorem dX7_worst_161 : decode cX7_worst 161 = .ok (.goto (-89), 3) := by decide +kernel
theorem dX7_worst_164 : decode cX7_worst 164 = .ok (.iload_n 3, 1) := by decide +kernel
theorem dX7_worst_165 : decode cX7_worst 165 = .ok (.bipush (-4), 2) := by decide +kernel
theorem dX7_worst_167 : decode cX7_worst 167 = .ok (.if_icmp .ne 6, 3) := by decide +kernel
theorem dX7_worst_170 : decode cX7_worst 170 = .ok (.bipush (-4), 2) := by decide +kernel
theorem dX7_worst_172 : decode cX7_worst 172 = .ok (.ireturn, 1) := by decide +kernel
theorem dX7_worst_173 : decode cX7_worst 173 = .ok (.iload_n 1, 1) := by decide +kernel
theorem dX7_worst_174 : decode cX7_worst 174 = .ok (.ifCond .ne 7, 3) := by decide +kernel
theorem dX7_worst_177 : decode cX7_worst 177 = .ok (.iload_n 3, 1) := by decide +kernel
theorem dX7_worst_178 : decode cX7_worst 178 = .ok (.goto 14, 3) := by decide +kernel
theorem dX7_worst_181 : decode cX7_worst 181 = .ok (.iload_n 1, 1) := by decide +kernel
theorem dX7_worst_182 : decode cX7_worst 182 = .ok (.iconst 1, 1) := by decide +kernel
theorem dX7_worst_183 : decode cX7_worst 183 = .ok (.if_icmp .ne 8, 3) := by decide +kernel
theorem dX7_worst_186 : decode cX7_worst 186 = .ok (.iload 4, 2) := by decide +kernel
theorem dX7_worst_188 : decode cX7_worst 188 = .ok (.goto 4, 3) := by decide +kernel
theorem dX7_worst_191 : decode cX7_worst 191 = .ok (.iload_n 2, 1) := by decide +kernel
theorem dX7_worst_192 : decode cX7_worst 192 = .ok (.ireturn, 1) := by decide +kernel
theorem dX7_drawn_0 : decode cX7_drawn 0 = .ok (.iload_n 1, 1) := by decide +kernel
theorem dX7_drawn_1 : decode cX7_drawn 1 = .ok (.iconst 0, 1) := by decide +kernel
theorem dX7_drawn_2 : decode cX7_drawn 2 = .ok (.sipush 9999, 3) := by decide +kernel
theorem dX7_drawn_5 : decode cX7_drawn 5 = .ok (.invokestatic 70, 3) := by decide +kernel
theorem dX7_drawn_8 : decode cX7_drawn 8 = .ok (.ifCond .eq 22, 3) := by decide +kernel
theorem dX7_drawn_11 : decode cX7_drawn 11 = .ok (.iload_n 2, 1) := by decide +kernel
theorem dX7_drawn_12 : decode cX7_drawn 12 = .ok (.iconst 1, 1) := by decide +kernel
theorem dX7_drawn_13 : decode cX7_drawn 13 = .ok (.bipush 60, 2) := by decide +kernel
theorem dX7_drawn_15 : decode cX7_drawn 15 = .ok (.invokestatic 70, 3) := by decide +kernel
theorem dX7_drawn_18 : decode cX7_drawn 18 = .ok (.ifCond .eq 12, 3) := by decide +kernel
theorem dX7_drawn_21 : decode cX7_drawn 21 = .ok (.iload_n 3, 1) := by decide +kernel
theorem dX7_drawn_22 : decode cX7_drawn 22 = .ok (.iconst 0, 1) := by decide +kernel
theorem dX7_drawn_23 : decode cX7_drawn 23 = .ok (.iconst 2, 1) := by decide +kernel
theorem dX7_drawn_24 : decode cX7_drawn 24 = .ok (.invokestatic 70, 3) := by decide +kernel
theorem dX7_drawn_27 : decode cX7_drawn 27 = .ok (.ifCond .ne 5, 3) := by decide +kernel
theorem dX7_drawn_30 : decode cX7_drawn 30 = .ok (.iconst (-1), 1) := by decide +kernel
theorem dX7_drawn_31 : decode cX7_drawn 31 = .ok (.ireturn, 1) := by decide +kernel
theorem dX7_drawn_32 : decode cX7_drawn 32 = .ok (.aload_n 0, 1) := by decide +kernel
theorem dX7_drawn_33 : decode cX7_drawn 33 = .ok (.getfield 23, 3) := by decide +kernel
theorem dX7_drawn_36 : decode cX7_drawn 36 = .ok (.aload_n 0, 1) := by decide +kernel
theorem dX7_drawn_37 : decode cX7_drawn 37 = .ok (.getfield 19, 3) := by decide +kernel
theorem dX7_drawn_40 : decode cX7_drawn 40 = .ok (.invokevirtual 211, 3) := by decide +kernel
theorem dX7_drawn_43 : decode cX7_drawn 43 = .ok (.iconst 0, 1) := by decide +kernel
theorem dX7_drawn_44 : decode cX7_drawn 44 = .ok (.istore 4, 2) := by decide +kernel
theorem dX7_drawn_46 : decode cX7_drawn 46 = .ok (.iload 4, 2) := by decide +kernel
theorem dX7_drawn_48 : decode cX7_drawn 48 = .ok (.iload_n 2, 1) := by decide +kernel
theorem dX7_drawn_49 : decode cX7_drawn 49 = .ok (.if_icmp .ge 45, 3) := by decide +kernel
theorem dX7_drawn_52 : decode cX7_drawn 52 = .ok (.aload_n 0, 1) := by decide +kernel
theorem dX7_drawn_53 : decode cX7_drawn 53 = .ok (.getfield 43, 3) := by decide +kernel
theorem dX7_drawn_56 : decode cX7_drawn 56 = .ok (.aload_n 0, 1) := by decide +kernel
theorem dX7_drawn_57 : decode cX7_drawn 57 = .ok (.getfield 23, 3) := by decide +kernel
theorem dX7_drawn_60 : decode cX7_drawn 60 = .ok (.getfield 74, 3) := by decide +kernel
theorem dX7_drawn_63 : decode cX7_drawn 63 = .ok (.iload_n 1, 1) := by decide +kernel
theorem dX7_drawn_64 : decode cX7_drawn 64 = .ok (.iload 4, 2) := by decide +kernel
theorem dX7_drawn_66 : decode cX7_drawn 66 = .ok (.invokevirtual 237, 3) := by decide +kernel
theorem dX7_drawn_69 : decode cX7_drawn 69 = .ok (.aload_n 0, 1) := by decide +kernel
theorem dX7_drawn_70 : decode cX7_drawn 70 = .ok (.getfield 43, 3) := by decide +kernel
theorem dX7_drawn_73 : decode cX7_drawn 73 = .ok (.aload_n 0, 1) := by decide +kernel
theorem dX7_drawn_74 : decode cX7_drawn 74 = .ok (.getfield 23, 3) := by decide +kernel
theorem dX7_drawn_77 : decode cX7_drawn 77 = .ok (.iconst 0, 1) := by decide +kernel
theorem dX7_drawn_78 : decode cX7_drawn 78 = .ok (.aload_n 0, 1) := by decide +kernel
theorem dX7_drawn_79 : decode cX7_drawn 79 = .ok (.getfield 43, 3) := by decide +kernel
theorem dX7_drawn_82 : decode cX7_drawn 82 = .ok (.getfield 241, 3) := by decide +kernel
theorem dX7_drawn_85 : decode cX7_drawn 85 = .ok (.invokevirtual 146, 3) := by decide +kernel
theorem dX7_drawn_88 : decode cX7_drawn 88 = .ok (.iinc 4 1, 3) := by decide +kernel
theorem dX7_drawn_91 : decode cX7_drawn 91 = .ok (.goto (-45), 3) := by decide +kernel
theorem dX7_drawn_94 : decode cX7_drawn 94 = .ok (.aload_n 0, 1) := by decide +kernel
theorem dX7_drawn_95 : decode cX7_drawn 95 = .ok (.iload_n 3, 1) := by decide +kernel
theorem dX7_drawn_96 : decode cX7_drawn 96 = .ok (.invokevirtual 222, 3) := by decide +kernel
theorem dX7_drawn_99 : decode cX7_drawn 99 = .ok (.ireturn, 1) := by decide +kernel
theorem dX7_count_0 : decode cX7_count 0 = .ok (.iload_n 1, 1) := by decide +kernel
theorem dX7_count_1 : decode cX7_count 1 = .ok (.tableswitch 149 0 12 #[67, 78, 89, 100, 111, 122, 149, 149, 149, 149, 149, 133, 141], 67) := by decide +kernel
theorem dX7_count_68 : decode cX7_count 68 = .ok (.aload_n 0, 1) := by decide +kernel
theorem dX7_count_69 : decode cX7_count 69 = .ok (.getfield 19, 3) := by decide +kernel
theorem dX7_count_72 : decode cX7_count 72 = .ok (.getfield 74, 3) := by decide +kernel
theorem dX7_count_75 : decode cX7_count 75 = .ok (.getfield 82, 3) := by decide +kernel
theorem dX7_count_78 : decode cX7_count 78 = .ok (.ireturn, 1) := by decide +kernel
theorem dX7_count_79 : decode cX7_count 79 = .ok (.aload_n 0, 1) := by decide +kernel
theorem dX7_count_80 : decode cX7_count 80 = .ok (.getfield 19, 3) := by decide +kernel
theorem dX7_count_83 : decode cX7_count 83 = .ok (.getfield 74, 3) := by decide +kernel
theorem dX7_count_86 : decode cX7_count 86 = .ok (.getfield 244, 3) := by decide +kernel
theorem dX7_count_89 : decode cX7_count 89 = .ok (.ireturn, 1) := by decide +kernel
theorem dX7_count_90 : decode cX7_count 90 = .ok (.aload_n 0, 1) := by decide +kernel
theorem dX7_count_91 : decode cX7_count 91 = .ok (.getfield 19, 3) := by decide +kernel
theorem dX7_count_94 : decode cX7_count 94 = .ok (.getfield 74, 3) := by decide +kernel
theorem dX7_count_97 : decode cX7_count 97 = .ok (.getfield 231, 3) := by decide +kernel
theorem dX7_count_100 : decode cX7_count 100 = .ok (.ireturn, 1) := by decide +kernel
theorem dX7_count_101 : decode cX7_count 101 = .ok (.aload_n 0, 1) := by decide +kernel
theorem dX7_count_102 : decode cX7_count 102 = .ok (.getfield 19, 3) := by decide +kernel
theorem dX7_count_105 : decode cX7_count 105 = .ok (.getfield 74, 3) := by decide +kernel
theorem dX7_count_108 : decode cX7_count 108 = .ok (.invokevirtual 124, 3) := by decide +kernel
theorem dX7_count_111 : decode cX7_count 111 = .ok (.ireturn, 1) := by decide +kernel
theorem dX7_count_112 : decode cX7_count 112 = .ok (.aload_n 0, 1) := by decide +kernel
theorem dX7_count_113 : decode cX7_count 113 = .ok (.getfield 19, 3) := by decide +kernel
theorem dX7_count_116 : decode cX7_count 116 = .ok (.getfield 74, 3) := by decide +kernel
theorem dX7_count_119 : decode cX7_count 119 = .ok (.getfield 156, 3) := by decide +kernel
theorem dX7_count_122 : decode cX7_count 122 = .ok (.ireturn, 1) := by decide +kernel
theorem dX7_count_123 : decode cX7_count 123 = .ok (.aload_n 0, 1) := by decide +kernel
theorem dX7_count_124 : decode cX7_count 124 = .ok (.getfield 19, 3) := by decide +kernel
theorem dX7_count_127 : decode cX7_count 127 = .ok (.getfield 74, 3) := by decide +kernel
theorem dX7_count_130 : decode cX7_count 130 = .ok (.getfield 247, 3) := by decide +kernel
theorem dX7_count_133 : decode cX7_count 133 = .ok (.ireturn, 1) := by decide +kernel
theorem dX7_count_134 : decode cX7_count 134 = .ok (.aload_n 0, 1) := by decide +kernel
theorem dX7_count_135 : decode cX7_count 135 = .ok (.getfield 29, 3) := by decide +kernel
theorem dX7_count_138 : decode cX7_count 138 = .ok (.getfield 150, 3) := by decide +kernel
theorem dX7_count_141 : decode cX7_count 141 = .ok (.ireturn, 1) := by decide +kernel
theorem dX7_count_142 : decode cX7_count 142 = .ok (.aload_n 0, 1) := by decide +kernel
theorem dX7_count_143 : decode cX7_count 143 = .ok (.getfield 12, 3) := by decide +kernel
theorem dX7_count_146 : decode cX7_count 146 = .ok (.getfield 67, 3) := by decide +kernel
theorem dX7_count_149 : decode cX7_count 149 = .ok (.ireturn, 1) := by decide +kernel
theorem dX7_count_150 : decode cX7_count 150 = .ok (.aload_n 0, 1) := by decide +kernel
theorem dX7_count_151 : decode cX7_count 151 = .ok (.iload_n 1, 1) := by decide +kernel
theorem dX7_count_152 : decode cX7_count 152 = .ok (.invokevirtual 250, 3) := by decide +kernel
theorem dX7_count_155 : decode cX7_count 155 = .ok (.ireturn, 1) := by decide +kernel
theorem dX7_layText_0 : decode cX7_layText 0 = .ok (.aload_n 0, 1) := by decide +kernel
theorem dX7_layText_1 : decode cX7_layText 1 = .ok (.getfield 12, 3) := by decide +kernel
theorem dX7_layText_4 : decode cX7_layText 4 = .ok (.aload_n 0, 1) := by decide +kernel
theorem dX7_layText_5 : decode cX7_layText 5 = .ok (.getfield 23, 3) := by decide +kernel
theorem dX7_layText_8 : decode cX7_layText 8 = .ok (.getfield 74, 3) := by decide +kernel
theorem dX7_layText_11 : decode cX7_layText 11 = .ok (.invokevirtual 78, 3) := by decide +kernel
theorem dX7_layText_14 : decode cX7_layText 14 = .ok (.bipush (-4), 2) := by decide +kernel
theorem dX7_layText_16 : decode cX7_layText 16 = .ok (.if_icmp .ne 16, 3) := by decide +kernel
theorem dX7_layText_19 : decode cX7_layText 19 = .ok (.aload_n 0, 1) := by decide +kernel
theorem dX7_layText_20 : decode cX7_layText 20 = .ok (.getfield 23, 3) := by decide +kernel
theorem dX7_layText_23 : decode cX7_layText 23 = .ok (.getfield 74, 3) := by decide +kernel
theorem dX7_layText_26 : decode cX7_layText 26 = .ok (.getfield 244, 3) := by decide +kernel
theorem dX7_layText_29 : decode cX7_layText 29 = .ok (.ifCond .ne 5, 3) := by decide +kernel
theorem dX7_layText_32 : decode cX7_layText 32 = .ok (.iconst 0, 1) := by decide +kernel
theorem dX7_layText_33 : decode cX7_layText 33 = .ok (.ireturn, 1) := by decide +kernel
theorem dX7_layText_34 : decode cX7_layText 34 = .ok (.aload_n 0, 1) := by decide +kernel
theorem dX7_layText_35 : decode cX7_layText 35 = .ok (.getfield 19, 3) := by decide +kernel
theorem dX7_layText_38 : decode cX7_layText 38 = .ok (.getfield 74, 3) := by decide +kernel
theorem dX7_layText_41 : decode cX7_layText 41 = .ok (.aload_n 0, 1) := by decide +kernel
theorem dX7_layText_42 : decode cX7_layText 42 = .ok (.getfield 23, 3) := by decide +kernel
theorem dX7_layText_45 : decode cX7_layText 45 = .ok (.getfield 74, 3) := by decide +kernel
theorem dX7_layText_48 : decode cX7_layText 48 = .ok (.invokevirtual 228, 3) := by decide +kernel
theorem dX7_layText_51 : decode cX7_layText 51 = .ok (.aload_n 0, 1) := by decide +kernel
theorem dX7_layText_52 : decode cX7_layText 52 = .ok (.getfield 19, 3) := by decide +kernel
theorem dX7_layText_55 : decode cX7_layText 55 = .ok (.getfield 74, 3) := by decide +kernel
theorem dX7_layText_58 : decode cX7_layText 58 = .ok (.invokevirtual 253, 3) := by decide +kernel
theorem dX7_layText_61 : decode cX7_layText 61 = .ok (.aload_n 0, 1) := by decide +kernel
theorem dX7_layText_62 : decode cX7_layText 62 = .ok (.getfield 19, 3) := by decide +kernel
theorem dX7_layText_65 : decode cX7_layText 65 = .ok (.getfield 127, 3) := by decide +kernel
theorem dX7_layText_68 : decode cX7_layText 68 = .ok (.invokevirtual 256, 3) := by decide +kernel
theorem dX7_layText_71 : decode cX7_layText 71 = .ok (.aload_n 0, 1) := by decide +kernel
theorem dX7_layText_72 : decode cX7_layText 72 = .ok (.getfield 29, 3) := by decide +kernel
theorem dX7_layText_75 : decode cX7_layText 75 = .ok (.invokevirtual 259, 3) := by decide +kernel
theorem dX7_layText_78 : decode cX7_layText 78 = .ok (.iconst 1, 1) := by decide +kernel
theorem dX7_layText_79 : decode cX7_layText 79 = .ok (.ireturn, 1) := by decide +kernel
theorem dX7_tellLaw_0 : decode cX7_tellLaw 0 = .ok (.iload_n 1, 1) := by decide +kernel
theorem dX7_tellLaw_1 : decode cX7_tellLaw 1 = .ok (.iconst 0, 1) := by decide +kernel
theorem dX7_tellLaw_2 : decode cX7_tellLaw 2 = .ok (.iconst 1, 1) := by decide +kernel
theorem dX7_tellLaw_3 : decode cX7_tellLaw 3 = .ok (.invokestatic 70, 3) := by decide +kernel
theorem dX7_tellLaw_6 : decode cX7_tellLaw 6 = .ok (.ifCond .ne 5, 3) := by decide +kernel
theorem dX7_tellLaw_9 : decode cX7_tellLaw 9 = .ok (.iconst (-1), 1) := by decide +kernel
theorem dX7_tellLaw_10 : decode cX7_tellLaw 10 = .ok (.ireturn, 1) := by decide +kernel
theorem dX7_tellLaw_11 : decode cX7_tellLaw 11 = .ok (.aload_n 0, 1) := by decide +kernel
theorem dX7_tellLaw_12 : decode cX7_tellLaw 12 = .ok (.getfield 19, 3) := by decide +kernel
theorem dX7_tellLaw_15 : decode cX7_tellLaw 15 = .ok (.getfield 74, 3) := by decide +kernel
theorem dX7_tellLaw_18 : decode cX7_tellLaw 18 = .ok (.getfield 156, 3) := by decide +kernel
theorem dX7_tellLaw_21 : decode cX7_tellLaw 21 = .ok (.istore_n 2, 1) := by decide +kernel
theorem dX7_tellLaw_22 : decode cX7_tellLaw 22 = .ok (.iload_n 2, 1) := by decide +kernel
theorem dX7_tellLaw_23 : decode cX7_tellLaw 23 = .ok (.iload_n 1, 1) := by decide +kernel
theorem dX7_tellLaw_24 : decode cX7_tellLaw 24 = .ok (.if_icmp .ne 6, 3) := by decide +kernel
theorem dX7_tellLaw_27 : decode cX7_tellLaw 27 = .ok (.bipush (-2), 2) := by decide +kernel
theorem dX7_tellLaw_29 : decode cX7_tellLaw 29 = .ok (.ireturn, 1) := by decide +kernel
theorem dX7_tellLaw_30 : decode cX7_tellLaw 30 = .ok (.aload_n 0, 1) := by decide +kernel
theorem dX7_tellLaw_31 : decode cX7_tellLaw 31 = .ok (.getfield 29, 3) := by decide +kernel
theorem dX7_tellLaw_34 : decode cX7_tellLaw 34 = .ok (.aload_n 0, 1) := by decide +kernel
theorem dX7_tellLaw_35 : decode cX7_tellLaw 35 = .ok (.getfield 19, 3) := by decide +kernel
theorem dX7_tellLaw_38 : decode cX7_tellLaw 38 = .ok (.invokevirtual 99, 3) := by decide +kernel
theorem dX7_tellLaw_41 : decode cX7_tellLaw 41 = .ok (.aload_n 0, 1) := by decide +kernel
theorem dX7_tellLaw_42 : decode cX7_tellLaw 42 = .ok (.getfield 19, 3) := by decide +kernel
theorem dX7_tellLaw_45 : decode cX7_tellLaw 45 = .ok (.getfield 74, 3) := by decide +kernel
theorem dX7_tellLaw_48 : decode cX7_tellLaw 48 = .ok (.iload_n 1, 1) := by decide +kernel
theorem dX7_tellLaw_49 : decode cX7_tellLaw 49 = .ok (.putfield 156, 3) := by decide +kernel
theorem dX7_tellLaw_52 : decode cX7_tellLaw 52 = .ok (.iload_n 2, 1) := by decide +kernel
theorem dX7_tellLaw_53 : decode cX7_tellLaw 53 = .ok (.ireturn, 1) := by decide +kernel
theorem dX7_tellB_0 : decode cX7_tellB 0 = .ok (.iload_n 1, 1) := by decide +kernel
theorem dX7_tellB_1 : decode cX7_tellB 1 = .ok (.iconst 0, 1) := by decide +kernel
theorem dX7_tellB_2 : decode cX7_tellB 2 = .ok (.bipush 9, 2) := by decide +kernel
theorem dX7_tellB_4 : decode cX7_tellB 4 = .ok (.invokestatic 70, 3) := by decide +kernel
theorem dX7_tellB_7 : decode cX7_tellB 7 = .ok (.ifCond .ne 5, 3) := by decide +kernel
theorem dX7_tellB_10 : decode cX7_tellB 10 = .ok (.iconst (-1), 1) := by decide +kernel
theorem dX7_tellB_11 : decode cX7_tellB 11 = .ok (.ireturn, 1) := by decide +kernel
theorem dX7_tellB_12 : decode cX7_tellB 12 = .ok (.aload_n 0, 1) := by decide +kernel
theorem dX7_tellB_13 : decode cX7_tellB 13 = .ok (.getfield 19, 3) := by decide +kernel
theorem dX7_tellB_16 : decode cX7_tellB 16 = .ok (.getfield 74, 3) := by decide +kernel
theorem dX7_tellB_19 : decode cX7_tellB 19 = .ok (.getfield 247, 3) := by decide +kernel
theorem dX7_tellB_22 : decode cX7_tellB 22 = .ok (.istore_n 2, 1) := by decide +kernel
theorem dX7_tellB_23 : decode cX7_tellB 23 = .ok (.iload_n 2, 1) := by decide +kernel
theorem dX7_tellB_24 : decode cX7_tellB 24 = .ok (.iload_n 1, 1) := by decide +kernel
theorem dX7_tellB_25 : decode cX7_tellB 25 = .ok (.if_icmp .ne 6, 3) := by decide +kernel
theorem dX7_tellB_28 : decode cX7_tellB 28 = .ok (.bipush (-2), 2) := by decide +kernel
theorem dX7_tellB_30 : decode cX7_tellB 30 = .ok (.ireturn, 1) := by decide +kernel
theorem dX7_tellB_31 : decode cX7_tellB 31 = .ok (.aload_n 0, 1) := by decide +kernel
theorem dX7_tellB_32 : decode cX7_tellB 32 = .ok (.getfield 29, 3) := by decide +kernel
theorem dX7_tellB_35 : decode cX7_tellB 35 = .ok (.aload_n 0, 1) := by decide +kernel
theorem dX7_tellB_36 : decode cX7_tellB 36 = .ok (.getfield 19, 3) := by decide +kernel
theorem dX7_tellB_39 : decode cX7_tellB 39 = .ok (.invokevirtual 99, 3) := by decide +kernel
theorem dX7_tellB_42 : decode cX7_tellB 42 = .ok (.aload_n 0, 1) := by decide +kernel
theorem dX7_tellB_43 : decode cX7_tellB 43 = .ok (.getfield 19, 3) := by decide +kernel
theorem dX7_tellB_46 : decode cX7_tellB 46 = .ok (.getfield 74, 3) := by decide +kernel
theorem dX7_tellB_49 : decode cX7_tellB 49 = .ok (.iload_n 1, 1) := by decide +kernel
theorem dX7_tellB_50 : decode cX7_tellB 50 = .ok (.putfield 247, 3) := by decide +kernel
theorem dX7_tellB_53 : decode cX7_tellB 53 = .ok (.iload_n 2, 1) := by decide +kernel
theorem dX7_tellB_54 : decode cX7_tellB 54 = .ok (.ireturn, 1) := by decide +kernel
theorem dX7_linkAsQueuesAre_0 : decode cX7_linkAsQueuesAre 0 = .ok (.aload_n 0, 1) := by decide +kernel
theorem dX7_linkAsQueuesAre_1 : decode cX7_linkAsQueuesAre 1 = .ok (.getfield 36, 3) := by decide +kernel
theorem dX7_linkAsQueuesAre_4 : decode cX7_linkAsQueuesAre 4 = .ok (.aload_n 0, 1) := by decide +kernel
theorem dX7_linkAsQueuesAre_5 : decode cX7_linkAsQueuesAre 5 = .ok (.getfield 19, 3) := by decide +kernel
theorem dX7_linkAsQueuesAre_8 : decode cX7_linkAsQueuesAre 8 = .ok (.invokevirtual 183, 3) := by decide +kernel
theorem dX7_linkAsQueuesAre_11 : decode cX7_linkAsQueuesAre 11 = .ok (.iload_n 2, 1) := by decide +kernel
theorem dX7_linkAsQueuesAre_12 : decode cX7_linkAsQueuesAre 12 = .ok (.iconst 3, 1) := by decide +kernel
theorem dX7_linkAsQueuesAre_13 : decode cX7_linkAsQueuesAre 13 = .ok (.if_icmp .ne 13, 3) := by decide +kernel
theorem dX7_linkAsQueuesAre_16 : decode cX7_linkAsQueuesAre 16 = .ok (.aload_n 0, 1) := by decide +kernel
theorem dX7_linkAsQueuesAre_17 : decode cX7_linkAsQueuesAre 17 = .ok (.getfield 36, 3) := by decide +kernel
theorem dX7_linkAsQueuesAre_20 : decode cX7_linkAsQueuesAre 20 = .ok (.getfield 260, 3) := by decide +kernel
theorem dX7_linkAsQueuesAre_23 : decode cX7_linkAsQueuesAre 23 = .ok (.iload_n 1, 1) := by decide +kernel
theorem dX7_linkAsQueuesAre_24 : decode cX7_linkAsQueuesAre 24 = .ok (.iaload, 1) := by decide +kernel
theorem dX7_linkAsQueuesAre_25 : decode cX7_linkAsQueuesAre 25 = .ok (.ireturn, 1) := by decide +kernel
theorem dX7_linkAsQueuesAre_26 : decode cX7_linkAsQueuesAre 26 = .ok (.iload_n 2, 1) := by decide +kernel
theorem dX7_linkAsQueuesAre_27 : decode cX7_linkAsQueuesAre 27 = .ok (.iconst 4, 1) := by decide +kernel
theorem dX7_linkAsQueuesAre_28 : decode cX7_linkAsQueuesAre 28 = .ok (.if_icmp .ne 13, 3) := by decide +kernel
theorem dX7_linkAsQueuesAre_31 : decode cX7_linkAsQueuesAre 31 = .ok (.aload_n 0, 1) := by decide +kernel
theorem dX7_linkAsQueuesAre_32 : decode cX7_linkAsQueuesAre 32 = .ok (.getfield 36, 3) := by decide +kernel
theorem dX7_linkAsQueuesAre_35 : decode cX7_linkAsQueuesAre 35 = .ok (.getfield 263, 3) := by decide +kernel
theorem dX7_linkAsQueuesAre_38 : decode cX7_linkAsQueuesAre 38 = .ok (.iload_n 1, 1) := by decide +kernel
theorem dX7_linkAsQueuesAre_39 : decode cX7_linkAsQueuesAre 39 = .ok (.iaload, 1) := by decide +kernel
theorem dX7_linkAsQueuesAre_40 : decode cX7_linkAsQueuesAre 40 = .ok (.ireturn, 1) := by decide +kernel
theorem dX7_linkAsQueuesAre_41 : decode cX7_linkAsQueuesAre 41 = .ok (.aload_n 0, 1) := by decide +kernel
theorem dX7_linkAsQueuesAre_42 : decode cX7_linkAsQueuesAre 42 = .ok (.getfield 36, 3) := by decide +kernel
theorem dX7_linkAsQueuesAre_45 : decode cX7_linkAsQueuesAre 45 = .ok (.aload_n 0, 1) := by decide +kernel
theorem dX7_linkAsQueuesAre_46 : decode cX7_linkAsQueuesAre 46 = .ok (.getfield 19, 3) := by decide +kernel
theorem dX7_linkAsQueuesAre_49 : decode cX7_linkAsQueuesAre 49 = .ok (.getfield 74, 3) := by decide +kernel
theorem dX7_linkAsQueuesAre_52 : decode cX7_linkAsQueuesAre 52 = .ok (.iconst 0, 1) := by decide +kernel
theorem dX7_linkAsQueuesAre_53 : decode cX7_linkAsQueuesAre 53 = .ok (.invokevirtual 186, 3) := by decide +kernel
theorem dX7_linkAsQueuesAre_56 : decode cX7_linkAsQueuesAre 56 = .ok (.aload_n 0, 1) := by decide +kernel
theorem dX7_linkAsQueuesAre_57 : decode cX7_linkAsQueuesAre 57 = .ok (.getfield 36, 3) := by decide +kernel
theorem dX7_linkAsQueuesAre_60 : decode cX7_linkAsQueuesAre 60 = .ok (.getfield 190, 3) := by decide +kernel
theorem dX7_linkAsQueuesAre_63 : decode cX7_linkAsQueuesAre 63 = .ok (.iload_n 1, 1) := by decide +kernel
theorem dX7_linkAsQueuesAre_64 : decode cX7_linkAsQueuesAre 64 = .ok (.ishr, 1) := by decide +kernel
theorem dX7_linkAsQueuesAre_65 : decode cX7_linkAsQueuesAre 65 = .ok (.iconst 1, 1) := by decide +kernel
theorem dX7_linkAsQueuesAre_66 : decode cX7_linkAsQueuesAre 66 = .ok (.iand, 1) := by decide +kernel
theorem dX7_linkAsQueuesAre_67 : decode cX7_linkAsQueuesAre 67 = .ok (.ireturn, 1) := by decide +kernel
theorem dX7_weightWithout_0 : decode cX7_weightWithout 0 = .ok (.aload_n 0, 1) := by decide +kernel
theorem dX7_weightWithout_1 : decode cX7_weightWithout 1 = .ok (.getfield 23, 3) := by decide +kernel
theorem dX7_weightWithout_4 : decode cX7_weightWithout 4 = .ok (.getfield 74, 3) := by decide +kernel
theorem dX7_weightWithout_7 : decode cX7_weightWithout 7 = .ok (.iload_n 1, 1) := by decide +kernel
theorem dX7_weightWithout_8 : decode cX7_weightWithout 8 = .ok (.iload_n 2, 1) := by decide +kernel
theorem dX7_weightWithout_9 : decode cX7_weightWithout 9 = .ok (.invokevirtual 120, 3) := by decide +kernel
theorem dX7_weightWithout_12 : decode cX7_weightWithout 12 = .ok (.aload_n 0, 1) := by decide +kernel
theorem dX7_weightWithout_13 : decode cX7_weightWithout 13 = .ok (.getfield 36, 3) := by decide +kernel
theorem dX7_weightWithout_16 : decode cX7_weightWithout 16 = .ok (.aload_n 0, 1) := by decide +kernel
theorem dX7_weightWithout_17 : decode cX7_weightWithout 17 = .ok (.getfield 23, 3) := by decide +kernel
theorem dX7_weightWithout_20 : decode cX7_weightWithout 20 = .ok (.getfield 74, 3) := by decide +kernel
theorem dX7_weightWithout_23 : decode cX7_weightWithout 23 = .ok (.iconst 0, 1) := by decide +kernel
theorem dX7_weightWithout_24 : decode cX7_weightWithout 24 = .ok (.invokevirtual 186, 3) := by decide +kernel
theorem dX7_weightWithout_27 : decode cX7_weightWithout 27 = .ok (.aload_n 0, 1) := by decide +kernel
theorem dX7_weightWithout_28 : decode cX7_weightWithout 28 = .ok (.getfield 23, 3) := by decide +kernel
theorem dX7_weightWithout_31 : decode cX7_weightWithout 31 = .ok (.getfield 74, 3) := by decide +kernel
theorem dX7_weightWithout_34 : decode cX7_weightWithout 34 = .ok (.iload_n 1, 1) := by decide +kernel
theorem dX7_weightWithout_35 : decode cX7_weightWithout 35 = .ok (.iload_n 2, 1) := by decide +kernel
theorem dX7_weightWithout_36 : decode cX7_weightWithout 36 = .ok (.invokevirtual 120, 3) := by decide +kernel
theorem dX7_weightWithout_39 : decode cX7_weightWithout 39 = .ok (.aload_n 0, 1) := by decide +kernel
theorem dX7_weightWithout_40 : decode cX7_weightWithout 40 = .ok (.getfield 36, 3) := by decide +kernel
theorem dX7_weightWithout_43 : decode cX7_weightWithout 43 = .ok (.getfield 193, 3) := by decide +kernel
theorem dX7_weightWithout_46 : decode cX7_weightWithout 46 = .ok (.ireturn, 1) := by decide +kernel
theorem dX7_trialSince_0 : decode cX7_trialSince 0 = .ok (.iload_n 1, 1) := by decide +kernel
theorem dX7_trialSince_1 : decode cX7_trialSince 1 = .ok (.ifCond .ne 14, 3) := by decide +kernel
theorem dX7_trialSince_4 : decode cX7_trialSince 4 = .ok (.aload_n 0, 1) := by decide +kernel
theorem dX7_trialSince_5 : decode cX7_trialSince 5 = .ok (.getfield 23, 3) := by decide +kernel
theorem dX7_trialSince_8 : decode cX7_trialSince 8 = .ok (.getfield 127, 3) := by decide +kernel
theorem dX7_trialSince_11 : decode cX7_trialSince 11 = .ok (.invokevirtual 225, 3) := by decide +kernel
theorem dX7_trialSince_14 : decode cX7_trialSince 14 = .ok (.ireturn, 1) := by decide +kernel
theorem dX7_trialSince_15 : decode cX7_trialSince 15 = .ok (.iload_n 1, 1) := by decide +kernel
theorem dX7_trialSince_16 : decode cX7_trialSince 16 = .ok (.iconst 1, 1) := by decide +kernel
theorem dX7_trialSince_17 : decode cX7_trialSince 17 = .ok (.if_icmp .ne 25, 3) := by decide +kernel
theorem dX7_trialSince_20 : decode cX7_trialSince 20 = .ok (.aload_n 0, 1) := by decide +kernel
theorem dX7_trialSince_21 : decode cX7_trialSince 21 = .ok (.getfield 23, 3) := by decide +kernel
theorem dX7_trialSince_24 : decode cX7_trialSince 24 = .ok (.getfield 127, 3) := by decide +kernel
theorem dX7_trialSince_27 : decode cX7_trialSince 27 = .ok (.invokevirtual 143, 3) := by decide +kernel
theorem dX7_trialSince_30 : decode cX7_trialSince 30 = .ok (.aload_n 0, 1) := by decide +kernel
theorem dX7_trialSince_31 : decode cX7_trialSince 31 = .ok (.getfield 19, 3) := by decide +kernel
theorem dX7_trialSince_34 : decode cX7_trialSince 34 = .ok (.getfield 127, 3) := by decide +kernel
theorem dX7_trialSince_37 : decode cX7_trialSince 37 = .ok (.invokevirtual 143, 3) := by decide +kernel
theorem dX7_trialSince_40 : decode cX7_trialSince 40 = .ok (.isub, 1) := by decide +kernel
theorem dX7_trialSince_41 : decode cX7_trialSince 41 = .ok (.ireturn, 1) := by decide +kernel
theorem dX7_trialSince_42 : decode cX7_trialSince 42 = .ok (.aload_n 0, 1) := by decide +kernel
theorem dX7_trialSince_43 : decode cX7_trialSince 43 = .ok (.getfield 23, 3) := by decide +kernel
theorem dX7_trialSince_46 : decode cX7_trialSince 46 = .ok (.getfield 127, 3) := by decide +kernel
theorem dX7_trialSince_49 : decode cX7_trialSince 49 = .ok (.getfield 266, 3) := by decide +kernel
theorem dX7_trialSince_52 : decode cX7_trialSince 52 = .ok (.aload_n 0, 1) := by decide +kernel
theorem dX7_trialSince_53 : decode cX7_trialSince 53 = .ok (.getfield 19, 3) := by decide +kernel
theorem dX7_trialSince_56 : decode cX7_trialSince 56 = .ok (.getfield 127, 3) := by decide +kernel
theorem dX7_trialSince_59 : decode cX7_trialSince 59 = .ok (.getfield 266, 3) := by decide +kernel
theorem dX7_trialSince_62 : decode cX7_trialSince 62 = .ok (.isub, 1) := by decide +kernel
theorem dX7_trialSince_63 : decode cX7_trialSince 63 = .ok (.ireturn, 1) := by decide +kernel
theorem dX7_countPackets_0 : decode cX7_countPackets 0 = .ok (.iload_n 1, 1) := by decide +kernel
theorem dX7_countPackets_1 : decode cX7_countPackets 1 = .ok (.tableswitch 90 6 10 #[35, 46, 57, 68, 79], 35) := by decide +kernel
theorem dX7_countPackets_36 : decode cX7_countPackets 36 = .ok (.aload_n 0, 1) := by decide +kernel
theorem dX7_countPackets_37 : decode cX7_countPackets 37 = .ok (.getfield 19, 3) := by decide +kernel
theorem dX7_countPackets_40 : decode cX7_countPackets 40 = .ok (.getfield 127, 3) := by decide +kernel
theorem dX7_countPackets_43 : decode cX7_countPackets 43 = .ok (.getfield 136, 3) := by decide +kernel
theorem dX7_countPackets_46 : decode cX7_countPackets 46 = .ok (.ireturn, 1) := by decide +kernel
theorem dX7_countPackets_47 : decode cX7_countPackets 47 = .ok (.aload_n 0, 1) := by decide +kernel
theorem dX7_countPackets_48 : decode cX7_countPackets 48 = .ok (.getfield 19, 3) := by decide +kernel
theorem dX7_countPackets_51 : decode cX7_countPackets 51 = .ok (.getfield 127, 3) := by decide +kernel
theorem dX7_countPackets_54 : decode cX7_countPackets 54 = .ok (.invokevirtual 225, 3) := by decide +kernel
theorem dX7_countPackets_57 : decode cX7_countPackets 57 = .ok (.ireturn, 1) := by decide +kernel
theorem dX7_countPackets_58 : decode cX7_countPackets 58 = .ok (.aload_n 0, 1) := by decide +kernel
theorem dX7_countPackets_59 : decode cX7_countPackets 59 = .ok (.getfield 19, 3) := by decide +kernel
theorem dX7_countPackets_62 : decode cX7_countPackets 62 = .ok (.getfield 127, 3) := by decide +kernel
theorem dX7_countPackets_65 : decode cX7_countPackets 65 = .ok (.invokevirtual 143, 3) := by decide +kernel
theorem dX7_countPackets_68 : decode cX7_countPackets 68 = .ok (.ireturn, 1) := by decide +kernel
theorem dX7_countPackets_69 : decode cX7_countPackets 69 = .ok (.aload_n 0, 1) := by decide +kernel
theorem dX7_countPackets_70 : decode cX7_countPackets 70 = .ok (.getfield 19, 3) := by decide +kernel
theorem dX7_countPackets_73 : decode cX7_countPackets 73 = .ok (.getfield 127, 3) := by decide +kernel
theorem dX7_countPackets_76 : decode cX7_countPackets 76 = .ok (.getfield 266, 3) := by decide +kernel
theorem dX7_countPackets_79 : decode cX7_countPackets 79 = .ok (.ireturn, 1) := by decide +kernel
theorem dX7_countPackets_80 : decode cX7_countPackets 80 = .ok (.aload_n 0, 1) := by decide +kernel
theorem dX7_countPackets_81 : decode cX7_countPackets 81 = .ok (.getfield 19, 3) := by decide +kernel
theorem dX7_countPackets_84 : decode cX7_countPackets 84 = .ok (.getfield 127, 3) := by decide +kernel
theorem dX7_countPackets_87 : decode cX7_countPackets 87 = .ok (.invokevirtual 214, 3) := by decide +kernel
theorem dX7_countPackets_90 : decode cX7_countPackets 90 = .ok (.ireturn, 1) := by decide +kernel
theorem dX7_countPackets_91 : decode cX7_countPackets 91 = .ok (.iconst (-1), 1) := by decide +kernel
theorem dX7_countPackets_92 : decode cX7_countPackets 92 = .ok (.ireturn, 1) := by decide +kernel
theorem dX7_within_0 : decode cX7_within 0 = .ok (.iload_n 0, 1) := by decide +kernel
theorem dX7_within_1 : decode cX7_within 1 = .ok (.iload_n 1, 1) := by decide +kernel
theorem dX7_within_2 : decode cX7_within 2 = .ok (.if_icmp .lt 12, 3) := by decide +kernel
theorem dX7_within_5 : decode cX7_within 5 = .ok (.iload_n 0, 1) := by decide +kernel
theorem dX7_within_6 : decode cX7_within 6 = .ok (.iload_n 2, 1) := by decide +kernel
theorem dX7_within_7 : decode cX7_within 7 = .ok (.if_icmp .gt 7, 3) := by decide +kernel
theorem dX7_within_10 : decode cX7_within 10 = .ok (.iconst 1, 1) := by decide +kernel
theorem dX7_within_11 : decode cX7_within 11 = .ok (.goto 4, 3) := by decide +kernel
theorem dX7_within_14 : decode cX7_within 14 = .ok (.iconst 0, 1) := by decide +kernel
theorem dX7_within_15 : decode cX7_within 15 = .ok (.ireturn, 1) := by decide +kernel
theorem dX7_spot_0 : decode cX7_spot 0 = .ok (.iload_n 0, 1) := by decide +kernel
theorem dX7_spot_1 : decode cX7_spot 1 = .ok (.iconst 3, 1) := by decide +kernel
theorem dX7_spot_2 : decode cX7_spot 2 = .ok (.imul, 1) := by decide +kernel
theorem dX7_spot_3 : decode cX7_spot 3 = .ok (.iload_n 1, 1) := by decide +kernel
theorem dX7_spot_4 : decode cX7_spot 4 = .ok (.iadd, 1) := by decide +kernel
theorem dX7_spot_5 : decode cX7_spot 5 = .ok (.ireturn, 1) := by decide +kernel
theorem dJ6_bitCount_0f7a4_0 : decode cJ6_bitCount_0f7a4 0 = .ok (.iload_n 0, 1) := by decide +kernel
theorem dJ6_bitCount_0f7a4_1 : decode cJ6_bitCount_0f7a4 1 = .ok (.iload_n 0, 1) := by decide +kernel
theorem dJ6_bitCount_0f7a4_2 : decode cJ6_bitCount_0f7a4 2 = .ok (.iconst 1, 1) := by decide +kernel
theorem dJ6_bitCount_0f7a4_3 : decode cJ6_bitCount_0f7a4 3 = .ok (.iushr, 1) := by decide +kernel
theorem dJ6_bitCount_0f7a4_4 : decode cJ6_bitCount_0f7a4 4 = .ok (.ldc_w 265, 3) := by decide +kernel
theorem dJ6_bitCount_0f7a4_7 : decode cJ6_bitCount_0f7a4 7 = .ok (.iand, 1) := by decide +kernel
theorem dJ6_bitCount_0f7a4_8 : decode cJ6_bitCount_0f7a4 8 = .ok (.isub, 1) := by decide +kernel
theorem dJ6_bitCount_0f7a4_9 : decode cJ6_bitCount_0f7a4 9 = .ok (.istore_n 0, 1) := by decide +kernel
theorem dJ6_bitCount_0f7a4_10 : decode cJ6_bitCount_0f7a4 10 = .ok (.iload_n 0, 1) := by decide +kernel
theorem dJ6_bitCount_0f7a4_11 : decode cJ6_bitCount_0f7a4 11 = .ok (.ldc_w 266, 3) := by decide +kernel
theorem dJ6_bitCount_0f7a4_14 : decode cJ6_bitCount_0f7a4 14 = .ok (.iand, 1) := by decide +kernel
theorem dJ6_bitCount_0f7a4_15 : decode cJ6_bitCount_0f7a4 15 = .ok (.iload_n 0, 1) := by decide +kernel
theorem dJ6_bitCount_0f7a4_16 : decode cJ6_bitCount_0f7a4 16 = .ok (.iconst 2, 1) := by decide +kernel
theorem dJ6_bitCount_0f7a4_17 : decode cJ6_bitCount_0f7a4 17 = .ok (.iushr, 1) := by decide +kernel
theorem dJ6_bitCount_0f7a4_18 : decode cJ6_bitCount_0f7a4 18 = .ok (.ldc_w 266, 3) := by decide +kernel
theorem dJ6_bitCount_0f7a4_21 : decode cJ6_bitCount_0f7a4 21 = .ok (.iand, 1) := by decide +kernel
theorem dJ6_bitCount_0f7a4_22 : decode cJ6_bitCount_0f7a4 22 = .ok (.iadd, 1) := by decide +kernel
theorem dJ6_bitCount_0f7a4_23 : decode cJ6_bitCount_0f7a4 23 = .ok (.istore_n 0, 1) := by decide +kernel
theorem dJ6_bitCount_0f7a4_24 : decode cJ6_bitCount_0f7a4 24 = .ok (.iload_n 0, 1) := by decide +kernel
theorem dJ6_bitCount_0f7a4_25 : decode cJ6_bitCount_0f7a4 25 = .ok (.iload_n 0, 1) := by decide +kernel
theorem dJ6_bitCount_0f7a4_26 : decode cJ6_bitCount_0f7a4 26 = .ok (.iconst 4, 1) := by decide +kernel
theorem dJ6_bitCount_0f7a4_27 : decode cJ6_bitCount_0f7a4 27 = .ok (.iushr, 1) := by decide +kernel
theorem dJ6_bitCount_0f7a4_28 : decode cJ6_bitCount_0f7a4 28 = .ok (.iadd, 1) := by decide +kernel
theorem dJ6_bitCount_0f7a4_29 : decode cJ6_bitCount_0f7a4 29 = .ok (.ldc_w 267, 3) := by decide +kernel
theorem dJ6_bitCount_0f7a4_32 : decode cJ6_bitCount_0f7a4 32 = .ok (.iand, 1) := by decide +kernel
theorem dJ6_bitCount_0f7a4_33 : decode cJ6_bitCount_0f7a4 33 = .ok (.istore_n 0, 1) := by decide +kernel
theorem dJ6_bitCount_0f7a4_34 : decode cJ6_bitCount_0f7a4 34 = .ok (.iload_n 0, 1) := by decide +kernel
theorem dJ6_bitCount_0f7a4_35 : decode cJ6_bitCount_0f7a4 35 = .ok (.iload_n 0, 1) := by decide +kernel
theorem dJ6_bitCount_0f7a4_36 : decode cJ6_bitCount_0f7a4 36 = .ok (.bipush 8, 2) := by decide +kernel
theorem dJ6_bitCount_0f7a4_38 : decode cJ6_bitCount_0f7a4 38 = .ok (.iushr, 1) := by decide +kernel
theorem dJ6_bitCount_0f7a4_39 : decode cJ6_bitCount_0f7a4 39 = .ok (.iadd, 1) := by decide +kernel
theorem dJ6_bitCount_0f7a4_40 : decode cJ6_bitCount_0f7a4 40 = .ok (.istore_n 0, 1) := by decide +kernel
theorem dJ6_bitCount_0f7a4_41 : decode cJ6_bitCount_0f7a4 41 = .ok (.iload_n 0, 1) := by decide +kernel
theorem dJ6_bitCount_0f7a4_42 : decode cJ6_bitCount_0f7a4 42 = .ok (.iload_n 0, 1) := by decide +kernel
theorem dJ6_bitCount_0f7a4_43 : decode cJ6_bitCount_0f7a4 43 = .ok (.bipush 16, 2) := by decide +kernel
theorem dJ6_bitCount_0f7a4_45 : decode cJ6_bitCount_0f7a4 45 = .ok (.iushr, 1) := by decide +kernel
theorem dJ6_bitCount_0f7a4_46 : decode cJ6_bitCount_0f7a4 46 = .ok (.iadd, 1) := by decide +kernel
theorem dJ6_bitCount_0f7a4_47 : decode cJ6_bitCount_0f7a4 47 = .ok (.istore_n 0, 1) := by decide +kernel
theorem dJ6_bitCount_0f7a4_48 : decode cJ6_bitCount_0f7a4 48 = .ok (.iload_n 0, 1) := by decide +kernel
theorem dJ6_bitCount_0f7a4_49 : decode cJ6_bitCount_0f7a4 49 = .ok (.bipush 63, 2) := by decide +kernel
theorem dJ6_bitCount_0f7a4_51 : decode cJ6_bitCount_0f7a4 51 = .ok (.iand, 1) := by decide +kernel
theorem dJ6_bitCount_0f7a4_52 : decode cJ6_bitCount_0f7a4 52 = .ok (.ireturn, 1) := by decide +kernel
theorem dJ7_fill_53178_0 : decode cJ7_fill_53178 0 = .ok (.iconst 0, 1) := by decide +kernel
theorem dJ7_fill_53178_1 : decode cJ7_fill_53178 1 = .ok (.istore_n 2, 1) := by decide +kernel
theorem dJ7_fill_53178_2 : decode cJ7_fill_53178 2 = .ok (.aload_n 0, 1) := by decide +kernel
theorem dJ7_fill_53178_3 : decode cJ7_fill_53178 3 = .ok (.arraylength, 1) := by decide +kernel
theorem dJ7_fill_53178_4 : decode cJ7_fill_53178 4 = .ok (.istore_n 3, 1) := by decide +kernel
theorem dJ7_fill_53178_5 : decode cJ7_fill_53178 5 = .ok (.iload_n 2, 1) := by decide +kernel
theorem dJ7_fill_53178_6 : decode cJ7_fill_53178 6 = .ok (.iload_n 3, 1) := by decide +kernel
theorem dJ7_fill_53178_7 : decode cJ7_fill_53178 7 = .ok (.if_icmp .ge 13, 3) := by decide +kernel
theorem dJ7_fill_53178_10 : decode cJ7_fill_53178 10 = .ok (.aload_n 0, 1) := by decide +kernel
theorem dJ7_fill_53178_11 : decode cJ7_fill_53178 11 = .ok (.iload_n 2, 1) := by decide +kernel
theorem dJ7_fill_53178_12 : decode cJ7_fill_53178 12 = .ok (.iload_n 1, 1) := by decide +kernel
theorem dJ7_fill_53178_13 : decode cJ7_fill_53178 13 = .ok (.iastore, 1) := by decide +kernel
theorem dJ7_fill_53178_14 : decode cJ7_fill_53178 14 = .ok (.iinc 2 1, 3) := by decide +kernel
theorem dJ7_fill_53178_17 : decode cJ7_fill_53178 17 = .ok (.goto (-12), 3) := by decide +kernel
theorem dJ7_fill_53178_20 : decode cJ7_fill_53178 20 = .ok (.return_, 1) := by decide +kernel
