theorem dX8_in_0 : decode cX8_in 0 = .ok (.lload_n 0, 1) := by decide +kernel
theorem dX8_in_1 : decode cX8_in 1 = .ok (.lload_n 2, 1) := by decide +kernel
theorem dX8_in_2 : decode cX8_in 2 = .ok (.lcmp, 1) := by decide +kernel
theorem dX8_in_3 : decode cX8_in 3 = .ok (.ifCond .lt 14, 3) := by decide +kernel
theorem dX8_in_6 : decode cX8_in 6 = .ok (.lload_n 0, 1) := by decide +kernel
theorem dX8_in_7 : decode cX8_in 7 = .ok (.lload 4, 2) := by decide +kernel
theorem dX8_in_9 : decode cX8_in 9 = .ok (.lcmp, 1) := by decide +kernel
theorem dX8_in_10 : decode cX8_in 10 = .ok (.ifCond .gt 7, 3) := by decide +kernel
theorem dX8_in_13 : decode cX8_in 13 = .ok (.iconst 1, 1) := by decide +kernel
theorem dX8_in_14 : decode cX8_in 14 = .ok (.goto 4, 3) := by decide +kernel
theorem dX8_in_17 : decode cX8_in 17 = .ok (.iconst 0, 1) := by decide +kernel
theorem dX8_in_18 : decode cX8_in 18 = .ok (.ireturn, 1) := by decide +kernel
theorem dX8_has_0 : decode cX8_has 0 = .ok (.iload_n 0, 1) := by decide +kernel
theorem dX8_has_1 : decode cX8_has 1 = .ok (.iload_n 1, 1) := by decide +kernel
theorem dX8_has_2 : decode cX8_has 2 = .ok (.ishr, 1) := by decide +kernel
theorem dX8_has_3 : decode cX8_has 3 = .ok (.iconst 1, 1) := by decide +kernel
theorem dX8_has_4 : decode cX8_has 4 = .ok (.iand, 1) := by decide +kernel
theorem dX8_has_5 : decode cX8_has 5 = .ok (.iconst 1, 1) := by decide +kernel
theorem dX8_has_6 : decode cX8_has 6 = .ok (.if_icmp .ne 7, 3) := by decide +kernel
theorem dX8_has_9 : decode cX8_has 9 = .ok (.iconst 1, 1) := by decide +kernel
theorem dX8_has_10 : decode cX8_has 10 = .ok (.goto 4, 3) := by decide +kernel
theorem dX8_has_13 : decode cX8_has 13 = .ok (.iconst 0, 1) := by decide +kernel
theorem dX8_has_14 : decode cX8_has 14 = .ok (.ireturn, 1) := by decide +kernel
theorem dX8_ones_0 : decode cX8_ones 0 = .ok (.iconst 0, 1) := by decide +kernel
theorem dX8_ones_1 : decode cX8_ones 1 = .ok (.istore_n 1, 1) := by decide +kernel
theorem dX8_ones_2 : decode cX8_ones 2 = .ok (.iconst 0, 1) := by decide +kernel
theorem dX8_ones_3 : decode cX8_ones 3 = .ok (.istore_n 2, 1) := by decide +kernel
theorem dX8_ones_4 : decode cX8_ones 4 = .ok (.iload_n 2, 1) := by decide +kernel
theorem dX8_ones_5 : decode cX8_ones 5 = .ok (.bipush 10, 2) := by decide +kernel
theorem dX8_ones_7 : decode cX8_ones 7 = .ok (.if_icmp .ge 17, 3) := by decide +kernel
theorem dX8_ones_10 : decode cX8_ones 10 = .ok (.iload_n 1, 1) := by decide +kernel
theorem dX8_ones_11 : decode cX8_ones 11 = .ok (.iload_n 0, 1) := by decide +kernel
theorem dX8_ones_12 : decode cX8_ones 12 = .ok (.iload_n 2, 1) := by decide +kernel
theorem dX8_ones_13 : decode cX8_ones 13 = .ok (.ishr, 1) := by decide +kernel
theorem dX8_ones_14 : decode cX8_ones 14 = .ok (.iconst 1, 1) := by decide +kernel
theorem dX8_ones_15 : decode cX8_ones 15 = .ok (.iand, 1) := by decide +kernel
theorem dX8_ones_16 : decode cX8_ones 16 = .ok (.iadd, 1) := by decide +kernel
theorem dX8_ones_17 : decode cX8_ones 17 = .ok (.istore_n 1, 1) := by decide +kernel
theorem dX8_ones_18 : decode cX8_ones 18 = .ok (.iinc 2 1, 3) := by decide +kernel
theorem dX8_ones_21 : decode cX8_ones 21 = .ok (.goto (-17), 3) := by decide +kernel
theorem dX8_ones_24 : decode cX8_ones 24 = .ok (.iload_n 1, 1) := by decide +kernel
theorem dX8_ones_25 : decode cX8_ones 25 = .ok (.ireturn, 1) := by decide +kernel
theorem dX8_clashes_0 : decode cX8_clashes 0 = .ok (.aload_n 0, 1) := by decide +kernel
theorem dX8_clashes_1 : decode cX8_clashes 1 = .ok (.bipush 36, 2) := by decide +kernel
theorem dX8_clashes_3 : decode cX8_clashes 3 = .ok (.iload_n 1, 1) := by decide +kernel
theorem dX8_clashes_4 : decode cX8_clashes 4 = .ok (.iadd, 1) := by decide +kernel
theorem dX8_clashes_5 : decode cX8_clashes 5 = .ok (.aload_n 0, 1) := by decide +kernel
theorem dX8_clashes_6 : decode cX8_clashes 6 = .ok (.bipush 36, 2) := by decide +kernel
theorem dX8_clashes_8 : decode cX8_clashes 8 = .ok (.iload_n 1, 1) := by decide +kernel
theorem dX8_clashes_9 : decode cX8_clashes 9 = .ok (.iadd, 1) := by decide +kernel
theorem dX8_clashes_10 : decode cX8_clashes 10 = .ok (.iaload, 1) := by decide +kernel
theorem dX8_clashes_11 : decode cX8_clashes 11 = .ok (.iconst 1, 1) := by decide +kernel
theorem dX8_clashes_12 : decode cX8_clashes 12 = .ok (.iload_n 2, 1) := by decide +kernel
theorem dX8_clashes_13 : decode cX8_clashes 13 = .ok (.ishl, 1) := by decide +kernel
theorem dX8_clashes_14 : decode cX8_clashes 14 = .ok (.iconst (-1), 1) := by decide +kernel
theorem dX8_clashes_15 : decode cX8_clashes 15 = .ok (.ixor, 1) := by decide +kernel
theorem dX8_clashes_16 : decode cX8_clashes 16 = .ok (.iand, 1) := by decide +kernel
theorem dX8_clashes_17 : decode cX8_clashes 17 = .ok (.iload_n 3, 1) := by decide +kernel
theorem dX8_clashes_18 : decode cX8_clashes 18 = .ok (.iload_n 2, 1) := by decide +kernel
theorem dX8_clashes_19 : decode cX8_clashes 19 = .ok (.ishl, 1) := by decide +kernel
theorem dX8_clashes_20 : decode cX8_clashes 20 = .ok (.ior, 1) := by decide +kernel
theorem dX8_clashes_21 : decode cX8_clashes 21 = .ok (.iastore, 1) := by decide +kernel
theorem dX8_clashes_22 : decode cX8_clashes 22 = .ok (.aload_n 0, 1) := by decide +kernel
theorem dX8_clashes_23 : decode cX8_clashes 23 = .ok (.bipush 36, 2) := by decide +kernel
theorem dX8_clashes_25 : decode cX8_clashes 25 = .ok (.iload_n 2, 1) := by decide +kernel
theorem dX8_clashes_26 : decode cX8_clashes 26 = .ok (.iadd, 1) := by decide +kernel
theorem dX8_clashes_27 : decode cX8_clashes 27 = .ok (.aload_n 0, 1) := by decide +kernel
theorem dX8_clashes_28 : decode cX8_clashes 28 = .ok (.bipush 36, 2) := by decide +kernel
theorem dX8_clashes_30 : decode cX8_clashes 30 = .ok (.iload_n 2, 1) := by decide +kernel
theorem dX8_clashes_31 : decode cX8_clashes 31 = .ok (.iadd, 1) := by decide +kernel
theorem dX8_clashes_32 : decode cX8_clashes 32 = .ok (.iaload, 1) := by decide +kernel
theorem dX8_clashes_33 : decode cX8_clashes 33 = .ok (.iconst 1, 1) := by decide +kernel
theorem dX8_clashes_34 : decode cX8_clashes 34 = .ok (.iload_n 1, 1) := by decide +kernel
theorem dX8_clashes_35 : decode cX8_clashes 35 = .ok (.ishl, 1) := by decide +kernel
theorem dX8_clashes_36 : decode cX8_clashes 36 = .ok (.iconst (-1), 1) := by decide +kernel
theorem dX8_clashes_37 : decode cX8_clashes 37 = .ok (.ixor, 1) := by decide +kernel
theorem dX8_clashes_38 : decode cX8_clashes 38 = .ok (.iand, 1) := by decide +kernel
theorem dX8_clashes_39 : decode cX8_clashes 39 = .ok (.iload_n 3, 1) := by decide +kernel
theorem dX8_clashes_40 : decode cX8_clashes 40 = .ok (.iload_n 1, 1) := by decide +kernel
theorem dX8_clashes_41 : decode cX8_clashes 41 = .ok (.ishl, 1) := by decide +kernel
theorem dX8_clashes_42 : decode cX8_clashes 42 = .ok (.ior, 1) := by decide +kernel
theorem dX8_clashes_43 : decode cX8_clashes 43 = .ok (.iastore, 1) := by decide +kernel
theorem dX8_clashes_44 : decode cX8_clashes 44 = .ok (.return_, 1) := by decide +kernel
theorem dX8_begins_0 : decode cX8_begins 0 = .ok (.iconst 0, 1) := by decide +kernel
theorem dX8_begins_1 : decode cX8_begins 1 = .ok (.istore_n 1, 1) := by decide +kernel
theorem dX8_begins_2 : decode cX8_begins 2 = .ok (.iload_n 1, 1) := by decide +kernel
theorem dX8_begins_3 : decode cX8_begins 3 = .ok (.sipush 815, 3) := by decide +kernel
theorem dX8_begins_6 : decode cX8_begins 6 = .ok (.if_icmp .ge 16, 3) := by decide +kernel
theorem dX8_begins_9 : decode cX8_begins 9 = .ok (.aload_n 0, 1) := by decide +kernel
theorem dX8_begins_10 : decode cX8_begins 10 = .ok (.getfield 22, 3) := by decide +kernel
theorem dX8_begins_13 : decode cX8_begins 13 = .ok (.iload_n 1, 1) := by decide +kernel
theorem dX8_begins_14 : decode cX8_begins 14 = .ok (.iconst 0, 1) := by decide +kernel
theorem dX8_begins_15 : decode cX8_begins 15 = .ok (.iastore, 1) := by decide +kernel
theorem dX8_begins_16 : decode cX8_begins 16 = .ok (.iinc 1 1, 3) := by decide +kernel
theorem dX8_begins_19 : decode cX8_begins 19 = .ok (.goto (-17), 3) := by decide +kernel
theorem dX8_begins_22 : decode cX8_begins 22 = .ok (.return_, 1) := by decide +kernel
theorem dX8_links_0 : decode cX8_links 0 = .ok (.bipush 6, 2) := by decide +kernel
theorem dX8_links_2 : decode cX8_links 2 = .ok (.iconst 3, 1) := by decide +kernel
theorem dX8_links_3 : decode cX8_links 3 = .ok (.aload_n 0, 1) := by decide +kernel
theorem dX8_links_4 : decode cX8_links 4 = .ok (.getfield 22, 3) := by decide +kernel
theorem dX8_links_7 : decode cX8_links 7 = .ok (.iconst 5, 1) := by decide +kernel
theorem dX8_links_8 : decode cX8_links 8 = .ok (.iaload, 1) := by decide +kernel
theorem dX8_links_9 : decode cX8_links 9 = .ok (.imul, 1) := by decide +kernel
theorem dX8_links_10 : decode cX8_links 10 = .ok (.iadd, 1) := by decide +kernel
theorem dX8_links_11 : decode cX8_links 11 = .ok (.istore 4, 2) := by decide +kernel
theorem dX8_links_13 : decode cX8_links 13 = .ok (.aload_n 0, 1) := by decide +kernel
theorem dX8_links_14 : decode cX8_links 14 = .ok (.getfield 22, 3) := by decide +kernel
theorem dX8_links_17 : decode cX8_links 17 = .ok (.iload 4, 2) := by decide +kernel
theorem dX8_links_19 : decode cX8_links 19 = .ok (.iload_n 1, 1) := by decide +kernel
theorem dX8_links_20 : decode cX8_links 20 = .ok (.iastore, 1) := by decide +kernel
theorem dX8_links_21 : decode cX8_links 21 = .ok (.aload_n 0, 1) := by decide +kernel
theorem dX8_links_22 : decode cX8_links 22 = .ok (.getfield 22, 3) := by decide +kernel
theorem dX8_links_25 : decode cX8_links 25 = .ok (.iload 4, 2) := by decide +kernel
theorem dX8_links_27 : decode cX8_links 27 = .ok (.iconst 1, 1) := by decide +kernel
theorem dX8_links_28 : decode cX8_links 28 = .ok (.iadd, 1) := by decide +kernel
theorem dX8_links_29 : decode cX8_links 29 = .ok (.iload_n 2, 1) := by decide +kernel
theorem dX8_links_30 : decode cX8_links 30 = .ok (.iastore, 1) := by decide +kernel
theorem dX8_links_31 : decode cX8_links 31 = .ok (.aload_n 0, 1) := by decide +kernel
theorem dX8_links_32 : decode cX8_links 32 = .ok (.getfield 22, 3) := by decide +kernel
theorem dX8_links_35 : decode cX8_links 35 = .ok (.iload 4, 2) := by decide +kernel
theorem dX8_links_37 : decode cX8_links 37 = .ok (.iconst 2, 1) := by decide +kernel
theorem dX8_links_38 : decode cX8_links 38 = .ok (.iadd, 1) := by decide +kernel
theorem dX8_links_39 : decode cX8_links 39 = .ok (.iload_n 3, 1) := by decide +kernel
theorem dX8_links_40 : decode cX8_links 40 = .ok (.iastore, 1) := by decide +kernel
theorem dX8_links_41 : decode cX8_links 41 = .ok (.aload_n 0, 1) := by decide +kernel
theorem dX8_links_42 : decode cX8_links 42 = .ok (.getfield 22, 3) := by decide +kernel
theorem dX8_links_45 : decode cX8_links 45 = .ok (.iconst 5, 1) := by decide +kernel
theorem dX8_links_46 : decode cX8_links 46 = .ok (.dup2, 1) := by decide +kernel
theorem dX8_links_47 : decode cX8_links 47 = .ok (.iaload, 1) := by decide +kernel
theorem dX8_links_48 : decode cX8_links 48 = .ok (.iconst 1, 1) := by decide +kernel
theorem dX8_links_49 : decode cX8_links 49 = .ok (.iadd, 1) := by decide +kernel
theorem dX8_links_50 : decode cX8_links 50 = .ok (.iastore, 1) := by decide +kernel
theorem dX8_links_51 : decode cX8_links 51 = .ok (.return_, 1) := by decide +kernel
theorem dX8_takes_0 : decode cX8_takes 0 = .ok (.iconst 0, 1) := by decide +kernel
theorem dX8_takes_1 : decode cX8_takes 1 = .ok (.istore_n 1, 1) := by decide +kernel
theorem dX8_takes_2 : decode cX8_takes 2 = .ok (.iload_n 1, 1) := by decide +kernel
theorem dX8_takes_3 : decode cX8_takes 3 = .ok (.sipush 815, 3) := by decide +kernel
theorem dX8_takes_6 : decode cX8_takes 6 = .ok (.if_icmp .ge 21, 3) := by decide +kernel
theorem dX8_takes_9 : decode cX8_takes 9 = .ok (.aload_n 0, 1) := by decide +kernel
theorem dX8_takes_10 : decode cX8_takes 10 = .ok (.getfield 7, 3) := by decide +kernel
theorem dX8_takes_13 : decode cX8_takes 13 = .ok (.iload_n 1, 1) := by decide +kernel
theorem dX8_takes_14 : decode cX8_takes 14 = .ok (.aload_n 0, 1) := by decide +kernel
theorem dX8_takes_15 : decode cX8_takes 15 = .ok (.getfield 22, 3) := by decide +kernel
theorem dX8_takes_18 : decode cX8_takes 18 = .ok (.iload_n 1, 1) := by decide +kernel
theorem dX8_takes_19 : decode cX8_takes 19 = .ok (.iaload, 1) := by decide +kernel
theorem dX8_takes_20 : decode cX8_takes 20 = .ok (.iastore, 1) := by decide +kernel
theorem dX8_takes_21 : decode cX8_takes 21 = .ok (.iinc 1 1, 3) := by decide +kernel
theorem dX8_takes_24 : decode cX8_takes 24 = .ok (.goto (-22), 3) := by decide +kernel
theorem dX8_takes_27 : decode cX8_takes 27 = .ok (.aload_n 0, 1) := by decide +kernel
theorem dX8_takes_28 : decode cX8_takes 28 = .ok (.iconst 0, 1) := by decide +kernel
theorem dX8_takes_29 : decode cX8_takes 29 = .ok (.putfield 70, 3) := by decide +kernel
theorem dX8_takes_32 : decode cX8_takes 32 = .ok (.return_, 1) := by decide +kernel
theorem dX8_isAt_0 : decode cX8_isAt 0 = .ok (.aload_n 0, 1) := by decide +kernel
theorem dX8_isAt_1 : decode cX8_isAt 1 = .ok (.getfield 74, 3) := by decide +kernel
theorem dX8_isAt_4 : decode cX8_isAt 4 = .ok (.aload_n 0, 1) := by decide +kernel
theorem dX8_isAt_5 : decode cX8_isAt 5 = .ok (.getfield 77, 3) := by decide +kernel
theorem dX8_isAt_8 : decode cX8_isAt 8 = .ok (.if_icmp .ge 27, 3) := by decide +kernel
theorem dX8_isAt_11 : decode cX8_isAt 11 = .ok (.aload_n 0, 1) := by decide +kernel
theorem dX8_isAt_12 : decode cX8_isAt 12 = .ok (.getfield 19, 3) := by decide +kernel
theorem dX8_isAt_15 : decode cX8_isAt 15 = .ok (.aload_n 0, 1) := by decide +kernel
theorem dX8_isAt_16 : decode cX8_isAt 16 = .ok (.getfield 74, 3) := by decide +kernel
theorem dX8_isAt_19 : decode cX8_isAt 19 = .ok (.iaload, 1) := by decide +kernel
theorem dX8_isAt_20 : decode cX8_isAt 20 = .ok (.i2l, 1) := by decide +kernel
theorem dX8_isAt_21 : decode cX8_isAt 21 = .ok (.iload_n 1, 1) := by decide +kernel
theorem dX8_isAt_22 : decode cX8_isAt 22 = .ok (.i2l, 1) := by decide +kernel
theorem dX8_isAt_23 : decode cX8_isAt 23 = .ok (.iload_n 2, 1) := by decide +kernel
theorem dX8_isAt_24 : decode cX8_isAt 24 = .ok (.i2l, 1) := by decide +kernel
theorem dX8_isAt_25 : decode cX8_isAt 25 = .ok (.invokestatic 80, 3) := by decide +kernel
theorem dX8_isAt_28 : decode cX8_isAt 28 = .ok (.ifCond .eq 7, 3) := by decide +kernel
theorem dX8_isAt_31 : decode cX8_isAt 31 = .ok (.iconst 1, 1) := by decide +kernel
theorem dX8_isAt_32 : decode cX8_isAt 32 = .ok (.goto 4, 3) := by decide +kernel
theorem dX8_isAt_35 : decode cX8_isAt 35 = .ok (.iconst 0, 1) := by decide +kernel
theorem dX8_isAt_36 : decode cX8_isAt 36 = .ok (.ireturn, 1) := by decide +kernel
theorem dX8_takesNumber_0 : decode cX8_takesNumber 0 = .ok (.aload_n 0, 1) := by decide +kernel
theorem dX8_takesNumber_1 : decode cX8_takesNumber 1 = .ok (.getfield 74, 3) := by decide +kernel
theorem dX8_takesNumber_4 : decode cX8_takesNumber 4 = .ok (.istore_n 2, 1) := by decide +kernel
theorem dX8_takesNumber_5 : decode cX8_takesNumber 5 = .ok (.aload_n 0, 1) := by decide +kernel
theorem dX8_takesNumber_6 : decode cX8_takesNumber 6 = .ok (.getfield 25, 3) := by decide +kernel
theorem dX8_takesNumber_9 : decode cX8_takesNumber 9 = .ok (.iload_n 1, 1) := by decide +kernel
theorem dX8_takesNumber_10 : decode cX8_takesNumber 10 = .ok (.iconst 0, 1) := by decide +kernel
theorem dX8_takesNumber_11 : decode cX8_takesNumber 11 = .ok (.iastore, 1) := by decide +kernel
theorem dX8_takesNumber_12 : decode cX8_takesNumber 12 = .ok (.aload_n 0, 1) := by decide +kernel
theorem dX8_takesNumber_13 : decode cX8_takesNumber 13 = .ok (.getfield 74, 3) := by decide +kernel
theorem dX8_takesNumber_16 : decode cX8_takesNumber 16 = .ok (.iload_n 2, 1) := by decide +kernel
theorem dX8_takesNumber_17 : decode cX8_takesNumber 17 = .ok (.iconst 2, 1) := by decide +kernel
theorem dX8_takesNumber_18 : decode cX8_takesNumber 18 = .ok (.iadd, 1) := by decide +kernel
theorem dX8_takesNumber_19 : decode cX8_takesNumber 19 = .ok (.if_icmp .ge 55, 3) := by decide +kernel
theorem dX8_takesNumber_22 : decode cX8_takesNumber 22 = .ok (.aload_n 0, 1) := by decide +kernel
theorem dX8_takesNumber_23 : decode cX8_takesNumber 23 = .ok (.bipush 48, 2) := by decide +kernel
theorem dX8_takesNumber_25 : decode cX8_takesNumber 25 = .ok (.bipush 57, 2) := by decide +kernel
theorem dX8_takesNumber_27 : decode cX8_takesNumber 27 = .ok (.invokevirtual 84, 3) := by decide +kernel
theorem dX8_takesNumber_30 : decode cX8_takesNumber 30 = .ok (.ifCond .eq 44, 3) := by decide +kernel
theorem dX8_takesNumber_33 : decode cX8_takesNumber 33 = .ok (.aload_n 0, 1) := by decide +kernel
theorem dX8_takesNumber_34 : decode cX8_takesNumber 34 = .ok (.getfield 25, 3) := by decide +kernel
theorem dX8_takesNumber_37 : decode cX8_takesNumber 37 = .ok (.iload_n 1, 1) := by decide +kernel
theorem dX8_takesNumber_38 : decode cX8_takesNumber 38 = .ok (.bipush 10, 2) := by decide +kernel
theorem dX8_takesNumber_40 : decode cX8_takesNumber 40 = .ok (.aload_n 0, 1) := by decide +kernel
theorem dX8_takesNumber_41 : decode cX8_takesNumber 41 = .ok (.getfield 25, 3) := by decide +kernel
theorem dX8_takesNumber_44 : decode cX8_takesNumber 44 = .ok (.iload_n 1, 1) := by decide +kernel
theorem dX8_takesNumber_45 : decode cX8_takesNumber 45 = .ok (.iaload, 1) := by decide +kernel
theorem dX8_takesNumber_46 : decode cX8_takesNumber 46 = .ok (.imul, 1) := by decide +kernel
theorem dX8_takesNumber_47 : decode cX8_takesNumber 47 = .ok (.aload_n 0, 1) := by decide +kernel
theorem dX8_takesNumber_48 : decode cX8_takesNumber 48 = .ok (.getfield 19, 3) := by decide +kernel
theorem dX8_takesNumber_51 : decode cX8_takesNumber 51 = .ok (.aload_n 0, 1) := by decide +kernel
theorem dX8_takesNumber_52 : decode cX8_takesNumber 52 = .ok (.getfield 74, 3) := by decide +kernel
theorem dX8_takesNumber_55 : decode cX8_takesNumber 55 = .ok (.iaload, 1) := by decide +kernel
theorem dX8_takesNumber_56 : decode cX8_takesNumber 56 = .ok (.iadd, 1) := by decide +kernel
theorem dX8_takesNumber_57 : decode cX8_takesNumber 57 = .ok (.bipush 48, 2) := by decide +kernel
theorem dX8_takesNumber_59 : decode cX8_takesNumber 59 = .ok (.isub, 1) := by decide +kernel
theorem dX8_takesNumber_60 : decode cX8_takesNumber 60 = .ok (.iastore, 1) := by decide +kernel
theorem dX8_takesNumber_61 : decode cX8_takesNumber 61 = .ok (.aload_n 0, 1) := by decide +kernel
theorem dX8_takesNumber_62 : decode cX8_takesNumber 62 = .ok (.dup, 1) := by decide +kernel
theorem dX8_takesNumber_63 : decode cX8_takesNumber 63 = .ok (.getfield 74, 3) := by decide +kernel
theorem dX8_takesNumber_66 : decode cX8_takesNumber 66 = .ok (.iconst 1, 1) := by decide +kernel
theorem dX8_takesNumber_67 : decode cX8_takesNumber 67 = .ok (.iadd, 1) := by decide +kernel
theorem dX8_takesNumber_68 : decode cX8_takesNumber 68 = .ok (.putfield 74, 3) := by decide +kernel
theorem dX8_takesNumber_71 : decode cX8_takesNumber 71 = .ok (.goto (-59), 3) := by decide +kernel
theorem dX8_takesNumber_74 : decode cX8_takesNumber 74 = .ok (.aload_n 0, 1) := by decide +kernel
theorem dX8_takesNumber_75 : decode cX8_takesNumber 75 = .ok (.getfield 74, 3) := by decide +kernel
theorem dX8_takesNumber_78 : decode cX8_takesNumber 78 = .ok (.iload_n 2, 1) := by decide +kernel
theorem dX8_takesNumber_79 : decode cX8_takesNumber 79 = .ok (.if_icmp .le 7, 3) := by decide +kernel
theorem dX8_takesNumber_82 : decode cX8_takesNumber 82 = .ok (.iconst 1, 1) := by decide +kernel
theorem dX8_takesNumber_83 : decode cX8_takesNumber 83 = .ok (.goto 4, 3) := by decide +kernel
theorem dX8_takesNumber_86 : decode cX8_takesNumber 86 = .ok (.iconst 0, 1) := by decide +kernel
theorem dX8_takesNumber_87 : decode cX8_takesNumber 87 = .ok (.ireturn, 1) := by decide +kernel
theorem dX8_takesNumbers_0 : decode cX8_takesNumbers 0 = .ok (.iconst 0, 1) := by decide +kernel
theorem dX8_takesNumbers_1 : decode cX8_takesNumbers 1 = .ok (.istore_n 2, 1) := by decide +kernel
theorem dX8_takesNumbers_2 : decode cX8_takesNumbers 2 = .ok (.iload_n 2, 1) := by decide +kernel
theorem dX8_takesNumbers_3 : decode cX8_takesNumbers 3 = .ok (.iload_n 1, 1) := by decide +kernel
theorem dX8_takesNumbers_4 : decode cX8_takesNumbers 4 = .ok (.if_icmp .ge 55, 3) := by decide +kernel
theorem dX8_takesNumbers_7 : decode cX8_takesNumbers 7 = .ok (.aload_n 0, 1) := by decide +kernel
theorem dX8_takesNumbers_8 : decode cX8_takesNumbers 8 = .ok (.iload_n 2, 1) := by decide +kernel
theorem dX8_takesNumbers_9 : decode cX8_takesNumbers 9 = .ok (.invokevirtual 88, 3) := by decide +kernel
theorem dX8_takesNumbers_12 : decode cX8_takesNumbers 12 = .ok (.ifCond .ne 5, 3) := by decide +kernel
theorem dX8_takesNumbers_15 : decode cX8_takesNumbers 15 = .ok (.iconst 0, 1) := by decide +kernel
theorem dX8_takesNumbers_16 : decode cX8_takesNumbers 16 = .ok (.ireturn, 1) := by decide +kernel
theorem dX8_takesNumbers_17 : decode cX8_takesNumbers 17 = .ok (.iload_n 2, 1) := by decide +kernel
theorem dX8_takesNumbers_18 : decode cX8_takesNumbers 18 = .ok (.iload_n 1, 1) := by decide +kernel
theorem dX8_takesNumbers_19 : decode cX8_takesNumbers 19 = .ok (.iconst 1, 1) := by decide +kernel
theorem dX8_takesNumbers_20 : decode cX8_takesNumbers 20 = .ok (.isub, 1) := by decide +kernel
theorem dX8_takesNumbers_21 : decode cX8_takesNumbers 21 = .ok (.if_icmp .ne 8, 3) := by decide +kernel
theorem dX8_takesNumbers_24 : decode cX8_takesNumbers 24 = .ok (.bipush 59, 2) := by decide +kernel
theorem dX8_takesNumbers_26 : decode cX8_takesNumbers 26 = .ok (.goto 5, 3) := by decide +kernel
theorem dX8_takesNumbers_29 : decode cX8_takesNumbers 29 = .ok (.bipush 44, 2) := by decide +kernel
theorem dX8_takesNumbers_31 : decode cX8_takesNumbers 31 = .ok (.istore_n 3, 1) := by decide +kernel
theorem dX8_takesNumbers_32 : decode cX8_takesNumbers 32 = .ok (.aload_n 0, 1) := by decide +kernel
theorem dX8_takesNumbers_33 : decode cX8_takesNumbers 33 = .ok (.iload_n 3, 1) := by decide +kernel
theorem dX8_takesNumbers_34 : decode cX8_takesNumbers 34 = .ok (.iload_n 3, 1) := by decide +kernel
theorem dX8_takesNumbers_35 : decode cX8_takesNumbers 35 = .ok (.invokevirtual 84, 3) := by decide +kernel
theorem dX8_takesNumbers_38 : decode cX8_takesNumbers 38 = .ok (.ifCond .ne 5, 3) := by decide +kernel
theorem dX8_takesNumbers_41 : decode cX8_takesNumbers 41 = .ok (.iconst 0, 1) := by decide +kernel
theorem dX8_takesNumbers_42 : decode cX8_takesNumbers 42 = .ok (.ireturn, 1) := by decide +kernel
theorem dX8_takesNumbers_43 : decode cX8_takesNumbers 43 = .ok (.aload_n 0, 1) := by decide +kernel
theorem dX8_takesNumbers_44 : decode cX8_takesNumbers 44 = .ok (.dup, 1) := by decide +kernel
theorem dX8_takesNumbers_45 : decode cX8_takesNumbers 45 = .ok (.getfield 74, 3) := by decide +kernel
theorem dX8_takesNumbers_48 : decode cX8_takesNumbers 48 = .ok (.iconst 1, 1) := by decide +kernel
theorem dX8_takesNumbers_49 : decode cX8_takesNumbers 49 = .ok (.iadd, 1) := by decide +kernel
theorem dX8_takesNumbers_50 : decode cX8_takesNumbers 50 = .ok (.putfield 74, 3) := by decide +kernel
theorem dX8_takesNumbers_53 : decode cX8_takesNumbers 53 = .ok (.iinc 2 1, 3) := by decide +kernel
theorem dX8_takesNumbers_56 : decode cX8_takesNumbers 56 = .ok (.goto (-54), 3) := by decide +kernel
theorem dX8_takesNumbers_59 : decode cX8_takesNumbers 59 = .ok (.iconst 1, 1) := by decide +kernel
theorem dX8_takesNumbers_60 : decode cX8_takesNumbers 60 = .ok (.ireturn, 1) := by decide +kernel
theorem dX8_isReadNode_0 : decode cX8_isReadNode 0 = .ok (.iload_n 1, 1) := by decide +kernel
theorem dX8_isReadNode_1 : decode cX8_isReadNode 1 = .ok (.aload_n 0, 1) := by decide +kernel
theorem dX8_isReadNode_2 : decode cX8_isReadNode 2 = .ok (.getfield 22, 3) := by decide +kernel
theorem dX8_isReadNode_5 : decode cX8_isReadNode 5 = .ok (.iconst 0, 1) := by decide +kernel
theorem dX8_isReadNode_6 : decode cX8_isReadNode 6 = .ok (.iaload, 1) := by decide +kernel
theorem dX8_isReadNode_7 : decode cX8_isReadNode 7 = .ok (.if_icmp .ge 7, 3) := by decide +kernel
theorem dX8_isReadNode_10 : decode cX8_isReadNode 10 = .ok (.iconst 1, 1) := by decide +kernel
theorem dX8_isReadNode_11 : decode cX8_isReadNode 11 = .ok (.goto 4, 3) := by decide +kernel
theorem dX8_isReadNode_14 : decode cX8_isReadNode 14 = .ok (.iconst 0, 1) := by decide +kernel
theorem dX8_isReadNode_15 : decode cX8_isReadNode 15 = .ok (.ireturn, 1) := by decide +kernel
theorem dX8_takesGoal_0 : decode cX8_takesGoal 0 = .ok (.aload_n 0, 1) := by decide +kernel
theorem dX8_takesGoal_1 : decode cX8_takesGoal 1 = .ok (.iconst 1, 1) := by decide +kernel
theorem dX8_takesGoal_2 : decode cX8_takesGoal 2 = .ok (.invokevirtual 92, 3) := by decide +kernel
theorem dX8_takesGoal_5 : decode cX8_takesGoal 5 = .ok (.ifCond .eq 30, 3) := by decide +kernel
theorem dX8_takesGoal_8 : decode cX8_takesGoal 8 = .ok (.aload_n 0, 1) := by decide +kernel
theorem dX8_takesGoal_9 : decode cX8_takesGoal 9 = .ok (.aload_n 0, 1) := by decide +kernel
theorem dX8_takesGoal_10 : decode cX8_takesGoal 10 = .ok (.getfield 25, 3) := by decide +kernel
theorem dX8_takesGoal_13 : decode cX8_takesGoal 13 = .ok (.iconst 0, 1) := by decide +kernel
theorem dX8_takesGoal_14 : decode cX8_takesGoal 14 = .ok (.iaload, 1) := by decide +kernel
theorem dX8_takesGoal_15 : decode cX8_takesGoal 15 = .ok (.invokevirtual 95, 3) := by decide +kernel
theorem dX8_takesGoal_18 : decode cX8_takesGoal 18 = .ok (.ifCond .eq 17, 3) := by decide +kernel
theorem dX8_takesGoal_21 : decode cX8_takesGoal 21 = .ok (.aload_n 0, 1) := by decide +kernel
theorem dX8_takesGoal_22 : decode cX8_takesGoal 22 = .ok (.getfield 22, 3) := by decide +kernel
theorem dX8_takesGoal_25 : decode cX8_takesGoal 25 = .ok (.iconst 1, 1) := by decide +kernel
theorem dX8_takesGoal_26 : decode cX8_takesGoal 26 = .ok (.iaload, 1) := by decide +kernel
theorem dX8_takesGoal_27 : decode cX8_takesGoal 27 = .ok (.iconst 3, 1) := by decide +kernel
theorem dX8_takesGoal_28 : decode cX8_takesGoal 28 = .ok (.if_icmp .ge 7, 3) := by decide +kernel
theorem dX8_takesGoal_31 : decode cX8_takesGoal 31 = .ok (.iconst 1, 1) := by decide +kernel
theorem dX8_takesGoal_32 : decode cX8_takesGoal 32 = .ok (.goto 4, 3) := by decide +kernel
theorem dX8_takesGoal_35 : decode cX8_takesGoal 35 = .ok (.iconst 0, 1) := by decide +kernel
theorem dX8_takesGoal_36 : decode cX8_takesGoal 36 = .ok (.istore_n 1, 1) := by decide +kernel
theorem dX8_takesGoal_37 : decode cX8_takesGoal 37 = .ok (.iconst 0, 1) := by decide +kernel
theorem dX8_takesGoal_38 : decode cX8_takesGoal 38 = .ok (.istore_n 2, 1) := by decide +kernel
theorem dX8_takesGoal_39 : decode cX8_takesGoal 39 = .ok (.iload_n 2, 1) := by decide +kernel
theorem dX8_takesGoal_40 : decode cX8_takesGoal 40 = .ok (.aload_n 0, 1) := by decide +kernel
theorem dX8_takesGoal_41 : decode cX8_takesGoal 41 = .ok (.getfield 22, 3) := by decide +kernel
theorem dX8_takesGoal_44 : decode cX8_takesGoal 44 = .ok (.iconst 1, 1) := by decide +kernel
theorem dX8_takesGoal_45 : decode cX8_takesGoal 45 = .ok (.iaload, 1) := by decide +kernel
theorem dX8_takesGoal_46 : decode cX8_takesGoal 46 = .ok (.if_icmp .ge 36, 3) := by decide +kernel
theorem dX8_takesGoal_49 : decode cX8_takesGoal 49 = .ok (.iload_n 1, 1) := by decide +kernel
theorem dX8_takesGoal_50 : decode cX8_takesGoal 50 = .ok (.ifCond .eq 24, 3) := by decide +kernel
theorem dX8_takesGoal_53 : decode cX8_takesGoal 53 = .ok (.aload_n 0, 1) := by decide +kernel
theorem dX8_takesGoal_54 : decode cX8_takesGoal 54 = .ok (.getfield 22, 3) := by decide +kernel
theorem dX8_takesGoal_57 : decode cX8_takesGoal 57 = .ok (.iconst 2, 1) := by decide +kernel
theorem dX8_takesGoal_58 : decode cX8_takesGoal 58 = .ok (.iload_n 2, 1) := by decide +kernel
theorem dX8_takesGoal_59 : decode cX8_takesGoal 59 = .ok (.iadd, 1) := by decide +kernel
theorem dX8_takesGoal_60 : decode cX8_takesGoal 60 = .ok (.iaload, 1) := by decide +kernel
theorem dX8_takesGoal_61 : decode cX8_takesGoal 61 = .ok (.aload_n 0, 1) := by decide +kernel
theorem dX8_takesGoal_62 : decode cX8_takesGoal 62 = .ok (.getfield 25, 3) := by decide +kernel
theorem dX8_takesGoal_65 : decode cX8_takesGoal 65 = .ok (.iconst 0, 1) := by decide +kernel
theorem dX8_takesGoal_66 : decode cX8_takesGoal 66 = .ok (.iaload, 1) := by decide +kernel
theorem dX8_takesGoal_67 : decode cX8_takesGoal 67 = .ok (.if_icmp .eq 7, 3) := by decide +kernel
theorem dX8_takesGoal_70 : decode cX8_takesGoal 70 = .ok (.iconst 1, 1) := by decide +kernel
theorem dX8_takesGoal_71 : decode cX8_takesGoal 71 = .ok (.goto 4, 3) := by decide +kernel
theorem dX8_takesGoal_74 : decode cX8_takesGoal 74 = .ok (.iconst 0, 1) := by decide +kernel
theorem dX8_takesGoal_75 : decode cX8_takesGoal 75 = .ok (.istore_n 1, 1) := by decide +kernel
theorem dX8_takesGoal_76 : decode cX8_takesGoal 76 = .ok (.iinc 2 1, 3) := by decide +kernel
theorem dX8_takesGoal_79 : decode cX8_takesGoal 79 = .ok (.goto (-40), 3) := by decide +kernel
theorem dX8_takesGoal_82 : decode cX8_takesGoal 82 = .ok (.iload_n 1, 1) := by decide +kernel
theorem dX8_takesGoal_83 : decode cX8_takesGoal 83 = .ok (.ifCond .eq 32, 3) := by decide +kernel
theorem dX8_takesGoal_86 : decode cX8_takesGoal 86 = .ok (.aload_n 0, 1) := by decide +kernel
theorem dX8_takesGoal_87 : decode cX8_takesGoal 87 = .ok (.getfield 22, 3) := by decide +kernel
theorem dX8_takesGoal_90 : decode cX8_takesGoal 90 = .ok (.iconst 2, 1) := by decide +kernel
theorem dX8_takesGoal_91 : decode cX8_takesGoal 91 = .ok (.aload_n 0, 1) := by decide +kernel
theorem dX8_takesGoal_92 : decode cX8_takesGoal 92 = .ok (.getfield 22, 3) := by decide +kernel
theorem dX8_takesGoal_95 : decode cX8_takesGoal 95 = .ok (.iconst 1, 1) := by decide +kernel
theorem dX8_takesGoal_96 : decode cX8_takesGoal 96 = .ok (.iaload, 1) := by decide +kernel
theorem dX8_takesGoal_97 : decode cX8_takesGoal 97 = .ok (.iadd, 1) := by decide +kernel
theorem dX8_takesGoal_98 : decode cX8_takesGoal 98 = .ok (.aload_n 0, 1) := by decide +kernel
theorem dX8_takesGoal_99 : decode cX8_takesGoal 99 = .ok (.getfield 25, 3) := by decide +kernel
theorem dX8_takesGoal_102 : decode cX8_takesGoal 102 = .ok (.iconst 0, 1) := by decide +kernel
theorem dX8_takesGoal_103 : decode cX8_takesGoal 103 = .ok (.iaload, 1) := by decide +kernel
theorem dX8_takesGoal_104 : decode cX8_takesGoal 104 = .ok (.iastore, 1) := by decide +kernel
theorem dX8_takesGoal_105 : decode cX8_takesGoal 105 = .ok (.aload_n 0, 1) := by decide +kernel
theorem dX8_takesGoal_106 : decode cX8_takesGoal 106 = .ok (.getfield 22, 3) := by decide +kernel
theorem dX8_takesGoal_109 : decode cX8_takesGoal 109 = .ok (.iconst 1, 1) := by decide +kernel
theorem dX8_takesGoal_110 : decode cX8_takesGoal 110 = .ok (.dup2, 1) := by decide +kernel
theorem dX8_takesGoal_111 : decode cX8_takesGoal 111 = .ok (.iaload, 1) := by decide +kernel
theorem dX8_takesGoal_112 : decode cX8_takesGoal 112 = .ok (.iconst 1, 1) := by decide +kernel
theorem dX8_takesGoal_113 : decode cX8_takesGoal 113 = .ok (.iadd, 1) := by decide +kernel
theorem dX8_takesGoal_114 : decode cX8_takesGoal 114 = .ok (.iastore, 1) := by decide +kernel
theorem dX8_takesGoal_115 : decode cX8_takesGoal 115 = .ok (.iload_n 1, 1) := by decide +kernel
theorem dX8_takesGoal_116 : decode cX8_takesGoal 116 = .ok (.ireturn, 1) := by decide +kernel
theorem dX8_takesLink_0 : decode cX8_takesLink 0 = .ok (.aload_n 0, 1) := by decide +kernel
theorem dX8_takesLink_1 : decode cX8_takesLink 1 = .ok (.iconst 3, 1) := by decide +kernel
theorem dX8_takesLink_2 : decode cX8_takesLink 2 = .ok (.invokevirtual 92, 3) := by decide +kernel
theorem dX8_takesLink_5 : decode cX8_takesLink 5 = .ok (.ifCond .eq 76, 3) := by decide +kernel
theorem dX8_takesLink_8 : decode cX8_takesLink 8 = .ok (.aload_n 0, 1) := by decide +kernel
theorem dX8_takesLink_9 : decode cX8_takesLink 9 = .ok (.aload_n 0, 1) := by decide +kernel
theorem dX8_takesLink_10 : decode cX8_takesLink 10 = .ok (.getfield 25, 3) := by decide +kernel
theorem dX8_takesLink_13 : decode cX8_takesLink 13 = .ok (.iconst 0, 1) := by decide +kernel
theorem dX8_takesLink_14 : decode cX8_takesLink 14 = .ok (.iaload, 1) := by decide +kernel
theorem dX8_takesLink_15 : decode cX8_takesLink 15 = .ok (.invokevirtual 95, 3) := by decide +kernel
theorem dX8_takesLink_18 : decode cX8_takesLink 18 = .ok (.ifCond .eq 63, 3) := by decide +kernel
theorem dX8_takesLink_21 : decode cX8_takesLink 21 = .ok (.aload_n 0, 1) := by decide +kernel
theorem dX8_takesLink_22 : decode cX8_takesLink 22 = .ok (.aload_n 0, 1) := by decide +kernel
theorem dX8_takesLink_23 : decode cX8_takesLink 23 = .ok (.getfield 25, 3) := by decide +kernel
theorem dX8_takesLink_26 : decode cX8_takesLink 26 = .ok (.iconst 1, 1) := by decide +kernel
theorem dX8_takesLink_27 : decode cX8_takesLink 27 = .ok (.iaload, 1) := by decide +kernel
theorem dX8_takesLink_28 : decode cX8_takesLink 28 = .ok (.invokevirtual 95, 3) := by decide +kernel
theorem dX8_takesLink_31 : decode cX8_takesLink 31 = .ok (.ifCond .eq 50, 3) := by decide +kernel
theorem dX8_takesLink_34 : decode cX8_takesLink 34 = .ok (.aload_n 0, 1) := by decide +kernel
theorem dX8_takesLink_35 : decode cX8_takesLink 35 = .ok (.getfield 25, 3) := by decide +kernel
theorem dX8_takesLink_38 : decode cX8_takesLink 38 = .ok (.iconst 0, 1) := by decide +kernel
theorem dX8_takesLink_39 : decode cX8_takesLink 39 = .ok (.iaload, 1) := by decide +kernel
theorem dX8_takesLink_40 : decode cX8_takesLink 40 = .ok (.aload_n 0, 1) := by decide +kernel
theorem dX8_takesLink_41 : decode cX8_takesLink 41 = .ok (.getfield 25, 3) := by decide +kernel
theorem dX8_takesLink_44 : decode cX8_takesLink 44 = .ok (.iconst 1, 1) := by decide +kernel
theorem dX8_takesLink_45 : decode cX8_takesLink 45 = .ok (.iaload, 1) := by decide +kernel
theorem dX8_takesLink_46 : decode cX8_takesLink 46 = .ok (.if_icmp .eq 35, 3) := by decide +kernel
theorem dX8_takesLink_49 : decode cX8_takesLink 49 = .ok (.aload_n 0, 1) := by decide +kernel
theorem dX8_takesLink_50 : decode cX8_takesLink 50 = .ok (.getfield 25, 3) := by decide +kernel
theorem dX8_takesLink_53 : decode cX8_takesLink 53 = .ok (.iconst 2, 1) := by decide +kernel
theorem dX8_takesLink_54 : decode cX8_takesLink 54 = .ok (.iaload, 1) := by decide +kernel
theorem dX8_takesLink_55 : decode cX8_takesLink 55 = .ok (.i2l, 1) := by decide +kernel
theorem dX8_takesLink_56 : decode cX8_takesLink 56 = .ok (.lconst 1, 1) := by decide +kernel
theorem dX8_takesLink_57 : decode cX8_takesLink 57 = .ok (.ldc2_w 98, 3) := by decide +kernel
theorem dX8_takesLink_60 : decode cX8_takesLink 60 = .ok (.invokestatic 80, 3) := by decide +kernel
theorem dX8_takesLink_63 : decode cX8_takesLink 63 = .ok (.ifCond .eq 18, 3) := by decide +kernel
theorem dX8_takesLink_66 : decode cX8_takesLink 66 = .ok (.aload_n 0, 1) := by decide +kernel
theorem dX8_takesLink_67 : decode cX8_takesLink 67 = .ok (.getfield 22, 3) := by decide +kernel
theorem dX8_takesLink_70 : decode cX8_takesLink 70 = .ok (.iconst 5, 1) := by decide +kernel
theorem dX8_takesLink_71 : decode cX8_takesLink 71 = .ok (.iaload, 1) := by decide +kernel
theorem dX8_takesLink_72 : decode cX8_takesLink 72 = .ok (.bipush 10, 2) := by decide +kernel
theorem dX8_takesLink_74 : decode cX8_takesLink 74 = .ok (.if_icmp .ge 7, 3) := by decide +kernel
theorem dX8_takesLink_77 : decode cX8_takesLink 77 = .ok (.iconst 1, 1) := by decide +kernel
theorem dX8_takesLink_78 : decode cX8_takesLink 78 = .ok (.goto 4, 3) := by decide +kernel
theorem dX8_takesLink_81 : decode cX8_takesLink 81 = .ok (.iconst 0, 1) := by decide +kernel
theorem dX8_takesLink_82 : decode cX8_takesLink 82 = .ok (.istore_n 1, 1) := by decide +kernel
theorem dX8_takesLink_83 : decode cX8_takesLink 83 = .ok (.iload_n 1, 1) := by decide +kernel
theorem dX8_takesLink_84 : decode cX8_takesLink 84 = .ok (.ifCond .eq 25, 3) := by decide +kernel
theorem dX8_takesLink_87 : decode cX8_takesLink 87 = .ok (.aload_n 0, 1) := by decide +kernel
theorem dX8_takesLink_88 : decode cX8_takesLink 88 = .ok (.aload_n 0, 1) := by decide +kernel
theorem dX8_takesLink_89 : decode cX8_takesLink 89 = .ok (.getfield 25, 3) := by decide +kernel
theorem dX8_takesLink_92 : decode cX8_takesLink 92 = .ok (.iconst 0, 1) := by decide +kernel
theorem dX8_takesLink_93 : decode cX8_takesLink 93 = .ok (.iaload, 1) := by decide +kernel
theorem dX8_takesLink_94 : decode cX8_takesLink 94 = .ok (.aload_n 0, 1) := by decide +kernel
theorem dX8_takesLink_95 : decode cX8_takesLink 95 = .ok (.getfield 25, 3) := by decide +kernel
theorem dX8_takesLink_98 : decode cX8_takesLink 98 = .ok (.iconst 1, 1) := by decide +kernel
theorem dX8_takesLink_99 : decode cX8_takesLink 99 = .ok (.iaload, 1) := by decide +kernel
theorem dX8_takesLink_100 : decode cX8_takesLink 100 = .ok (.aload_n 0, 1) := by decide +kernel
theorem dX8_takesLink_101 : decode cX8_takesLink 101 = .ok (.getfield 25, 3) := by decide +kernel
theorem dX8_takesLink_104 : decode cX8_takesLink 104 = .ok (.iconst 2, 1) := by decide +kernel
theorem dX8_takesLink_105 : decode cX8_takesLink 105 = .ok (.iaload, 1) := by decide +kernel
theorem dX8_takesLink_106 : decode cX8_takesLink 106 = .ok (.invokevirtual 59, 3) := by decide +kernel
theorem dX8_takesLink_109 : decode cX8_takesLink 109 = .ok (.iload_n 1, 1) := by decide +kernel
theorem dX8_takesLink_110 : decode cX8_takesLink 110 = .ok (.ireturn, 1) := by decide +kernel
theorem dX8_takesClash_0 : decode cX8_takesClash 0 = .ok (.aload_n 0, 1) := by decide +kernel
theorem dX8_takesClash_1 : decode cX8_takesClash 1 = .ok (.iconst 2, 1) := by decide +kernel
theorem dX8_takesClash_2 : decode cX8_takesClash 2 = .ok (.invokevirtual 92, 3) := by decide +kernel
theorem dX8_takesClash_5 : decode cX8_takesClash 5 = .ok (.ifCond .eq 52, 3) := by decide +kernel
theorem dX8_takesClash_8 : decode cX8_takesClash 8 = .ok (.aload_n 0, 1) := by decide +kernel
theorem dX8_takesClash_9 : decode cX8_takesClash 9 = .ok (.getfield 25, 3) := by decide +kernel
theorem dX8_takesClash_12 : decode cX8_takesClash 12 = .ok (.iconst 0, 1) := by decide +kernel
theorem dX8_takesClash_13 : decode cX8_takesClash 13 = .ok (.iaload, 1) := by decide +kernel
theorem dX8_takesClash_14 : decode cX8_takesClash 14 = .ok (.aload_n 0, 1) := by decide +kernel
theorem dX8_takesClash_15 : decode cX8_takesClash 15 = .ok (.getfield 22, 3) := by decide +kernel
theorem dX8_takesClash_18 : decode cX8_takesClash 18 = .ok (.iconst 5, 1) := by decide +kernel
theorem dX8_takesClash_19 : decode cX8_takesClash 19 = .ok (.iaload, 1) := by decide +kernel
theorem dX8_takesClash_20 : decode cX8_takesClash 20 = .ok (.if_icmp .ge 37, 3) := by decide +kernel
theorem dX8_takesClash_23 : decode cX8_takesClash 23 = .ok (.aload_n 0, 1) := by decide +kernel
theorem dX8_takesClash_24 : decode cX8_takesClash 24 = .ok (.getfield 25, 3) := by decide +kernel
theorem dX8_takesClash_27 : decode cX8_takesClash 27 = .ok (.iconst 1, 1) := by decide +kernel
theorem dX8_takesClash_28 : decode cX8_takesClash 28 = .ok (.iaload, 1) := by decide +kernel
theorem dX8_takesClash_29 : decode cX8_takesClash 29 = .ok (.aload_n 0, 1) := by decide +kernel
theorem dX8_takesClash_30 : decode cX8_takesClash 30 = .ok (.getfield 22, 3) := by decide +kernel
theorem dX8_takesClash_33 : decode cX8_takesClash 33 = .ok (.iconst 5, 1) := by decide +kernel
theorem dX8_takesClash_34 : decode cX8_takesClash 34 = .ok (.iaload, 1) := by decide +kernel
theorem dX8_takesClash_35 : decode cX8_takesClash 35 = .ok (.if_icmp .ge 22, 3) := by decide +kernel
theorem dX8_takesClash_38 : decode cX8_takesClash 38 = .ok (.aload_n 0, 1) := by decide +kernel
theorem dX8_takesClash_39 : decode cX8_takesClash 39 = .ok (.getfield 25, 3) := by decide +kernel
theorem dX8_takesClash_42 : decode cX8_takesClash 42 = .ok (.iconst 0, 1) := by decide +kernel
theorem dX8_takesClash_43 : decode cX8_takesClash 43 = .ok (.iaload, 1) := by decide +kernel
theorem dX8_takesClash_44 : decode cX8_takesClash 44 = .ok (.aload_n 0, 1) := by decide +kernel
theorem dX8_takesClash_45 : decode cX8_takesClash 45 = .ok (.getfield 25, 3) := by decide +kernel
theorem dX8_takesClash_48 : decode cX8_takesClash 48 = .ok (.iconst 1, 1) := by decide +kernel
theorem dX8_takesClash_49 : decode cX8_takesClash 49 = .ok (.iaload, 1) := by decide +kernel
theorem dX8_takesClash_50 : decode cX8_takesClash 50 = .ok (.if_icmp .eq 7, 3) := by decide +kernel
theorem dX8_takesClash_53 : decode cX8_takesClash 53 = .ok (.iconst 1, 1) := by decide +kernel
theorem dX8_takesClash_54 : decode cX8_takesClash 54 = .ok (.goto 4, 3) := by decide +kernel
theorem dX8_takesClash_57 : decode cX8_takesClash 57 = .ok (.iconst 0, 1) := by decide +kernel
theorem dX8_takesClash_58 : decode cX8_takesClash 58 = .ok (.istore_n 1, 1) := by decide +kernel
theorem dX8_takesClash_59 : decode cX8_takesClash 59 = .ok (.iload_n 1, 1) := by decide +kernel
theorem dX8_takesClash_60 : decode cX8_takesClash 60 = .ok (.ifCond .eq 23, 3) := by decide +kernel
theorem dX8_takesClash_63 : decode cX8_takesClash 63 = .ok (.aload_n 0, 1) := by decide +kernel
theorem dX8_takesClash_64 : decode cX8_takesClash 64 = .ok (.getfield 22, 3) := by decide +kernel
theorem dX8_takesClash_67 : decode cX8_takesClash 67 = .ok (.aload_n 0, 1) := by decide +kernel
theorem dX8_takesClash_68 : decode cX8_takesClash 68 = .ok (.getfield 25, 3) := by decide +kernel
theorem dX8_takesClash_71 : decode cX8_takesClash 71 = .ok (.iconst 0, 1) := by decide +kernel
theorem dX8_takesClash_72 : decode cX8_takesClash 72 = .ok (.iaload, 1) := by decide +kernel
theorem dX8_takesClash_73 : decode cX8_takesClash 73 = .ok (.aload_n 0, 1) := by decide +kernel
theorem dX8_takesClash_74 : decode cX8_takesClash 74 = .ok (.getfield 25, 3) := by decide +kernel
theorem dX8_takesClash_77 : decode cX8_takesClash 77 = .ok (.iconst 1, 1) := by decide +kernel
theorem dX8_takesClash_78 : decode cX8_takesClash 78 = .ok (.iaload, 1) := by decide +kernel
theorem dX8_takesClash_79 : decode cX8_takesClash 79 = .ok (.iconst 1, 1) := by decide +kernel
theorem dX8_takesClash_80 : decode cX8_takesClash 80 = .ok (.invokestatic 63, 3) := by decide +kernel
theorem dX8_takesClash_83 : decode cX8_takesClash 83 = .ok (.iload_n 1, 1) := by decide +kernel
theorem dX8_takesClash_84 : decode cX8_takesClash 84 = .ok (.ireturn, 1) := by decide +kernel
theorem dX8_takesFeed_0 : decode cX8_takesFeed 0 = .ok (.aload_n 0, 1) := by decide +kernel
theorem dX8_takesFeed_1 : decode cX8_takesFeed 1 = .ok (.iconst 3, 1) := by decide +kernel
theorem dX8_takesFeed_2 : decode cX8_takesFeed 2 = .ok (.invokevirtual 92, 3) := by decide +kernel
theorem dX8_takesFeed_5 : decode cX8_takesFeed 5 = .ok (.ifCond .eq 46, 3) := by decide +kernel
theorem dX8_takesFeed_8 : decode cX8_takesFeed 8 = .ok (.aload_n 0, 1) := by decide +kernel
theorem dX8_takesFeed_9 : decode cX8_takesFeed 9 = .ok (.aload_n 0, 1) := by decide +kernel
theorem dX8_takesFeed_10 : decode cX8_takesFeed 10 = .ok (.getfield 25, 3) := by decide +kernel
theorem dX8_takesFeed_13 : decode cX8_takesFeed 13 = .ok (.iconst 0, 1) := by decide +kernel
theorem dX8_takesFeed_14 : decode cX8_takesFeed 14 = .ok (.iaload, 1) := by decide +kernel
theorem dX8_takesFeed_15 : decode cX8_takesFeed 15 = .ok (.invokevirtual 95, 3) := by decide +kernel
theorem dX8_takesFeed_18 : decode cX8_takesFeed 18 = .ok (.ifCond .eq 33, 3) := by decide +kernel
theorem dX8_takesFeed_21 : decode cX8_takesFeed 21 = .ok (.aload_n 0, 1) := by decide +kernel
theorem dX8_takesFeed_22 : decode cX8_takesFeed 22 = .ok (.getfield 25, 3) := by decide +kernel
theorem dX8_takesFeed_25 : decode cX8_takesFeed 25 = .ok (.iconst 1, 1) := by decide +kernel
theorem dX8_takesFeed_26 : decode cX8_takesFeed 26 = .ok (.iaload, 1) := by decide +kernel
theorem dX8_takesFeed_27 : decode cX8_takesFeed 27 = .ok (.aload_n 0, 1) := by decide +kernel
theorem dX8_takesFeed_28 : decode cX8_takesFeed 28 = .ok (.getfield 22, 3) := by decide +kernel
theorem dX8_takesFeed_31 : decode cX8_takesFeed 31 = .ok (.iconst 1, 1) := by decide +kernel
theorem dX8_takesFeed_32 : decode cX8_takesFeed 32 = .ok (.iaload, 1) := by decide +kernel
theorem dX8_takesFeed_33 : decode cX8_takesFeed 33 = .ok (.if_icmp .ge 18, 3) := by decide +kernel
theorem dX8_takesFeed_36 : decode cX8_takesFeed 36 = .ok (.aload_n 0, 1) := by decide +kernel
theorem dX8_takesFeed_37 : decode cX8_takesFeed 37 = .ok (.getfield 25, 3) := by decide +kernel
theorem dX8_takesFeed_40 : decode cX8_takesFeed 40 = .ok (.iconst 2, 1) := by decide +kernel
theorem dX8_takesFeed_41 : decode cX8_takesFeed 41 = .ok (.iaload, 1) := by decide +kernel
theorem dX8_takesFeed_42 : decode cX8_takesFeed 42 = .ok (.bipush 10, 2) := by decide +kernel
theorem dX8_takesFeed_44 : decode cX8_takesFeed 44 = .ok (.if_icmp .ge 7, 3) := by decide +kernel
theorem dX8_takesFeed_47 : decode cX8_takesFeed 47 = .ok (.iconst 1, 1) := by decide +kernel
theorem dX8_takesFeed_48 : decode cX8_takesFeed 48 = .ok (.goto 4, 3) := by decide +kernel
theorem dX8_takesFeed_51 : decode cX8_takesFeed 51 = .ok (.iconst 0, 1) := by decide +kernel
theorem dX8_takesFeed_52 : decode cX8_takesFeed 52 = .ok (.istore_n 1, 1) := by decide +kernel
theorem dX8_takesFeed_53 : decode cX8_takesFeed 53 = .ok (.iload_n 1, 1) := by decide +kernel
theorem dX8_takesFeed_54 : decode cX8_takesFeed 54 = .ok (.ifCond .eq 25, 3) := by decide +kernel
theorem dX8_takesFeed_57 : decode cX8_takesFeed 57 = .ok (.aload_n 0, 1) := by decide +kernel
theorem dX8_takesFeed_58 : decode cX8_takesFeed 58 = .ok (.getfield 22, 3) := by decide +kernel
theorem dX8_takesFeed_61 : decode cX8_takesFeed 61 = .ok (.iconst 2, 1) := by decide +kernel
theorem dX8_takesFeed_62 : decode cX8_takesFeed 62 = .ok (.aload_n 0, 1) := by decide +kernel
theorem dX8_takesFeed_63 : decode cX8_takesFeed 63 = .ok (.getfield 25, 3) := by decide +kernel
theorem dX8_takesFeed_66 : decode cX8_takesFeed 66 = .ok (.iconst 1, 1) := by decide +kernel
theorem dX8_takesFeed_67 : decode cX8_takesFeed 67 = .ok (.iaload, 1) := by decide +kernel
theorem dX8_takesFeed_68 : decode cX8_takesFeed 68 = .ok (.iadd, 1) := by decide +kernel
theorem dX8_takesFeed_69 : decode cX8_takesFeed 69 = .ok (.iaload, 1) := by decide +kernel
theorem dX8_takesFeed_70 : decode cX8_takesFeed 70 = .ok (.aload_n 0, 1) := by decide +kernel
theorem dX8_takesFeed_71 : decode cX8_takesFeed 71 = .ok (.getfield 25, 3) := by decide +kernel
theorem dX8_takesFeed_74 : decode cX8_takesFeed 74 = .ok (.iconst 0, 1) := by decide +kernel
theorem dX8_takesFeed_75 : decode cX8_takesFeed 75 = .ok (.iaload, 1) := by decide +kernel
theorem dX8_takesFeed_76 : decode cX8_takesFeed 76 = .ok (.if_icmp .ne 5, 3) := by decide +kernel
theorem dX8_takesFeed_79 : decode cX8_takesFeed 79 = .ok (.iconst 0, 1) := by decide +kernel
theorem dX8_takesFeed_80 : decode cX8_takesFeed 80 = .ok (.ireturn, 1) := by decide +kernel
theorem dX8_takesFeed_81 : decode cX8_takesFeed 81 = .ok (.aload_n 0, 1) := by decide +kernel
theorem dX8_takesFeed_82 : decode cX8_takesFeed 82 = .ok (.getfield 22, 3) := by decide +kernel
theorem dX8_takesFeed_85 : decode cX8_takesFeed 85 = .ok (.bipush 46, 2) := by decide +kernel
theorem dX8_takesFeed_87 : decode cX8_takesFeed 87 = .ok (.iconst 3, 1) := by decide +kernel
theorem dX8_takesFeed_88 : decode cX8_takesFeed 88 = .ok (.aload_n 0, 1) := by decide +kernel
theorem dX8_takesFeed_89 : decode cX8_takesFeed 89 = .ok (.getfield 25, 3) := by decide +kernel
theorem dX8_takesFeed_92 : decode cX8_takesFeed 92 = .ok (.iconst 0, 1) := by decide +kernel
theorem dX8_takesFeed_93 : decode cX8_takesFeed 93 = .ok (.iaload, 1) := by decide +kernel
theorem dX8_takesFeed_94 : decode cX8_takesFeed 94 = .ok (.imul, 1) := by decide +kernel
theorem dX8_takesFeed_95 : decode cX8_takesFeed 95 = .ok (.iadd, 1) := by decide +kernel
theorem dX8_takesFeed_96 : decode cX8_takesFeed 96 = .ok (.aload_n 0, 1) := by decide +kernel
theorem dX8_takesFeed_97 : decode cX8_takesFeed 97 = .ok (.getfield 25, 3) := by decide +kernel
theorem dX8_takesFeed_100 : decode cX8_takesFeed 100 = .ok (.iconst 1, 1) := by decide +kernel
theorem dX8_takesFeed_101 : decode cX8_takesFeed 101 = .ok (.iaload, 1) := by decide +kernel
theorem dX8_takesFeed_102 : decode cX8_takesFeed 102 = .ok (.iadd, 1) := by decide +kernel
theorem dX8_takesFeed_103 : decode cX8_takesFeed 103 = .ok (.aload_n 0, 1) := by decide +kernel
theorem dX8_takesFeed_104 : decode cX8_takesFeed 104 = .ok (.getfield 25, 3) := by decide +kernel
theorem dX8_takesFeed_107 : decode cX8_takesFeed 107 = .ok (.iconst 2, 1) := by decide +kernel
theorem dX8_takesFeed_108 : decode cX8_takesFeed 108 = .ok (.iaload, 1) := by decide +kernel
theorem dX8_takesFeed_109 : decode cX8_takesFeed 109 = .ok (.iastore, 1) := by decide +kernel
theorem dX8_takesFeed_110 : decode cX8_takesFeed 110 = .ok (.iconst 1, 1) := by decide +kernel
theorem dX8_takesFeed_111 : decode cX8_takesFeed 111 = .ok (.ireturn, 1) := by decide +kernel
theorem dX8_takesOne_0 : decode cX8_takesOne 0 = .ok (.aload_n 0, 1) := by decide +kernel
theorem dX8_takesOne_1 : decode cX8_takesOne 1 = .ok (.iconst 1, 1) := by decide +kernel
theorem dX8_takesOne_2 : decode cX8_takesOne 2 = .ok (.invokevirtual 92, 3) := by decide +kernel
theorem dX8_takesOne_5 : decode cX8_takesOne 5 = .ok (.ifCond .eq 17, 3) := by decide +kernel
theorem dX8_takesOne_8 : decode cX8_takesOne 8 = .ok (.aload_n 0, 1) := by decide +kernel
theorem dX8_takesOne_9 : decode cX8_takesOne 9 = .ok (.getfield 25, 3) := by decide +kernel
theorem dX8_takesOne_12 : decode cX8_takesOne 12 = .ok (.iconst 0, 1) := by decide +kernel
theorem dX8_takesOne_13 : decode cX8_takesOne 13 = .ok (.iaload, 1) := by decide +kernel
theorem dX8_takesOne_14 : decode cX8_takesOne 14 = .ok (.iload_n 2, 1) := by decide +kernel
theorem dX8_takesOne_15 : decode cX8_takesOne 15 = .ok (.if_icmp .gt 7, 3) := by decide +kernel
theorem dX8_takesOne_18 : decode cX8_takesOne 18 = .ok (.iconst 1, 1) := by decide +kernel
theorem dX8_takesOne_19 : decode cX8_takesOne 19 = .ok (.goto 4, 3) := by decide +kernel
theorem dX8_takesOne_22 : decode cX8_takesOne 22 = .ok (.iconst 0, 1) := by decide +kernel
theorem dX8_takesOne_23 : decode cX8_takesOne 23 = .ok (.istore_n 3, 1) := by decide +kernel
theorem dX8_takesOne_24 : decode cX8_takesOne 24 = .ok (.aload_n 0, 1) := by decide +kernel
theorem dX8_takesOne_25 : decode cX8_takesOne 25 = .ok (.getfield 22, 3) := by decide +kernel
theorem dX8_takesOne_28 : decode cX8_takesOne 28 = .ok (.iload_n 1, 1) := by decide +kernel
theorem dX8_takesOne_29 : decode cX8_takesOne 29 = .ok (.iload_n 3, 1) := by decide +kernel
theorem dX8_takesOne_30 : decode cX8_takesOne 30 = .ok (.ifCond .eq 12, 3) := by decide +kernel
theorem dX8_takesOne_33 : decode cX8_takesOne 33 = .ok (.aload_n 0, 1) := by decide +kernel
theorem dX8_takesOne_34 : decode cX8_takesOne 34 = .ok (.getfield 25, 3) := by decide +kernel
theorem dX8_takesOne_37 : decode cX8_takesOne 37 = .ok (.iconst 0, 1) := by decide +kernel
theorem dX8_takesOne_38 : decode cX8_takesOne 38 = .ok (.iaload, 1) := by decide +kernel
theorem dX8_takesOne_39 : decode cX8_takesOne 39 = .ok (.goto 9, 3) := by decide +kernel
theorem dX8_takesOne_42 : decode cX8_takesOne 42 = .ok (.aload_n 0, 1) := by decide +kernel
theorem dX8_takesOne_43 : decode cX8_takesOne 43 = .ok (.getfield 22, 3) := by decide +kernel
theorem dX8_takesOne_46 : decode cX8_takesOne 46 = .ok (.iload_n 1, 1) := by decide +kernel
theorem dX8_takesOne_47 : decode cX8_takesOne 47 = .ok (.iaload, 1) := by decide +kernel
theorem dX8_takesOne_48 : decode cX8_takesOne 48 = .ok (.iastore, 1) := by decide +kernel
theorem dX8_takesOne_49 : decode cX8_takesOne 49 = .ok (.iload_n 3, 1) := by decide +kernel
theorem dX8_takesOne_50 : decode cX8_takesOne 50 = .ok (.ireturn, 1) := by decide +kernel
theorem dX8_takesItem_0 : decode cX8_takesItem 0 = .ok (.aload_n 0, 1) := by decide +kernel
theorem dX8_takesItem_1 : decode cX8_takesItem 1 = .ok (.getfield 19, 3) := by decide +kernel
theorem dX8_takesItem_4 : decode cX8_takesItem 4 = .ok (.aload_n 0, 1) := by decide +kernel
theorem dX8_takesItem_5 : decode cX8_takesItem 5 = .ok (.getfield 74, 3) := by decide +kernel
theorem dX8_takesItem_8 : decode cX8_takesItem 8 = .ok (.iaload, 1) := by decide +kernel
theorem dX8_takesItem_9 : decode cX8_takesItem 9 = .ok (.istore_n 1, 1) := by decide +kernel
theorem dX8_takesItem_10 : decode cX8_takesItem 10 = .ok (.aload_n 0, 1) := by decide +kernel
theorem dX8_takesItem_11 : decode cX8_takesItem 11 = .ok (.dup, 1) := by decide +kernel
theorem dX8_takesItem_12 : decode cX8_takesItem 12 = .ok (.getfield 74, 3) := by decide +kernel
theorem dX8_takesItem_15 : decode cX8_takesItem 15 = .ok (.iconst 1, 1) := by decide +kernel
theorem dX8_takesItem_16 : decode cX8_takesItem 16 = .ok (.iadd, 1) := by decide +kernel
theorem dX8_takesItem_17 : decode cX8_takesItem 17 = .ok (.putfield 74, 3) := by decide +kernel
theorem dX8_takesItem_20 : decode cX8_takesItem 20 = .ok (.iload_n 1, 1) := by decide +kernel
theorem dX8_takesItem_21 : decode cX8_takesItem 21 = .ok (.bipush 110, 2) := by decide +kernel
theorem dX8_takesItem_23 : decode cX8_takesItem 23 = .ok (.if_icmp .ne 38, 3) := by decide +kernel
theorem dX8_takesItem_26 : decode cX8_takesItem 26 = .ok (.aload_n 0, 1) := by decide +kernel
theorem dX8_takesItem_27 : decode cX8_takesItem 27 = .ok (.getfield 22, 3) := by decide +kernel
theorem dX8_takesItem_30 : decode cX8_takesItem 30 = .ok (.iconst 0, 1) := by decide +kernel
theorem dX8_takesItem_31 : decode cX8_takesItem 31 = .ok (.iaload, 1) := by decide +kernel
theorem dX8_takesItem_32 : decode cX8_takesItem 32 = .ok (.ifCond .ne 27, 3) := by decide +kernel
theorem dX8_takesItem_35 : decode cX8_takesItem 35 = .ok (.aload_n 0, 1) := by decide +kernel
theorem dX8_takesItem_36 : decode cX8_takesItem 36 = .ok (.iconst 0, 1) := by decide +kernel
theorem dX8_takesItem_37 : decode cX8_takesItem 37 = .ok (.bipush 6, 2) := by decide +kernel
theorem dX8_takesItem_39 : decode cX8_takesItem 39 = .ok (.invokevirtual 100, 3) := by decide +kernel
theorem dX8_takesItem_42 : decode cX8_takesItem 42 = .ok (.ifCond .eq 17, 3) := by decide +kernel
theorem dX8_takesItem_45 : decode cX8_takesItem 45 = .ok (.aload_n 0, 1) := by decide +kernel
theorem dX8_takesItem_46 : decode cX8_takesItem 46 = .ok (.getfield 22, 3) := by decide +kernel
theorem dX8_takesItem_49 : decode cX8_takesItem 49 = .ok (.iconst 0, 1) := by decide +kernel
theorem dX8_takesItem_50 : decode cX8_takesItem 50 = .ok (.iaload, 1) := by decide +kernel
theorem dX8_takesItem_51 : decode cX8_takesItem 51 = .ok (.iconst 1, 1) := by decide +kernel
theorem dX8_takesItem_52 : decode cX8_takesItem 52 = .ok (.if_icmp .le 7, 3) := by decide +kernel
theorem dX8_takesItem_55 : decode cX8_takesItem 55 = .ok (.iconst 1, 1) := by decide +kernel
theorem dX8_takesItem_56 : decode cX8_takesItem 56 = .ok (.goto 4, 3) := by decide +kernel
theorem dX8_takesItem_59 : decode cX8_takesItem 59 = .ok (.iconst 0, 1) := by decide +kernel
theorem dX8_takesItem_60 : decode cX8_takesItem 60 = .ok (.ireturn, 1) := by decide +kernel
theorem dX8_takesItem_61 : decode cX8_takesItem 61 = .ok (.aload_n 0, 1) := by decide +kernel
theorem dX8_takesItem_62 : decode cX8_takesItem 62 = .ok (.getfield 22, 3) := by decide +kernel
theorem dX8_takesItem_65 : decode cX8_takesItem 65 = .ok (.iconst 0, 1) := by decide +kernel
theorem dX8_takesItem_66 : decode cX8_takesItem 66 = .ok (.iaload, 1) := by decide +kernel
theorem dX8_takesItem_67 : decode cX8_takesItem 67 = .ok (.ifCond .ne 5, 3) := by decide +kernel
theorem dX8_takesItem_70 : decode cX8_takesItem 70 = .ok (.iconst 0, 1) := by decide +kernel
theorem dX8_takesItem_71 : decode cX8_takesItem 71 = .ok (.ireturn, 1) := by decide +kernel
theorem dX8_takesItem_72 : decode cX8_takesItem 72 = .ok (.iload_n 1, 1) := by decide +kernel
theorem dX8_takesItem_73 : decode cX8_takesItem 73 = .ok (.lookupswitch 96 #[(98, 79), (102, 74), (103, 59), (108, 64), (111, 88), (120, 69)], 59) := by decide +kernel
theorem dX8_takesItem_132 : decode cX8_takesItem 132 = .ok (.aload_n 0, 1) := by decide +kernel
theorem dX8_takesItem_133 : decode cX8_takesItem 133 = .ok (.invokevirtual 103, 3) := by decide +kernel
theorem dX8_takesItem_136 : decode cX8_takesItem 136 = .ok (.ireturn, 1) := by decide +kernel
theorem dX8_takesItem_137 : decode cX8_takesItem 137 = .ok (.aload_n 0, 1) := by decide +kernel
theorem dX8_takesItem_138 : decode cX8_takesItem 138 = .ok (.invokevirtual 107, 3) := by decide +kernel
theorem dX8_takesItem_141 : decode cX8_takesItem 141 = .ok (.ireturn, 1) := by decide +kernel
theorem dX8_takesItem_142 : decode cX8_takesItem 142 = .ok (.aload_n 0, 1) := by decide +kernel
theorem dX8_takesItem_143 : decode cX8_takesItem 143 = .ok (.invokevirtual 110, 3) := by decide +kernel
theorem dX8_takesItem_146 : decode cX8_takesItem 146 = .ok (.ireturn, 1) := by decide +kernel
theorem dX8_takesItem_147 : decode cX8_takesItem 147 = .ok (.aload_n 0, 1) := by decide +kernel
theorem dX8_takesItem_148 : decode cX8_takesItem 148 = .ok (.invokevirtual 113, 3) := by decide +kernel
theorem dX8_takesItem_151 : decode cX8_takesItem 151 = .ok (.ireturn, 1) := by decide +kernel
theorem dX8_takesItem_152 : decode cX8_takesItem 152 = .ok (.aload_n 0, 1) := by decide +kernel
theorem dX8_takesItem_153 : decode cX8_takesItem 153 = .ok (.bipush 64, 2) := by decide +kernel
theorem dX8_takesItem_155 : decode cX8_takesItem 155 = .ok (.bipush 9, 2) := by decide +kernel
theorem dX8_takesItem_157 : decode cX8_takesItem 157 = .ok (.invokevirtual 100, 3) := by decide +kernel
theorem dX8_takesItem_160 : decode cX8_takesItem 160 = .ok (.ireturn, 1) := by decide +kernel
theorem dX8_takesItem_161 : decode cX8_takesItem 161 = .ok (.aload_n 0, 1) := by decide +kernel
theorem dX8_takesItem_162 : decode cX8_takesItem 162 = .ok (.bipush 65, 2) := by decide +kernel
theorem dX8_takesItem_164 : decode cX8_takesItem 164 = .ok (.iconst 1, 1) := by decide +kernel
theorem dX8_takesItem_165 : decode cX8_takesItem 165 = .ok (.invokevirtual 100, 3) := by decide +kernel
theorem dX8_takesItem_168 : decode cX8_takesItem 168 = .ok (.ireturn, 1) := by decide +kernel
theorem dX8_takesItem_169 : decode cX8_takesItem 169 = .ok (.iconst 0, 1) := by decide +kernel
theorem dX8_takesItem_170 : decode cX8_takesItem 170 = .ok (.ireturn, 1) := by decide +kernel
theorem dX8_reads_0 : decode cX8_reads 0 = .ok (.aload_n 0, 1) := by decide +kernel
theorem dX8_reads_1 : decode cX8_reads 1 = .ok (.invokevirtual 56, 3) := by decide +kernel
theorem dX8_reads_4 : decode cX8_reads 4 = .ok (.aload_n 0, 1) := by decide +kernel
theorem dX8_reads_5 : decode cX8_reads 5 = .ok (.iconst 0, 1) := by decide +kernel
theorem dX8_reads_6 : decode cX8_reads 6 = .ok (.putfield 74, 3) := by decide +kernel
theorem dX8_reads_9 : decode cX8_reads 9 = .ok (.aload_n 0, 1) := by decide +kernel
theorem dX8_reads_10 : decode cX8_reads 10 = .ok (.getfield 74, 3) := by decide +kernel
theorem dX8_reads_13 : decode cX8_reads 13 = .ok (.aload_n 0, 1) := by decide +kernel
theorem dX8_reads_14 : decode cX8_reads 14 = .ok (.getfield 77, 3) := by decide +kernel
theorem dX8_reads_17 : decode cX8_reads 17 = .ok (.if_icmp .ge 20, 3) := by decide +kernel
theorem dX8_reads_20 : decode cX8_reads 20 = .ok (.aload_n 0, 1) := by decide +kernel
theorem dX8_reads_21 : decode cX8_reads 21 = .ok (.getfield 74, 3) := by decide +kernel
theorem dX8_reads_24 : decode cX8_reads 24 = .ok (.istore_n 1, 1) := by decide +kernel
theorem dX8_reads_25 : decode cX8_reads 25 = .ok (.aload_n 0, 1) := by decide +kernel
theorem dX8_reads_26 : decode cX8_reads 26 = .ok (.invokevirtual 116, 3) := by decide +kernel
theorem dX8_reads_29 : decode cX8_reads 29 = .ok (.ifCond .ne 5, 3) := by decide +kernel
theorem dX8_reads_32 : decode cX8_reads 32 = .ok (.iload_n 1, 1) := by decide +kernel
theorem dX8_reads_33 : decode cX8_reads 33 = .ok (.ireturn, 1) := by decide +kernel
theorem dX8_reads_34 : decode cX8_reads 34 = .ok (.goto (-25), 3) := by decide +kernel
theorem dX8_reads_37 : decode cX8_reads 37 = .ok (.bipush (-4), 2) := by decide +kernel
theorem dX8_reads_39 : decode cX8_reads 39 = .ok (.ireturn, 1) := by decide +kernel
theorem dX8_write_0 : decode cX8_write 0 = .ok (.iload_n 1, 1) := by decide +kernel
theorem dX8_write_1 : decode cX8_write 1 = .ok (.i2l, 1) := by decide +kernel
theorem dX8_write_2 : decode cX8_write 2 = .ok (.ldc2_w 119, 3) := by decide +kernel
theorem dX8_write_5 : decode cX8_write 5 = .ok (.ldc2_w 121, 3) := by decide +kernel
theorem dX8_write_8 : decode cX8_write 8 = .ok (.invokestatic 80, 3) := by decide +kernel
theorem dX8_write_11 : decode cX8_write 11 = .ok (.ifCond .ne 5, 3) := by decide +kernel
theorem dX8_write_14 : decode cX8_write 14 = .ok (.iconst (-1), 1) := by decide +kernel
theorem dX8_write_15 : decode cX8_write 15 = .ok (.ireturn, 1) := by decide +kernel
theorem dX8_write_16 : decode cX8_write 16 = .ok (.aload_n 0, 1) := by decide +kernel
theorem dX8_write_17 : decode cX8_write 17 = .ok (.getfield 77, 3) := by decide +kernel
theorem dX8_write_20 : decode cX8_write 20 = .ok (.sipush 200, 3) := by decide +kernel
theorem dX8_write_23 : decode cX8_write 23 = .ok (.if_icmp .ne 6, 3) := by decide +kernel
theorem dX8_write_26 : decode cX8_write 26 = .ok (.bipush (-3), 2) := by decide +kernel
theorem dX8_write_28 : decode cX8_write 28 = .ok (.ireturn, 1) := by decide +kernel
theorem dX8_write_29 : decode cX8_write 29 = .ok (.aload_n 0, 1) := by decide +kernel
theorem dX8_write_30 : decode cX8_write 30 = .ok (.getfield 19, 3) := by decide +kernel
theorem dX8_write_33 : decode cX8_write 33 = .ok (.aload_n 0, 1) := by decide +kernel
theorem dX8_write_34 : decode cX8_write 34 = .ok (.getfield 77, 3) := by decide +kernel
theorem dX8_write_37 : decode cX8_write 37 = .ok (.iload_n 1, 1) := by decide +kernel
theorem dX8_write_38 : decode cX8_write 38 = .ok (.iastore, 1) := by decide +kernel
theorem dX8_write_39 : decode cX8_write 39 = .ok (.aload_n 0, 1) := by decide +kernel
theorem dX8_write_40 : decode cX8_write 40 = .ok (.dup, 1) := by decide +kernel
theorem dX8_write_41 : decode cX8_write 41 = .ok (.getfield 77, 3) := by decide +kernel
theorem dX8_write_44 : decode cX8_write 44 = .ok (.iconst 1, 1) := by decide +kernel
theorem dX8_write_45 : decode cX8_write 45 = .ok (.iadd, 1) := by decide +kernel
theorem dX8_write_46 : decode cX8_write 46 = .ok (.putfield 77, 3) := by decide +kernel
theorem dX8_write_49 : decode cX8_write 49 = .ok (.aload_n 0, 1) := by decide +kernel
theorem dX8_write_50 : decode cX8_write 50 = .ok (.getfield 77, 3) := by decide +kernel
theorem dX8_write_53 : decode cX8_write 53 = .ok (.ireturn, 1) := by decide +kernel
theorem dX8_wipe_0 : decode cX8_wipe 0 = .ok (.aload_n 0, 1) := by decide +kernel
theorem dX8_wipe_1 : decode cX8_wipe 1 = .ok (.getfield 77, 3) := by decide +kernel
theorem dX8_wipe_4 : decode cX8_wipe 4 = .ok (.istore_n 1, 1) := by decide +kernel
theorem dX8_wipe_5 : decode cX8_wipe 5 = .ok (.aload_n 0, 1) := by decide +kernel
theorem dX8_wipe_6 : decode cX8_wipe 6 = .ok (.iconst 0, 1) := by decide +kernel
theorem dX8_wipe_7 : decode cX8_wipe 7 = .ok (.putfield 77, 3) := by decide +kernel
theorem dX8_wipe_10 : decode cX8_wipe 10 = .ok (.iload_n 1, 1) := by decide +kernel
theorem dX8_wipe_11 : decode cX8_wipe 11 = .ok (.ireturn, 1) := by decide +kernel
theorem dX8_fault_0 : decode cX8_fault 0 = .ok (.aload_n 0, 1) := by decide +kernel
theorem dX8_fault_1 : decode cX8_fault 1 = .ok (.invokevirtual 123, 3) := by decide +kernel
theorem dX8_fault_4 : decode cX8_fault 4 = .ok (.ireturn, 1) := by decide +kernel
theorem dX8_lay_0 : decode cX8_lay 0 = .ok (.aload_n 0, 1) := by decide +kernel
theorem dX8_lay_1 : decode cX8_lay 1 = .ok (.invokevirtual 123, 3) := by decide +kernel
theorem dX8_lay_4 : decode cX8_lay 4 = .ok (.bipush (-4), 2) := by decide +kernel
theorem dX8_lay_6 : decode cX8_lay 6 = .ok (.if_icmp .ne 12, 3) := by decide +kernel
theorem dX8_lay_9 : decode cX8_lay 9 = .ok (.aload_n 0, 1) := by decide +kernel
theorem dX8_lay_10 : decode cX8_lay 10 = .ok (.getfield 22, 3) := by decide +kernel
theorem dX8_lay_13 : decode cX8_lay 13 = .ok (.iconst 1, 1) := by decide +kernel
theorem dX8_lay_14 : decode cX8_lay 14 = .ok (.iaload, 1) := by decide +kernel
theorem dX8_lay_15 : decode cX8_lay 15 = .ok (.ifCond .ne 6, 3) := by decide +kernel
theorem dX8_lay_18 : decode cX8_lay 18 = .ok (.bipush (-2), 2) := by decide +kernel
theorem dX8_lay_20 : decode cX8_lay 20 = .ok (.ireturn, 1) := by decide +kernel
theorem dX8_lay_21 : decode cX8_lay 21 = .ok (.aload_n 0, 1) := by decide +kernel
theorem dX8_lay_22 : decode cX8_lay 22 = .ok (.invokevirtual 67, 3) := by decide +kernel
theorem dX8_lay_25 : decode cX8_lay 25 = .ok (.aload_n 0, 1) := by decide +kernel
theorem dX8_lay_26 : decode cX8_lay 26 = .ok (.getfield 7, 3) := by decide +kernel
theorem dX8_lay_29 : decode cX8_lay 29 = .ok (.iconst 0, 1) := by decide +kernel
theorem dX8_lay_30 : decode cX8_lay 30 = .ok (.iaload, 1) := by decide +kernel
theorem dX8_lay_31 : decode cX8_lay 31 = .ok (.ireturn, 1) := by decide +kernel
theorem dX8_keeps_0 : decode cX8_keeps 0 = .ok (.aload_n 0, 1) := by decide +kernel
theorem dX8_keeps_1 : decode cX8_keeps 1 = .ok (.getfield 70, 3) := by decide +kernel
theorem dX8_keeps_4 : decode cX8_keeps 4 = .ok (.iconst 4, 1) := by decide +kernel
theorem dX8_keeps_5 : decode cX8_keeps 5 = .ok (.if_icmp .ne 44, 3) := by decide +kernel
theorem dX8_keeps_8 : decode cX8_keeps 8 = .ok (.iconst 0, 1) := by decide +kernel
theorem dX8_keeps_9 : decode cX8_keeps 9 = .ok (.istore_n 1, 1) := by decide +kernel
theorem dX8_keeps_10 : decode cX8_keeps 10 = .ok (.iload_n 1, 1) := by decide +kernel
theorem dX8_keeps_11 : decode cX8_keeps 11 = .ok (.sipush 2445, 3) := by decide +kernel
theorem dX8_keeps_14 : decode cX8_keeps 14 = .ok (.if_icmp .ge 25, 3) := by decide +kernel
theorem dX8_keeps_17 : decode cX8_keeps 17 = .ok (.aload_n 0, 1) := by decide +kernel
theorem dX8_keeps_18 : decode cX8_keeps 18 = .ok (.getfield 16, 3) := by decide +kernel
theorem dX8_keeps_21 : decode cX8_keeps 21 = .ok (.iload_n 1, 1) := by decide +kernel
theorem dX8_keeps_22 : decode cX8_keeps 22 = .ok (.aload_n 0, 1) := by decide +kernel
theorem dX8_keeps_23 : decode cX8_keeps 23 = .ok (.getfield 16, 3) := by decide +kernel
theorem dX8_keeps_26 : decode cX8_keeps 26 = .ok (.iload_n 1, 1) := by decide +kernel
theorem dX8_keeps_27 : decode cX8_keeps 27 = .ok (.sipush 815, 3) := by decide +kernel
theorem dX8_keeps_30 : decode cX8_keeps 30 = .ok (.iadd, 1) := by decide +kernel
theorem dX8_keeps_31 : decode cX8_keeps 31 = .ok (.iaload, 1) := by decide +kernel
theorem dX8_keeps_32 : decode cX8_keeps 32 = .ok (.iastore, 1) := by decide +kernel
theorem dX8_keeps_33 : decode cX8_keeps 33 = .ok (.iinc 1 1, 3) := by decide +kernel
theorem dX8_keeps_36 : decode cX8_keeps 36 = .ok (.goto (-26), 3) := by decide +kernel
theorem dX8_keeps_39 : decode cX8_keeps 39 = .ok (.aload_n 0, 1) := by decide +kernel
theorem dX8_keeps_40 : decode cX8_keeps 40 = .ok (.dup, 1) := by decide +kernel
theorem dX8_keeps_41 : decode cX8_keeps 41 = .ok (.getfield 70, 3) := by decide +kernel
theorem dX8_keeps_44 : decode cX8_keeps 44 = .ok (.iconst 1, 1) := by decide +kernel
theorem dX8_keeps_45 : decode cX8_keeps 45 = .ok (.isub, 1) := by decide +kernel
theorem dX8_keeps_46 : decode cX8_keeps 46 = .ok (.putfield 70, 3) := by decide +kernel
theorem dX8_keeps_49 : decode cX8_keeps 49 = .ok (.iconst 0, 1) := by decide +kernel
theorem dX8_keeps_50 : decode cX8_keeps 50 = .ok (.istore_n 1, 1) := by decide +kernel
theorem dX8_keeps_51 : decode cX8_keeps 51 = .ok (.iload_n 1, 1) := by decide +kernel
theorem dX8_keeps_52 : decode cX8_keeps 52 = .ok (.sipush 815, 3) := by decide +kernel
theorem dX8_keeps_55 : decode cX8_keeps 55 = .ok (.if_icmp .ge 30, 3) := by decide +kernel
theorem dX8_keeps_58 : decode cX8_keeps 58 = .ok (.aload_n 0, 1) := by decide +kernel
theorem dX8_keeps_59 : decode cX8_keeps 59 = .ok (.getfield 16, 3) := by decide +kernel
theorem dX8_keeps_62 : decode cX8_keeps 62 = .ok (.sipush 815, 3) := by decide +kernel
theorem dX8_keeps_65 : decode cX8_keeps 65 = .ok (.aload_n 0, 1) := by decide +kernel
theorem dX8_keeps_66 : decode cX8_keeps 66 = .ok (.getfield 70, 3) := by decide +kernel
theorem dX8_keeps_69 : decode cX8_keeps 69 = .ok (.imul, 1) := by decide +kernel
theorem dX8_keeps_70 : decode cX8_keeps 70 = .ok (.iload_n 1, 1) := by decide +kernel
theorem dX8_keeps_71 : decode cX8_keeps 71 = .ok (.iadd, 1) := by decide +kernel
theorem dX8_keeps_72 : decode cX8_keeps 72 = .ok (.aload_n 0, 1) := by decide +kernel
theorem dX8_keeps_73 : decode cX8_keeps 73 = .ok (.getfield 7, 3) := by decide +kernel
theorem dX8_keeps_76 : decode cX8_keeps 76 = .ok (.iload_n 1, 1) := by decide +kernel
theorem dX8_keeps_77 : decode cX8_keeps 77 = .ok (.iaload, 1) := by decide +kernel
theorem dX8_keeps_78 : decode cX8_keeps 78 = .ok (.iastore, 1) := by decide +kernel
theorem dX8_keeps_79 : decode cX8_keeps 79 = .ok (.iinc 1 1, 3) := by decide +kernel
theorem dX8_keeps_82 : decode cX8_keeps 82 = .ok (.goto (-31), 3) := by decide +kernel
theorem dX8_keeps_85 : decode cX8_keeps 85 = .ok (.aload_n 0, 1) := by decide +kernel
theorem dX8_keeps_86 : decode cX8_keeps 86 = .ok (.dup, 1) := by decide +kernel
theorem dX8_keeps_87 : decode cX8_keeps 87 = .ok (.getfield 70, 3) := by decide +kernel
theorem dX8_keeps_90 : decode cX8_keeps 90 = .ok (.iconst 1, 1) := by decide +kernel
theorem dX8_keeps_91 : decode cX8_keeps 91 = .ok (.iadd, 1) := by decide +kernel
theorem dX8_keeps_92 : decode cX8_keeps 92 = .ok (.putfield 70, 3) := by decide +kernel
theorem dX8_keeps_95 : decode cX8_keeps 95 = .ok (.return_, 1) := by decide +kernel
theorem dX8_undo_0 : decode cX8_undo 0 = .ok (.aload_n 0, 1) := by decide +kernel
theorem dX8_undo_1 : decode cX8_undo 1 = .ok (.getfield 70, 3) := by decide +kernel
theorem dX8_undo_4 : decode cX8_undo 4 = .ok (.ifCond .ne 6, 3) := by decide +kernel
theorem dX8_undo_7 : decode cX8_undo 7 = .ok (.bipush (-2), 2) := by decide +kernel
theorem dX8_undo_9 : decode cX8_undo 9 = .ok (.ireturn, 1) := by decide +kernel
theorem dX8_undo_10 : decode cX8_undo 10 = .ok (.aload_n 0, 1) := by decide +kernel
theorem dX8_undo_11 : decode cX8_undo 11 = .ok (.dup, 1) := by decide +kernel
theorem dX8_undo_12 : decode cX8_undo 12 = .ok (.getfield 70, 3) := by decide +kernel
theorem dX8_undo_15 : decode cX8_undo 15 = .ok (.iconst 1, 1) := by decide +kernel
theorem dX8_undo_16 : decode cX8_undo 16 = .ok (.isub, 1) := by decide +kernel
theorem dX8_undo_17 : decode cX8_undo 17 = .ok (.putfield 70, 3) := by decide +kernel
theorem dX8_undo_20 : decode cX8_undo 20 = .ok (.iconst 0, 1) := by decide +kernel
theorem dX8_undo_21 : decode cX8_undo 21 = .ok (.istore_n 1, 1) := by decide +kernel
theorem dX8_undo_22 : decode cX8_undo 22 = .ok (.iload_n 1, 1) := by decide +kernel
theorem dX8_undo_23 : decode cX8_undo 23 = .ok (.sipush 815, 3) := by decide +kernel
theorem dX8_undo_26 : decode cX8_undo 26 = .ok (.if_icmp .ge 30, 3) := by decide +kernel
theorem dX8_undo_29 : decode cX8_undo 29 = .ok (.aload_n 0, 1) := by decide +kernel
theorem dX8_undo_30 : decode cX8_undo 30 = .ok (.getfield 7, 3) := by decide +kernel
theorem dX8_undo_33 : decode cX8_undo 33 = .ok (.iload_n 1, 1) := by decide +kernel
theorem dX8_undo_34 : decode cX8_undo 34 = .ok (.aload_n 0, 1) := by decide +kernel
theorem dX8_undo_35 : decode cX8_undo 35 = .ok (.getfield 16, 3) := by decide +kernel
theorem dX8_undo_38 : decode cX8_undo 38 = .ok (.sipush 815, 3) := by decide +kernel
theorem dX8_undo_41 : decode cX8_undo 41 = .ok (.aload_n 0, 1) := by decide +kernel
theorem dX8_undo_42 : decode cX8_undo 42 = .ok (.getfield 70, 3) := by decide +kernel
theorem dX8_undo_45 : decode cX8_undo 45 = .ok (.imul, 1) := by decide +kernel
theorem dX8_undo_46 : decode cX8_undo 46 = .ok (.iload_n 1, 1) := by decide +kernel
theorem dX8_undo_47 : decode cX8_undo 47 = .ok (.iadd, 1) := by decide +kernel
theorem dX8_undo_48 : decode cX8_undo 48 = .ok (.iaload, 1) := by decide +kernel
theorem dX8_undo_49 : decode cX8_undo 49 = .ok (.iastore, 1) := by decide +kernel
theorem dX8_undo_50 : decode cX8_undo 50 = .ok (.iinc 1 1, 3) := by decide +kernel
theorem dX8_undo_53 : decode cX8_undo 53 = .ok (.goto (-31), 3) := by decide +kernel
theorem dX8_undo_56 : decode cX8_undo 56 = .ok (.aload_n 0, 1) := by decide +kernel
theorem dX8_undo_57 : decode cX8_undo 57 = .ok (.getfield 70, 3) := by decide +kernel
theorem dX8_undo_60 : decode cX8_undo 60 = .ok (.ireturn, 1) := by decide +kernel
theorem dX8_isNode_0 : decode cX8_isNode 0 = .ok (.iload_n 1, 1) := by decide +kernel
theorem dX8_isNode_1 : decode cX8_isNode 1 = .ok (.i2l, 1) := by decide +kernel
theorem dX8_isNode_2 : decode cX8_isNode 2 = .ok (.lconst 0, 1) := by decide +kernel
theorem dX8_isNode_3 : decode cX8_isNode 3 = .ok (.aload_n 0, 1) := by decide +kernel
theorem dX8_isNode_4 : decode cX8_isNode 4 = .ok (.getfield 7, 3) := by decide +kernel
theorem dX8_isNode_7 : decode cX8_isNode 7 = .ok (.iconst 0, 1) := by decide +kernel
theorem dX8_isNode_8 : decode cX8_isNode 8 = .ok (.iaload, 1) := by decide +kernel
theorem dX8_isNode_9 : decode cX8_isNode 9 = .ok (.iconst 1, 1) := by decide +kernel
theorem dX8_isNode_10 : decode cX8_isNode 10 = .ok (.isub, 1) := by decide +kernel
theorem dX8_isNode_11 : decode cX8_isNode 11 = .ok (.i2l, 1) := by decide +kernel
theorem dX8_isNode_12 : decode cX8_isNode 12 = .ok (.invokestatic 80, 3) := by decide +kernel
theorem dX8_isNode_15 : decode cX8_isNode 15 = .ok (.ireturn, 1) := by decide +kernel
theorem dX8_isGoal_0 : decode cX8_isGoal 0 = .ok (.iload_n 1, 1) := by decide +kernel
theorem dX8_isGoal_1 : decode cX8_isGoal 1 = .ok (.i2l, 1) := by decide +kernel
theorem dX8_isGoal_2 : decode cX8_isGoal 2 = .ok (.lconst 0, 1) := by decide +kernel
theorem dX8_isGoal_3 : decode cX8_isGoal 3 = .ok (.aload_n 0, 1) := by decide +kernel
theorem dX8_isGoal_4 : decode cX8_isGoal 4 = .ok (.getfield 7, 3) := by decide +kernel
theorem dX8_isGoal_7 : decode cX8_isGoal 7 = .ok (.iconst 1, 1) := by decide +kernel
theorem dX8_isGoal_8 : decode cX8_isGoal 8 = .ok (.iaload, 1) := by decide +kernel
theorem dX8_isGoal_9 : decode cX8_isGoal 9 = .ok (.iconst 1, 1) := by decide +kernel
theorem dX8_isGoal_10 : decode cX8_isGoal 10 = .ok (.isub, 1) := by decide +kernel
theorem dX8_isGoal_11 : decode cX8_isGoal 11 = .ok (.i2l, 1) := by decide +kernel
theorem dX8_isGoal_12 : decode cX8_isGoal 12 = .ok (.invokestatic 80, 3) := by decide +kernel
theorem dX8_isGoal_15 : decode cX8_isGoal 15 = .ok (.ireturn, 1) := by decide +kernel
theorem dX8_isLink_0 : decode cX8_isLink 0 = .ok (.iload_n 1, 1) := by decide +kernel
theorem dX8_isLink_1 : decode cX8_isLink 1 = .ok (.i2l, 1) := by decide +kernel
theorem dX8_isLink_2 : decode cX8_isLink 2 = .ok (.lconst 0, 1) := by decide +kernel
theorem dX8_isLink_3 : decode cX8_isLink 3 = .ok (.aload_n 0, 1) := by decide +kernel
theorem dX8_isLink_4 : decode cX8_isLink 4 = .ok (.getfield 7, 3) := by decide +kernel
theorem dX8_isLink_7 : decode cX8_isLink 7 = .ok (.iconst 5, 1) := by decide +kernel
theorem dX8_isLink_8 : decode cX8_isLink 8 = .ok (.iaload, 1) := by decide +kernel
theorem dX8_isLink_9 : decode cX8_isLink 9 = .ok (.iconst 1, 1) := by decide +kernel
theorem dX8_isLink_10 : decode cX8_isLink 10 = .ok (.isub, 1) := by decide +kernel
theorem dX8_isLink_11 : decode cX8_isLink 11 = .ok (.i2l, 1) := by decide +kernel
theorem dX8_isLink_12 : decode cX8_isLink 12 = .ok (.invokestatic 80, 3) := by decide +kernel
theorem dX8_isLink_15 : decode cX8_isLink 15 = .ok (.ireturn, 1) := by decide +kernel
theorem dX8_isQueue_0 : decode cX8_isQueue 0 = .ok (.aload_n 0, 1) := by decide +kernel
theorem dX8_isQueue_1 : decode cX8_isQueue 1 = .ok (.iload_n 1, 1) := by decide +kernel
theorem dX8_isQueue_2 : decode cX8_isQueue 2 = .ok (.invokevirtual 127, 3) := by decide +kernel
theorem dX8_isQueue_5 : decode cX8_isQueue 5 = .ok (.ifCond .eq 27, 3) := by decide +kernel
theorem dX8_isQueue_8 : decode cX8_isQueue 8 = .ok (.aload_n 0, 1) := by decide +kernel
theorem dX8_isQueue_9 : decode cX8_isQueue 9 = .ok (.iload_n 2, 1) := by decide +kernel
theorem dX8_isQueue_10 : decode cX8_isQueue 10 = .ok (.invokevirtual 130, 3) := by decide +kernel
theorem dX8_isQueue_13 : decode cX8_isQueue 13 = .ok (.ifCond .eq 19, 3) := by decide +kernel
theorem dX8_isQueue_16 : decode cX8_isQueue 16 = .ok (.aload_n 0, 1) := by decide +kernel
theorem dX8_isQueue_17 : decode cX8_isQueue 17 = .ok (.getfield 7, 3) := by decide +kernel
theorem dX8_isQueue_20 : decode cX8_isQueue 20 = .ok (.iconst 2, 1) := by decide +kernel
theorem dX8_isQueue_21 : decode cX8_isQueue 21 = .ok (.iload_n 2, 1) := by decide +kernel
theorem dX8_isQueue_22 : decode cX8_isQueue 22 = .ok (.iadd, 1) := by decide +kernel
theorem dX8_isQueue_23 : decode cX8_isQueue 23 = .ok (.iaload, 1) := by decide +kernel
theorem dX8_isQueue_24 : decode cX8_isQueue 24 = .ok (.iload_n 1, 1) := by decide +kernel
theorem dX8_isQueue_25 : decode cX8_isQueue 25 = .ok (.if_icmp .eq 7, 3) := by decide +kernel
theorem dX8_isQueue_28 : decode cX8_isQueue 28 = .ok (.iconst 1, 1) := by decide +kernel
theorem dX8_isQueue_29 : decode cX8_isQueue 29 = .ok (.goto 4, 3) := by decide +kernel
theorem dX8_isQueue_32 : decode cX8_isQueue 32 = .ok (.iconst 0, 1) := by decide +kernel
theorem dX8_isQueue_33 : decode cX8_isQueue 33 = .ok (.ireturn, 1) := by decide +kernel
theorem dX8_becomes_0 : decode cX8_becomes 0 = .ok (.aload_n 0, 1) := by decide +kernel
theorem dX8_becomes_1 : decode cX8_becomes 1 = .ok (.getfield 7, 3) := by decide +kernel
theorem dX8_becomes_4 : decode cX8_becomes 4 = .ok (.iload_n 1, 1) := by decide +kernel
theorem dX8_becomes_5 : decode cX8_becomes 5 = .ok (.iaload, 1) := by decide +kernel
theorem dX8_becomes_6 : decode cX8_becomes 6 = .ok (.istore_n 3, 1) := by decide +kernel
theorem dX8_becomes_7 : decode cX8_becomes 7 = .ok (.iload_n 3, 1) := by decide +kernel
theorem dX8_becomes_8 : decode cX8_becomes 8 = .ok (.iload_n 2, 1) := by decide +kernel
theorem dX8_becomes_9 : decode cX8_becomes 9 = .ok (.if_icmp .ne 6, 3) := by decide +kernel
theorem dX8_becomes_12 : decode cX8_becomes 12 = .ok (.bipush (-2), 2) := by decide +kernel
theorem dX8_becomes_14 : decode cX8_becomes 14 = .ok (.ireturn, 1) := by decide +kernel
theorem dX8_becomes_15 : decode cX8_becomes 15 = .ok (.aload_n 0, 1) := by decide +kernel
theorem dX8_becomes_16 : decode cX8_becomes 16 = .ok (.invokevirtual 133, 3) := by decide +kernel
theorem dX8_becomes_19 : decode cX8_becomes 19 = .ok (.aload_n 0, 1) := by decide +kernel
theorem dX8_becomes_20 : decode cX8_becomes 20 = .ok (.getfield 7, 3) := by decide +kernel
theorem dX8_becomes_23 : decode cX8_becomes 23 = .ok (.iload_n 1, 1) := by decide +kernel
theorem dX8_becomes_24 : decode cX8_becomes 24 = .ok (.iload_n 2, 1) := by decide +kernel
theorem dX8_becomes_25 : decode cX8_becomes 25 = .ok (.iastore, 1) := by decide +kernel
theorem dX8_becomes_26 : decode cX8_becomes 26 = .ok (.iload_n 3, 1) := by decide +kernel
theorem dX8_becomes_27 : decode cX8_becomes 27 = .ok (.ireturn, 1) := by decide +kernel
theorem dX8_feed_0 : decode cX8_feed 0 = .ok (.aload_n 0, 1) := by decide +kernel
theorem dX8_feed_1 : decode cX8_feed 1 = .ok (.iload_n 1, 1) := by decide +kernel
theorem dX8_feed_2 : decode cX8_feed 2 = .ok (.iload_n 2, 1) := by decide +kernel
theorem dX8_feed_3 : decode cX8_feed 3 = .ok (.invokevirtual 136, 3) := by decide +kernel
theorem dX8_feed_6 : decode cX8_feed 6 = .ok (.ifCond .eq 31, 3) := by decide +kernel
theorem dX8_feed_9 : decode cX8_feed 9 = .ok (.iload_n 3, 1) := by decide +kernel
theorem dX8_feed_10 : decode cX8_feed 10 = .ok (.i2l, 1) := by decide +kernel
theorem dX8_feed_11 : decode cX8_feed 11 = .ok (.lconst 0, 1) := by decide +kernel
theorem dX8_feed_12 : decode cX8_feed 12 = .ok (.ldc2_w 98, 3) := by decide +kernel
theorem dX8_feed_15 : decode cX8_feed 15 = .ok (.invokestatic 80, 3) := by decide +kernel
theorem dX8_feed_18 : decode cX8_feed 18 = .ok (.ifCond .eq 19, 3) := by decide +kernel
theorem dX8_feed_21 : decode cX8_feed 21 = .ok (.aload_n 0, 1) := by decide +kernel
theorem dX8_feed_22 : decode cX8_feed 22 = .ok (.bipush 46, 2) := by decide +kernel
theorem dX8_feed_24 : decode cX8_feed 24 = .ok (.iconst 3, 1) := by decide +kernel
theorem dX8_feed_25 : decode cX8_feed 25 = .ok (.iload_n 1, 1) := by decide +kernel
theorem dX8_feed_26 : decode cX8_feed 26 = .ok (.imul, 1) := by decide +kernel
theorem dX8_feed_27 : decode cX8_feed 27 = .ok (.iadd, 1) := by decide +kernel
theorem dX8_feed_28 : decode cX8_feed 28 = .ok (.iload_n 2, 1) := by decide +kernel
theorem dX8_feed_29 : decode cX8_feed 29 = .ok (.iadd, 1) := by decide +kernel
theorem dX8_feed_30 : decode cX8_feed 30 = .ok (.iload_n 3, 1) := by decide +kernel
theorem dX8_feed_31 : decode cX8_feed 31 = .ok (.invokevirtual 139, 3) := by decide +kernel
theorem dX8_feed_34 : decode cX8_feed 34 = .ok (.goto 4, 3) := by decide +kernel
theorem dX8_feed_37 : decode cX8_feed 37 = .ok (.iconst (-1), 1) := by decide +kernel
theorem dX8_feed_38 : decode cX8_feed 38 = .ok (.ireturn, 1) := by decide +kernel
theorem dX8_room_0 : decode cX8_room 0 = .ok (.aload_n 0, 1) := by decide +kernel
theorem dX8_room_1 : decode cX8_room 1 = .ok (.iload_n 1, 1) := by decide +kernel
theorem dX8_room_2 : decode cX8_room 2 = .ok (.invokevirtual 143, 3) := by decide +kernel
theorem dX8_room_5 : decode cX8_room 5 = .ok (.ifCond .eq 31, 3) := by decide +kernel
theorem dX8_room_8 : decode cX8_room 8 = .ok (.iload_n 2, 1) := by decide +kernel
theorem dX8_room_9 : decode cX8_room 9 = .ok (.i2l, 1) := by decide +kernel
theorem dX8_room_10 : decode cX8_room 10 = .ok (.lconst 1, 1) := by decide +kernel
theorem dX8_room_11 : decode cX8_room 11 = .ok (.ldc2_w 98, 3) := by decide +kernel
theorem dX8_room_14 : decode cX8_room 14 = .ok (.invokestatic 80, 3) := by decide +kernel
theorem dX8_room_17 : decode cX8_room 17 = .ok (.ifCond .eq 19, 3) := by decide +kernel
theorem dX8_room_20 : decode cX8_room 20 = .ok (.aload_n 0, 1) := by decide +kernel
theorem dX8_room_21 : decode cX8_room 21 = .ok (.bipush 6, 2) := by decide +kernel
theorem dX8_room_23 : decode cX8_room 23 = .ok (.iconst 3, 1) := by decide +kernel
theorem dX8_room_24 : decode cX8_room 24 = .ok (.iload_n 1, 1) := by decide +kernel
theorem dX8_room_25 : decode cX8_room 25 = .ok (.imul, 1) := by decide +kernel
theorem dX8_room_26 : decode cX8_room 26 = .ok (.iadd, 1) := by decide +kernel
theorem dX8_room_27 : decode cX8_room 27 = .ok (.iconst 2, 1) := by decide +kernel
theorem dX8_room_28 : decode cX8_room 28 = .ok (.iadd, 1) := by decide +kernel
theorem dX8_room_29 : decode cX8_room 29 = .ok (.iload_n 2, 1) := by decide +kernel
theorem dX8_room_30 : decode cX8_room 30 = .ok (.invokevirtual 139, 3) := by decide +kernel
theorem dX8_room_33 : decode cX8_room 33 = .ok (.goto 4, 3) := by decide +kernel
theorem dX8_room_36 : decode cX8_room 36 = .ok (.iconst (-1), 1) := by decide +kernel
theorem dX8_room_37 : decode cX8_room 37 = .ok (.ireturn, 1) := by decide +kernel
theorem dX8_tell_0 : decode cX8_tell 0 = .ok (.iload_n 1, 1) := by decide +kernel
theorem dX8_tell_1 : decode cX8_tell 1 = .ok (.i2l, 1) := by decide +kernel
theorem dX8_tell_2 : decode cX8_tell 2 = .ok (.lconst 0, 1) := by decide +kernel
theorem dX8_tell_3 : decode cX8_tell 3 = .ok (.lconst 1, 1) := by decide +kernel
theorem dX8_tell_4 : decode cX8_tell 4 = .ok (.invokestatic 80, 3) := by decide +kernel
theorem dX8_tell_7 : decode cX8_tell 7 = .ok (.ifCond .eq 42, 3) := by decide +kernel
theorem dX8_tell_10 : decode cX8_tell 10 = .ok (.iload_n 2, 1) := by decide +kernel
theorem dX8_tell_11 : decode cX8_tell 11 = .ok (.i2l, 1) := by decide +kernel
theorem dX8_tell_12 : decode cX8_tell 12 = .ok (.lconst 0, 1) := by decide +kernel
theorem dX8_tell_13 : decode cX8_tell 13 = .ok (.iload_n 1, 1) := by decide +kernel
theorem dX8_tell_14 : decode cX8_tell 14 = .ok (.ifCond .ne 7, 3) := by decide +kernel
theorem dX8_tell_17 : decode cX8_tell 17 = .ok (.lconst 1, 1) := by decide +kernel
theorem dX8_tell_18 : decode cX8_tell 18 = .ok (.goto 6, 3) := by decide +kernel
theorem dX8_tell_21 : decode cX8_tell 21 = .ok (.ldc2_w 98, 3) := by decide +kernel
theorem dX8_tell_24 : decode cX8_tell 24 = .ok (.invokestatic 80, 3) := by decide +kernel
theorem dX8_tell_27 : decode cX8_tell 27 = .ok (.ifCond .eq 22, 3) := by decide +kernel
theorem dX8_tell_30 : decode cX8_tell 30 = .ok (.aload_n 0, 1) := by decide +kernel
theorem dX8_tell_31 : decode cX8_tell 31 = .ok (.iload_n 1, 1) := by decide +kernel
theorem dX8_tell_32 : decode cX8_tell 32 = .ok (.ifCond .ne 8, 3) := by decide +kernel
theorem dX8_tell_35 : decode cX8_tell 35 = .ok (.bipush 65, 2) := by decide +kernel
theorem dX8_tell_37 : decode cX8_tell 37 = .ok (.goto 5, 3) := by decide +kernel
theorem dX8_tell_40 : decode cX8_tell 40 = .ok (.bipush 64, 2) := by decide +kernel
theorem dX8_tell_42 : decode cX8_tell 42 = .ok (.iload_n 2, 1) := by decide +kernel
theorem dX8_tell_43 : decode cX8_tell 43 = .ok (.invokevirtual 139, 3) := by decide +kernel
theorem dX8_tell_46 : decode cX8_tell 46 = .ok (.goto 4, 3) := by decide +kernel
theorem dX8_tell_49 : decode cX8_tell 49 = .ok (.iconst (-1), 1) := by decide +kernel
theorem dX8_tell_50 : decode cX8_tell 50 = .ok (.ireturn, 1) := by decide +kernel
theorem dX8_pairs_0 : decode cX8_pairs 0 = .ok (.iconst 0, 1) := by decide +kernel
theorem dX8_pairs_1 : decode cX8_pairs 1 = .ok (.istore_n 1, 1) := by decide +kernel
theorem dX8_pairs_2 : decode cX8_pairs 2 = .ok (.iconst 0, 1) := by decide +kernel
theorem dX8_pairs_3 : decode cX8_pairs 3 = .ok (.istore_n 2, 1) := by decide +kernel
theorem dX8_pairs_4 : decode cX8_pairs 4 = .ok (.iload_n 2, 1) := by decide +kernel
theorem dX8_pairs_5 : decode cX8_pairs 5 = .ok (.aload_n 0, 1) := by decide +kernel
theorem dX8_pairs_6 : decode cX8_pairs 6 = .ok (.getfield 7, 3) := by decide +kernel
theorem dX8_pairs_9 : decode cX8_pairs 9 = .ok (.iconst 5, 1) := by decide +kernel
theorem dX8_pairs_10 : decode cX8_pairs 10 = .ok (.iaload, 1) := by decide +kernel
theorem dX8_pairs_11 : decode cX8_pairs 11 = .ok (.if_icmp .ge 24, 3) := by decide +kernel
theorem dX8_pairs_14 : decode cX8_pairs 14 = .ok (.iload_n 1, 1) := by decide +kernel
theorem dX8_pairs_15 : decode cX8_pairs 15 = .ok (.aload_n 0, 1) := by decide +kernel
theorem dX8_pairs_16 : decode cX8_pairs 16 = .ok (.getfield 7, 3) := by decide +kernel
theorem dX8_pairs_19 : decode cX8_pairs 19 = .ok (.bipush 36, 2) := by decide +kernel
theorem dX8_pairs_21 : decode cX8_pairs 21 = .ok (.iload_n 2, 1) := by decide +kernel
theorem dX8_pairs_22 : decode cX8_pairs 22 = .ok (.iadd, 1) := by decide +kernel
theorem dX8_pairs_23 : decode cX8_pairs 23 = .ok (.iaload, 1) := by decide +kernel
theorem dX8_pairs_24 : decode cX8_pairs 24 = .ok (.invokestatic 146, 3) := by decide +kernel
theorem dX8_pairs_27 : decode cX8_pairs 27 = .ok (.iadd, 1) := by decide +kernel
theorem dX8_pairs_28 : decode cX8_pairs 28 = .ok (.istore_n 1, 1) := by decide +kernel
theorem dX8_pairs_29 : decode cX8_pairs 29 = .ok (.iinc 2 1, 3) := by decide +kernel
theorem dX8_pairs_32 : decode cX8_pairs 32 = .ok (.goto (-28), 3) := by decide +kernel
theorem dX8_pairs_35 : decode cX8_pairs 35 = .ok (.iload_n 1, 1) := by decide +kernel
theorem dX8_pairs_36 : decode cX8_pairs 36 = .ok (.iconst 2, 1) := by decide +kernel
theorem dX8_pairs_37 : decode cX8_pairs 37 = .ok (.idiv, 1) := by decide +kernel
theorem dX8_pairs_38 : decode cX8_pairs 38 = .ok (.ireturn, 1) := by decide +kernel
theorem dX8_clash_0 : decode cX8_clash 0 = .ok (.aload_n 0, 1) := by decide +kernel
theorem dX8_clash_1 : decode cX8_clash 1 = .ok (.iload_n 1, 1) := by decide +kernel
theorem dX8_clash_2 : decode cX8_clash 2 = .ok (.invokevirtual 143, 3) := by decide +kernel
theorem dX8_clash_5 : decode cX8_clash 5 = .ok (.ifCond .eq 26, 3) := by decide +kernel
theorem dX8_clash_8 : decode cX8_clash 8 = .ok (.aload_n 0, 1) := by decide +kernel
theorem dX8_clash_9 : decode cX8_clash 9 = .ok (.iload_n 2, 1) := by decide +kernel
theorem dX8_clash_10 : decode cX8_clash 10 = .ok (.invokevirtual 143, 3) := by decide +kernel
theorem dX8_clash_13 : decode cX8_clash 13 = .ok (.ifCond .eq 18, 3) := by decide +kernel
theorem dX8_clash_16 : decode cX8_clash 16 = .ok (.iload_n 1, 1) := by decide +kernel
theorem dX8_clash_17 : decode cX8_clash 17 = .ok (.iload_n 2, 1) := by decide +kernel
theorem dX8_clash_18 : decode cX8_clash 18 = .ok (.if_icmp .eq 13, 3) := by decide +kernel
theorem dX8_clash_21 : decode cX8_clash 21 = .ok (.iload_n 3, 1) := by decide +kernel
theorem dX8_clash_22 : decode cX8_clash 22 = .ok (.i2l, 1) := by decide +kernel
theorem dX8_clash_23 : decode cX8_clash 23 = .ok (.lconst 0, 1) := by decide +kernel
theorem dX8_clash_24 : decode cX8_clash 24 = .ok (.lconst 1, 1) := by decide +kernel
theorem dX8_clash_25 : decode cX8_clash 25 = .ok (.invokestatic 80, 3) := by decide +kernel
theorem dX8_clash_28 : decode cX8_clash 28 = .ok (.ifCond .ne 5, 3) := by decide +kernel
theorem dX8_clash_31 : decode cX8_clash 31 = .ok (.iconst (-1), 1) := by decide +kernel
theorem dX8_clash_32 : decode cX8_clash 32 = .ok (.ireturn, 1) := by decide +kernel
theorem dX8_clash_33 : decode cX8_clash 33 = .ok (.aload_n 0, 1) := by decide +kernel
theorem dX8_clash_34 : decode cX8_clash 34 = .ok (.getfield 7, 3) := by decide +kernel
theorem dX8_clash_37 : decode cX8_clash 37 = .ok (.bipush 36, 2) := by decide +kernel
theorem dX8_clash_39 : decode cX8_clash 39 = .ok (.iload_n 1, 1) := by decide +kernel
theorem dX8_clash_40 : decode cX8_clash 40 = .ok (.iadd, 1) := by decide +kernel
theorem dX8_clash_41 : decode cX8_clash 41 = .ok (.iaload, 1) := by decide +kernel
theorem dX8_clash_42 : decode cX8_clash 42 = .ok (.iload_n 2, 1) := by decide +kernel
theorem dX8_clash_43 : decode cX8_clash 43 = .ok (.invokestatic 150, 3) := by decide +kernel
theorem dX8_clash_46 : decode cX8_clash 46 = .ok (.iload_n 3, 1) := by decide +kernel
theorem dX8_clash_47 : decode cX8_clash 47 = .ok (.iconst 1, 1) := by decide +kernel
theorem dX8_clash_48 : decode cX8_clash 48 = .ok (.if_icmp .ne 7, 3) := by decide +kernel
theorem dX8_clash_51 : decode cX8_clash 51 = .ok (.iconst 1, 1) := by decide +kernel
theorem dX8_clash_52 : decode cX8_clash 52 = .ok (.goto 4, 3) := by decide +kernel
theorem dX8_clash_55 : decode cX8_clash 55 = .ok (.iconst 0, 1) := by decide +kernel
theorem dX8_clash_56 : decode cX8_clash 56 = .ok (.if_icmp .ne 6, 3) := by decide +kernel
theorem dX8_clash_59 : decode cX8_clash 59 = .ok (.bipush (-2), 2) := by decide +kernel
theorem dX8_clash_61 : decode cX8_clash 61 = .ok (.ireturn, 1) := by decide +kernel
theorem dX8_clash_62 : decode cX8_clash 62 = .ok (.aload_n 0, 1) := by decide +kernel
theorem dX8_clash_63 : decode cX8_clash 63 = .ok (.invokevirtual 133, 3) := by decide +kernel
theorem dX8_clash_66 : decode cX8_clash 66 = .ok (.aload_n 0, 1) := by decide +kernel
theorem dX8_clash_67 : decode cX8_clash 67 = .ok (.getfield 7, 3) := by decide +kernel
theorem dX8_clash_70 : decode cX8_clash 70 = .ok (.iload_n 1, 1) := by decide +kernel
theorem dX8_clash_71 : decode cX8_clash 71 = .ok (.iload_n 2, 1) := by decide +kernel
theorem dX8_clash_72 : decode cX8_clash 72 = .ok (.iload_n 3, 1) := by decide +kernel
theorem dX8_clash_73 : decode cX8_clash 73 = .ok (.invokestatic 63, 3) := by decide +kernel
theorem dX8_clash_76 : decode cX8_clash 76 = .ok (.aload_n 0, 1) := by decide +kernel
theorem dX8_clash_77 : decode cX8_clash 77 = .ok (.invokevirtual 153, 3) := by decide +kernel
theorem dX8_clash_80 : decode cX8_clash 80 = .ok (.ireturn, 1) := by decide +kernel
theorem dX8_queuePlace_0 : decode cX8_queuePlace 0 = .ok (.bipush 77, 2) := by decide +kernel
theorem dX8_queuePlace_2 : decode cX8_queuePlace 2 = .ok (.bipush 41, 2) := by decide +kernel
theorem dX8_queuePlace_4 : decode cX8_queuePlace 4 = .ok (.iconst 3, 1) := by decide +kernel
theorem dX8_queuePlace_5 : decode cX8_queuePlace 5 = .ok (.iload_n 0, 1) := by decide +kernel
theorem dX8_queuePlace_6 : decode cX8_queuePlace 6 = .ok (.imul, 1) := by decide +kernel
theorem dX8_queuePlace_7 : decode cX8_queuePlace 7 = .ok (.iload_n 1, 1) := by decide +kernel
theorem dX8_queuePlace_8 : decode cX8_queuePlace 8 = .ok (.iadd, 1) := by decide +kernel
theorem dX8_queuePlace_9 : decode cX8_queuePlace 9 = .ok (.imul, 1) := by decide +kernel
theorem dX8_queuePlace_10 : decode cX8_queuePlace 10 = .ok (.iadd, 1) := by decide +kernel
theorem dX8_queuePlace_11 : decode cX8_queuePlace 11 = .ok (.ireturn, 1) := by decide +kernel
theorem dX8_manyIn_0 : decode cX8_manyIn 0 = .ok (.aload_n 0, 1) := by decide +kernel
theorem dX8_manyIn_1 : decode cX8_manyIn 1 = .ok (.getfield 7, 3) := by decide +kernel
theorem dX8_manyIn_4 : decode cX8_manyIn 4 = .ok (.iload_n 1, 1) := by decide +kernel
theorem dX8_manyIn_5 : decode cX8_manyIn 5 = .ok (.iload_n 2, 1) := by decide +kernel
theorem dX8_manyIn_6 : decode cX8_manyIn 6 = .ok (.invokestatic 156, 3) := by decide +kernel
theorem dX8_manyIn_9 : decode cX8_manyIn 9 = .ok (.iaload, 1) := by decide +kernel
theorem dX8_manyIn_10 : decode cX8_manyIn 10 = .ok (.ireturn, 1) := by decide +kernel
theorem dX8_comes_0 : decode cX8_comes 0 = .ok (.iload_n 1, 1) := by decide +kernel
theorem dX8_comes_1 : decode cX8_comes 1 = .ok (.iload_n 2, 1) := by decide +kernel
theorem dX8_comes_2 : decode cX8_comes 2 = .ok (.invokestatic 156, 3) := by decide +kernel
theorem dX8_comes_5 : decode cX8_comes 5 = .ok (.istore 4, 2) := by decide +kernel
theorem dX8_comes_7 : decode cX8_comes 7 = .ok (.aload_n 0, 1) := by decide +kernel
theorem dX8_comes_8 : decode cX8_comes 8 = .ok (.getfield 7, 3) := by decide +kernel
theorem dX8_comes_11 : decode cX8_comes 11 = .ok (.iload 4, 2) := by decide +kernel
theorem dX8_comes_13 : decode cX8_comes 13 = .ok (.iaload, 1) := by decide +kernel
theorem dX8_comes_14 : decode cX8_comes 14 = .ok (.bipush 40, 2) := by decide +kernel
theorem dX8_comes_16 : decode cX8_comes 16 = .ok (.if_icmp .ne 5, 3) := by decide +kernel
theorem dX8_comes_19 : decode cX8_comes 19 = .ok (.iconst 0, 1) := by decide +kernel
theorem dX8_comes_20 : decode cX8_comes 20 = .ok (.ireturn, 1) := by decide +kernel
theorem dX8_comes_21 : decode cX8_comes 21 = .ok (.aload_n 0, 1) := by decide +kernel
theorem dX8_comes_22 : decode cX8_comes 22 = .ok (.getfield 7, 3) := by decide +kernel
theorem dX8_comes_25 : decode cX8_comes 25 = .ok (.iload 4, 2) := by decide +kernel
theorem dX8_comes_27 : decode cX8_comes 27 = .ok (.dup2, 1) := by decide +kernel
theorem dX8_comes_28 : decode cX8_comes 28 = .ok (.iaload, 1) := by decide +kernel
theorem dX8_comes_29 : decode cX8_comes 29 = .ok (.iconst 1, 1) := by decide +kernel
theorem dX8_comes_30 : decode cX8_comes 30 = .ok (.iadd, 1) := by decide +kernel
theorem dX8_comes_31 : decode cX8_comes 31 = .ok (.iastore, 1) := by decide +kernel
theorem dX8_comes_32 : decode cX8_comes 32 = .ok (.aload_n 0, 1) := by decide +kernel
theorem dX8_comes_33 : decode cX8_comes 33 = .ok (.getfield 7, 3) := by decide +kernel
theorem dX8_comes_36 : decode cX8_comes 36 = .ok (.iload 4, 2) := by decide +kernel
theorem dX8_comes_38 : decode cX8_comes 38 = .ok (.aload_n 0, 1) := by decide +kernel
theorem dX8_comes_39 : decode cX8_comes 39 = .ok (.getfield 7, 3) := by decide +kernel
theorem dX8_comes_42 : decode cX8_comes 42 = .ok (.iload 4, 2) := by decide +kernel
theorem dX8_comes_44 : decode cX8_comes 44 = .ok (.iaload, 1) := by decide +kernel
theorem dX8_comes_45 : decode cX8_comes 45 = .ok (.iadd, 1) := by decide +kernel
theorem dX8_comes_46 : decode cX8_comes 46 = .ok (.iload_n 3, 1) := by decide +kernel
theorem dX8_comes_47 : decode cX8_comes 47 = .ok (.iastore, 1) := by decide +kernel
theorem dX8_comes_48 : decode cX8_comes 48 = .ok (.iconst 1, 1) := by decide +kernel
theorem dX8_comes_49 : decode cX8_comes 49 = .ok (.ireturn, 1) := by decide +kernel
theorem dX8_leaves_0 : decode cX8_leaves 0 = .ok (.iload_n 1, 1) := by decide +kernel
theorem dX8_leaves_1 : decode cX8_leaves 1 = .ok (.iload_n 2, 1) := by decide +kernel
theorem dX8_leaves_2 : decode cX8_leaves 2 = .ok (.invokestatic 156, 3) := by decide +kernel
theorem dX8_leaves_5 : decode cX8_leaves 5 = .ok (.istore_n 3, 1) := by decide +kernel
theorem dX8_leaves_6 : decode cX8_leaves 6 = .ok (.aload_n 0, 1) := by decide +kernel
theorem dX8_leaves_7 : decode cX8_leaves 7 = .ok (.getfield 7, 3) := by decide +kernel
theorem dX8_leaves_10 : decode cX8_leaves 10 = .ok (.iload_n 3, 1) := by decide +kernel
theorem dX8_leaves_11 : decode cX8_leaves 11 = .ok (.aload_n 0, 1) := by decide +kernel
theorem dX8_leaves_12 : decode cX8_leaves 12 = .ok (.getfield 7, 3) := by decide +kernel
theorem dX8_leaves_15 : decode cX8_leaves 15 = .ok (.bipush 65, 2) := by decide +kernel
theorem dX8_leaves_17 : decode cX8_leaves 17 = .ok (.iaload, 1) := by decide +kernel
theorem dX8_leaves_18 : decode cX8_leaves 18 = .ok (.ifCond .ne 7, 3) := by decide +kernel
theorem dX8_leaves_21 : decode cX8_leaves 21 = .ok (.iconst 1, 1) := by decide +kernel
theorem dX8_leaves_22 : decode cX8_leaves 22 = .ok (.goto 9, 3) := by decide +kernel
theorem dX8_leaves_25 : decode cX8_leaves 25 = .ok (.aload_n 0, 1) := by decide +kernel
theorem dX8_leaves_26 : decode cX8_leaves 26 = .ok (.getfield 7, 3) := by decide +kernel
theorem dX8_leaves_29 : decode cX8_leaves 29 = .ok (.iload_n 3, 1) := by decide +kernel
theorem dX8_leaves_30 : decode cX8_leaves 30 = .ok (.iaload, 1) := by decide +kernel
theorem dX8_leaves_31 : decode cX8_leaves 31 = .ok (.iadd, 1) := by decide +kernel
theorem dX8_leaves_32 : decode cX8_leaves 32 = .ok (.iaload, 1) := by decide +kernel
theorem dX8_leaves_33 : decode cX8_leaves 33 = .ok (.istore 4, 2) := by decide +kernel
theorem dX8_leaves_35 : decode cX8_leaves 35 = .ok (.iconst 1, 1) := by decide +kernel
theorem dX8_leaves_36 : decode cX8_leaves 36 = .ok (.istore 5, 2) := by decide +kernel
theorem dX8_leaves_38 : decode cX8_leaves 38 = .ok (.iload 5, 2) := by decide +kernel
theorem dX8_leaves_40 : decode cX8_leaves 40 = .ok (.aload_n 0, 1) := by decide +kernel
theorem dX8_leaves_41 : decode cX8_leaves 41 = .ok (.getfield 7, 3) := by decide +kernel
theorem dX8_leaves_44 : decode cX8_leaves 44 = .ok (.iload_n 3, 1) := by decide +kernel
theorem dX8_leaves_45 : decode cX8_leaves 45 = .ok (.iaload, 1) := by decide +kernel
theorem dX8_leaves_46 : decode cX8_leaves 46 = .ok (.if_icmp .ge 39, 3) := by decide +kernel
theorem dX8_leaves_49 : decode cX8_leaves 49 = .ok (.aload_n 0, 1) := by decide +kernel
theorem dX8_leaves_50 : decode cX8_leaves 50 = .ok (.getfield 7, 3) := by decide +kernel
theorem dX8_leaves_53 : decode cX8_leaves 53 = .ok (.bipush 65, 2) := by decide +kernel
theorem dX8_leaves_55 : decode cX8_leaves 55 = .ok (.iaload, 1) := by decide +kernel
theorem dX8_leaves_56 : decode cX8_leaves 56 = .ok (.ifCond .ne 29, 3) := by decide +kernel
theorem dX8_leaves_59 : decode cX8_leaves 59 = .ok (.aload_n 0, 1) := by decide +kernel
theorem dX8_leaves_60 : decode cX8_leaves 60 = .ok (.getfield 7, 3) := by decide +kernel
theorem dX8_leaves_63 : decode cX8_leaves 63 = .ok (.iload_n 3, 1) := by decide +kernel
theorem dX8_leaves_64 : decode cX8_leaves 64 = .ok (.iload 5, 2) := by decide +kernel
theorem dX8_leaves_66 : decode cX8_leaves 66 = .ok (.iadd, 1) := by decide +kernel
theorem dX8_leaves_67 : decode cX8_leaves 67 = .ok (.aload_n 0, 1) := by decide +kernel
theorem dX8_leaves_68 : decode cX8_leaves 68 = .ok (.getfield 7, 3) := by decide +kernel
theorem dX8_leaves_71 : decode cX8_leaves 71 = .ok (.iload_n 3, 1) := by decide +kernel
theorem dX8_leaves_72 : decode cX8_leaves 72 = .ok (.iload 5, 2) := by decide +kernel
theorem dX8_leaves_74 : decode cX8_leaves 74 = .ok (.iadd, 1) := by decide +kernel
theorem dX8_leaves_75 : decode cX8_leaves 75 = .ok (.iconst 1, 1) := by decide +kernel
theorem dX8_leaves_76 : decode cX8_leaves 76 = .ok (.iadd, 1) := by decide +kernel
theorem dX8_leaves_77 : decode cX8_leaves 77 = .ok (.iaload, 1) := by decide +kernel
theorem dX8_leaves_78 : decode cX8_leaves 78 = .ok (.iastore, 1) := by decide +kernel
theorem dX8_leaves_79 : decode cX8_leaves 79 = .ok (.iinc 5 1, 3) := by decide +kernel
theorem dX8_leaves_82 : decode cX8_leaves 82 = .ok (.goto (-44), 3) := by decide +kernel
theorem dX8_leaves_85 : decode cX8_leaves 85 = .ok (.aload_n 0, 1) := by decide +kernel
theorem dX8_leaves_86 : decode cX8_leaves 86 = .ok (.getfield 7, 3) := by decide +kernel
theorem dX8_leaves_89 : decode cX8_leaves 89 = .ok (.iload_n 3, 1) := by decide +kernel
theorem dX8_leaves_90 : decode cX8_leaves 90 = .ok (.aload_n 0, 1) := by decide +kernel
theorem dX8_leaves_91 : decode cX8_leaves 91 = .ok (.getfield 7, 3) := by decide +kernel
theorem dX8_leaves_94 : decode cX8_leaves 94 = .ok (.iload_n 3, 1) := by decide +kernel
theorem dX8_leaves_95 : decode cX8_leaves 95 = .ok (.iaload, 1) := by decide +kernel
theorem dX8_leaves_96 : decode cX8_leaves 96 = .ok (.iadd, 1) := by decide +kernel
theorem dX8_leaves_97 : decode cX8_leaves 97 = .ok (.iconst 0, 1) := by decide +kernel
theorem dX8_leaves_98 : decode cX8_leaves 98 = .ok (.iastore, 1) := by decide +kernel
theorem dX8_leaves_99 : decode cX8_leaves 99 = .ok (.aload_n 0, 1) := by decide +kernel
theorem dX8_leaves_100 : decode cX8_leaves 100 = .ok (.getfield 7, 3) := by decide +kernel
theorem dX8_leaves_103 : decode cX8_leaves 103 = .ok (.iload_n 3, 1) := by decide +kernel
theorem dX8_leaves_104 : decode cX8_leaves 104 = .ok (.dup2, 1) := by decide +kernel
theorem dX8_leaves_105 : decode cX8_leaves 105 = .ok (.iaload, 1) := by decide +kernel
theorem dX8_leaves_106 : decode cX8_leaves 106 = .ok (.iconst 1, 1) := by decide +kernel
theorem dX8_leaves_107 : decode cX8_leaves 107 = .ok (.isub, 1) := by decide +kernel
theorem dX8_leaves_108 : decode cX8_leaves 108 = .ok (.iastore, 1) := by decide +kernel
theorem dX8_leaves_109 : decode cX8_leaves 109 = .ok (.iload 4, 2) := by decide +kernel
theorem dX8_leaves_111 : decode cX8_leaves 111 = .ok (.ireturn, 1) := by decide +kernel
theorem dX8_put_0 : decode cX8_put 0 = .ok (.aload_n 0, 1) := by decide +kernel
theorem dX8_put_1 : decode cX8_put 1 = .ok (.iload_n 1, 1) := by decide +kernel
theorem dX8_put_2 : decode cX8_put 2 = .ok (.iload_n 2, 1) := by decide +kernel
theorem dX8_put_3 : decode cX8_put 3 = .ok (.invokevirtual 136, 3) := by decide +kernel
theorem dX8_put_6 : decode cX8_put 6 = .ok (.ifCond .eq 15, 3) := by decide +kernel
theorem dX8_put_9 : decode cX8_put 9 = .ok (.iload_n 3, 1) := by decide +kernel
theorem dX8_put_10 : decode cX8_put 10 = .ok (.i2l, 1) := by decide +kernel
theorem dX8_put_11 : decode cX8_put 11 = .ok (.lconst 1, 1) := by decide +kernel
theorem dX8_put_12 : decode cX8_put 12 = .ok (.ldc2_w 159, 3) := by decide +kernel
theorem dX8_put_15 : decode cX8_put 15 = .ok (.invokestatic 80, 3) := by decide +kernel
theorem dX8_put_18 : decode cX8_put 18 = .ok (.ifCond .ne 5, 3) := by decide +kernel
theorem dX8_put_21 : decode cX8_put 21 = .ok (.iconst (-1), 1) := by decide +kernel
theorem dX8_put_22 : decode cX8_put 22 = .ok (.ireturn, 1) := by decide +kernel
theorem dX8_put_23 : decode cX8_put 23 = .ok (.aload_n 0, 1) := by decide +kernel
theorem dX8_put_24 : decode cX8_put 24 = .ok (.iload_n 1, 1) := by decide +kernel
theorem dX8_put_25 : decode cX8_put 25 = .ok (.iload_n 2, 1) := by decide +kernel
theorem dX8_put_26 : decode cX8_put 26 = .ok (.invokevirtual 161, 3) := by decide +kernel
theorem dX8_put_29 : decode cX8_put 29 = .ok (.iload_n 3, 1) := by decide +kernel
theorem dX8_put_30 : decode cX8_put 30 = .ok (.iadd, 1) := by decide +kernel
theorem dX8_put_31 : decode cX8_put 31 = .ok (.bipush 40, 2) := by decide +kernel
theorem dX8_put_33 : decode cX8_put 33 = .ok (.if_icmp .le 6, 3) := by decide +kernel
theorem dX8_put_36 : decode cX8_put 36 = .ok (.bipush (-3), 2) := by decide +kernel
theorem dX8_put_38 : decode cX8_put 38 = .ok (.ireturn, 1) := by decide +kernel
theorem dX8_put_39 : decode cX8_put 39 = .ok (.aload_n 0, 1) := by decide +kernel
theorem dX8_put_40 : decode cX8_put 40 = .ok (.invokevirtual 133, 3) := by decide +kernel
theorem dX8_put_43 : decode cX8_put 43 = .ok (.iconst 1, 1) := by decide +kernel
theorem dX8_put_44 : decode cX8_put 44 = .ok (.istore 4, 2) := by decide +kernel
theorem dX8_put_46 : decode cX8_put 46 = .ok (.iconst 0, 1) := by decide +kernel
theorem dX8_put_47 : decode cX8_put 47 = .ok (.istore 5, 2) := by decide +kernel
theorem dX8_put_49 : decode cX8_put 49 = .ok (.iload 5, 2) := by decide +kernel
theorem dX8_put_51 : decode cX8_put 51 = .ok (.iload_n 3, 1) := by decide +kernel
theorem dX8_put_52 : decode cX8_put 52 = .ok (.if_icmp .ge 37, 3) := by decide +kernel
theorem dX8_put_55 : decode cX8_put 55 = .ok (.aload_n 0, 1) := by decide +kernel
theorem dX8_put_56 : decode cX8_put 56 = .ok (.iload_n 1, 1) := by decide +kernel
theorem dX8_put_57 : decode cX8_put 57 = .ok (.iload_n 2, 1) := by decide +kernel
theorem dX8_put_58 : decode cX8_put 58 = .ok (.aload_n 0, 1) := by decide +kernel
theorem dX8_put_59 : decode cX8_put 59 = .ok (.getfield 7, 3) := by decide +kernel
theorem dX8_put_62 : decode cX8_put 62 = .ok (.bipush 66, 2) := by decide +kernel
theorem dX8_put_64 : decode cX8_put 64 = .ok (.iaload, 1) := by decide +kernel
theorem dX8_put_65 : decode cX8_put 65 = .ok (.invokevirtual 164, 3) := by decide +kernel
theorem dX8_put_68 : decode cX8_put 68 = .ok (.ifCond .eq 12, 3) := by decide +kernel
theorem dX8_put_71 : decode cX8_put 71 = .ok (.iload 4, 2) := by decide +kernel
theorem dX8_put_73 : decode cX8_put 73 = .ok (.ifCond .eq 7, 3) := by decide +kernel
theorem dX8_put_76 : decode cX8_put 76 = .ok (.iconst 1, 1) := by decide +kernel
theorem dX8_put_77 : decode cX8_put 77 = .ok (.goto 4, 3) := by decide +kernel
theorem dX8_put_80 : decode cX8_put 80 = .ok (.iconst 0, 1) := by decide +kernel
theorem dX8_put_81 : decode cX8_put 81 = .ok (.istore 4, 2) := by decide +kernel
theorem dX8_put_83 : decode cX8_put 83 = .ok (.iinc 5 1, 3) := by decide +kernel
theorem dX8_put_86 : decode cX8_put 86 = .ok (.goto (-37), 3) := by decide +kernel
theorem dX8_put_89 : decode cX8_put 89 = .ok (.iload 4, 2) := by decide +kernel
theorem dX8_put_91 : decode cX8_put 91 = .ok (.ifCond .eq 12, 3) := by decide +kernel
theorem dX8_put_94 : decode cX8_put 94 = .ok (.aload_n 0, 1) := by decide +kernel
theorem dX8_put_95 : decode cX8_put 95 = .ok (.iload_n 1, 1) := by decide +kernel
theorem dX8_put_96 : decode cX8_put 96 = .ok (.iload_n 2, 1) := by decide +kernel
theorem dX8_put_97 : decode cX8_put 97 = .ok (.invokevirtual 161, 3) := by decide +kernel
theorem dX8_put_100 : decode cX8_put 100 = .ok (.goto 5, 3) := by decide +kernel
theorem dX8_put_103 : decode cX8_put 103 = .ok (.bipush (-3), 2) := by decide +kernel
theorem dX8_put_105 : decode cX8_put 105 = .ok (.ireturn, 1) := by decide +kernel
theorem dX8_findsHops_0 : decode cX8_findsHops 0 = .ok (.iconst 0, 1) := by decide +kernel
theorem dX8_findsHops_1 : decode cX8_findsHops 1 = .ok (.istore_n 1, 1) := by decide +kernel
theorem dX8_findsHops_2 : decode cX8_findsHops 2 = .ok (.iload_n 1, 1) := by decide +kernel
theorem dX8_findsHops_3 : decode cX8_findsHops 3 = .ok (.bipush 18, 2) := by decide +kernel
theorem dX8_findsHops_5 : decode cX8_findsHops 5 = .ok (.if_icmp .ge 17, 3) := by decide +kernel
theorem dX8_findsHops_8 : decode cX8_findsHops 8 = .ok (.aload_n 0, 1) := by decide +kernel
theorem dX8_findsHops_9 : decode cX8_findsHops 9 = .ok (.getfield 28, 3) := by decide +kernel
theorem dX8_findsHops_12 : decode cX8_findsHops 12 = .ok (.iload_n 1, 1) := by decide +kernel
theorem dX8_findsHops_13 : decode cX8_findsHops 13 = .ok (.bipush 9, 2) := by decide +kernel
theorem dX8_findsHops_15 : decode cX8_findsHops 15 = .ok (.iastore, 1) := by decide +kernel
theorem dX8_findsHops_16 : decode cX8_findsHops 16 = .ok (.iinc 1 1, 3) := by decide +kernel
theorem dX8_findsHops_19 : decode cX8_findsHops 19 = .ok (.goto (-17), 3) := by decide +kernel
theorem dX8_findsHops_22 : decode cX8_findsHops 22 = .ok (.iconst 0, 1) := by decide +kernel
theorem dX8_findsHops_23 : decode cX8_findsHops 23 = .ok (.istore_n 1, 1) := by decide +kernel
theorem dX8_findsHops_24 : decode cX8_findsHops 24 = .ok (.iload_n 1, 1) := by decide +kernel
theorem dX8_findsHops_25 : decode cX8_findsHops 25 = .ok (.aload_n 0, 1) := by decide +kernel
theorem dX8_findsHops_26 : decode cX8_findsHops 26 = .ok (.getfield 7, 3) := by decide +kernel
theorem dX8_findsHops_29 : decode cX8_findsHops 29 = .ok (.iconst 1, 1) := by decide +kernel
theorem dX8_findsHops_30 : decode cX8_findsHops 30 = .ok (.iaload, 1) := by decide +kernel
theorem dX8_findsHops_31 : decode cX8_findsHops 31 = .ok (.if_icmp .ge 119, 3) := by decide +kernel
theorem dX8_findsHops_34 : decode cX8_findsHops 34 = .ok (.aload_n 0, 1) := by decide +kernel
theorem dX8_findsHops_35 : decode cX8_findsHops 35 = .ok (.getfield 28, 3) := by decide +kernel
theorem dX8_findsHops_38 : decode cX8_findsHops 38 = .ok (.iconst 3, 1) := by decide +kernel
theorem dX8_findsHops_39 : decode cX8_findsHops 39 = .ok (.aload_n 0, 1) := by decide +kernel
theorem dX8_findsHops_40 : decode cX8_findsHops 40 = .ok (.getfield 7, 3) := by decide +kernel
theorem dX8_findsHops_43 : decode cX8_findsHops 43 = .ok (.iconst 2, 1) := by decide +kernel
theorem dX8_findsHops_44 : decode cX8_findsHops 44 = .ok (.iload_n 1, 1) := by decide +kernel
theorem dX8_findsHops_45 : decode cX8_findsHops 45 = .ok (.iadd, 1) := by decide +kernel
theorem dX8_findsHops_46 : decode cX8_findsHops 46 = .ok (.iaload, 1) := by decide +kernel
theorem dX8_findsHops_47 : decode cX8_findsHops 47 = .ok (.imul, 1) := by decide +kernel
theorem dX8_findsHops_48 : decode cX8_findsHops 48 = .ok (.iload_n 1, 1) := by decide +kernel
theorem dX8_findsHops_49 : decode cX8_findsHops 49 = .ok (.iadd, 1) := by decide +kernel
theorem dX8_findsHops_50 : decode cX8_findsHops 50 = .ok (.iconst 0, 1) := by decide +kernel
theorem dX8_findsHops_51 : decode cX8_findsHops 51 = .ok (.iastore, 1) := by decide +kernel
theorem dX8_findsHops_52 : decode cX8_findsHops 52 = .ok (.iconst 0, 1) := by decide +kernel
theorem dX8_findsHops_53 : decode cX8_findsHops 53 = .ok (.istore_n 2, 1) := by decide +kernel
theorem dX8_findsHops_54 : decode cX8_findsHops 54 = .ok (.iload_n 2, 1) := by decide +kernel
theorem dX8_findsHops_55 : decode cX8_findsHops 55 = .ok (.bipush 6, 2) := by decide +kernel
theorem dX8_findsHops_57 : decode cX8_findsHops 57 = .ok (.if_icmp .ge 87, 3) := by decide +kernel
theorem dX8_findsHops_60 : decode cX8_findsHops 60 = .ok (.iconst 0, 1) := by decide +kernel
theorem dX8_findsHops_61 : decode cX8_findsHops 61 = .ok (.istore_n 3, 1) := by decide +kernel
theorem dX8_findsHops_62 : decode cX8_findsHops 62 = .ok (.iload_n 3, 1) := by decide +kernel
theorem dX8_findsHops_63 : decode cX8_findsHops 63 = .ok (.aload_n 0, 1) := by decide +kernel
theorem dX8_findsHops_64 : decode cX8_findsHops 64 = .ok (.getfield 7, 3) := by decide +kernel
theorem dX8_findsHops_67 : decode cX8_findsHops 67 = .ok (.iconst 5, 1) := by decide +kernel
theorem dX8_findsHops_68 : decode cX8_findsHops 68 = .ok (.iaload, 1) := by decide +kernel
theorem dX8_findsHops_69 : decode cX8_findsHops 69 = .ok (.if_icmp .ge 69, 3) := by decide +kernel
theorem dX8_findsHops_72 : decode cX8_findsHops 72 = .ok (.iconst 3, 1) := by decide +kernel
theorem dX8_findsHops_73 : decode cX8_findsHops 73 = .ok (.aload_n 0, 1) := by decide +kernel
theorem dX8_findsHops_74 : decode cX8_findsHops 74 = .ok (.iload_n 3, 1) := by decide +kernel
theorem dX8_findsHops_75 : decode cX8_findsHops 75 = .ok (.invokevirtual 168, 3) := by decide +kernel
theorem dX8_findsHops_78 : decode cX8_findsHops 78 = .ok (.imul, 1) := by decide +kernel
theorem dX8_findsHops_79 : decode cX8_findsHops 79 = .ok (.iload_n 1, 1) := by decide +kernel
theorem dX8_findsHops_80 : decode cX8_findsHops 80 = .ok (.iadd, 1) := by decide +kernel
theorem dX8_findsHops_81 : decode cX8_findsHops 81 = .ok (.istore 4, 2) := by decide +kernel
theorem dX8_findsHops_83 : decode cX8_findsHops 83 = .ok (.aload_n 0, 1) := by decide +kernel
theorem dX8_findsHops_84 : decode cX8_findsHops 84 = .ok (.getfield 28, 3) := by decide +kernel
theorem dX8_findsHops_87 : decode cX8_findsHops 87 = .ok (.iconst 3, 1) := by decide +kernel
theorem dX8_findsHops_88 : decode cX8_findsHops 88 = .ok (.aload_n 0, 1) := by decide +kernel
theorem dX8_findsHops_89 : decode cX8_findsHops 89 = .ok (.iload_n 3, 1) := by decide +kernel
theorem dX8_findsHops_90 : decode cX8_findsHops 90 = .ok (.invokevirtual 171, 3) := by decide +kernel
theorem dX8_findsHops_93 : decode cX8_findsHops 93 = .ok (.imul, 1) := by decide +kernel
theorem dX8_findsHops_94 : decode cX8_findsHops 94 = .ok (.iload_n 1, 1) := by decide +kernel
theorem dX8_findsHops_95 : decode cX8_findsHops 95 = .ok (.iadd, 1) := by decide +kernel
theorem dX8_findsHops_96 : decode cX8_findsHops 96 = .ok (.iaload, 1) := by decide +kernel
theorem dX8_findsHops_97 : decode cX8_findsHops 97 = .ok (.iconst 1, 1) := by decide +kernel
theorem dX8_findsHops_98 : decode cX8_findsHops 98 = .ok (.iadd, 1) := by decide +kernel
theorem dX8_findsHops_99 : decode cX8_findsHops 99 = .ok (.istore 5, 2) := by decide +kernel
theorem dX8_findsHops_101 : decode cX8_findsHops 101 = .ok (.aload_n 0, 1) := by decide +kernel
theorem dX8_findsHops_102 : decode cX8_findsHops 102 = .ok (.getfield 28, 3) := by decide +kernel
theorem dX8_findsHops_105 : decode cX8_findsHops 105 = .ok (.iload 4, 2) := by decide +kernel
theorem dX8_findsHops_107 : decode cX8_findsHops 107 = .ok (.iload 5, 2) := by decide +kernel
theorem dX8_findsHops_109 : decode cX8_findsHops 109 = .ok (.aload_n 0, 1) := by decide +kernel
theorem dX8_findsHops_110 : decode cX8_findsHops 110 = .ok (.getfield 28, 3) := by decide +kernel
theorem dX8_findsHops_113 : decode cX8_findsHops 113 = .ok (.iload 4, 2) := by decide +kernel
theorem dX8_findsHops_115 : decode cX8_findsHops 115 = .ok (.iaload, 1) := by decide +kernel
theorem dX8_findsHops_116 : decode cX8_findsHops 116 = .ok (.if_icmp .ge 8, 3) := by decide +kernel
theorem dX8_findsHops_119 : decode cX8_findsHops 119 = .ok (.iload 5, 2) := by decide +kernel
theorem dX8_findsHops_121 : decode cX8_findsHops 121 = .ok (.goto 10, 3) := by decide +kernel
theorem dX8_findsHops_124 : decode cX8_findsHops 124 = .ok (.aload_n 0, 1) := by decide +kernel
theorem dX8_findsHops_125 : decode cX8_findsHops 125 = .ok (.getfield 28, 3) := by decide +kernel
theorem dX8_findsHops_128 : decode cX8_findsHops 128 = .ok (.iload 4, 2) := by decide +kernel
theorem dX8_findsHops_130 : decode cX8_findsHops 130 = .ok (.iaload, 1) := by decide +kernel
theorem dX8_findsHops_131 : decode cX8_findsHops 131 = .ok (.iastore, 1) := by decide +kernel
theorem dX8_findsHops_132 : decode cX8_findsHops 132 = .ok (.iinc 3 1, 3) := by decide +kernel
theorem dX8_findsHops_135 : decode cX8_findsHops 135 = .ok (.goto (-73), 3) := by decide +kernel
theorem dX8_findsHops_138 : decode cX8_findsHops 138 = .ok (.iinc 2 1, 3) := by decide +kernel
theorem dX8_findsHops_141 : decode cX8_findsHops 141 = .ok (.goto (-87), 3) := by decide +kernel
theorem dX8_findsHops_144 : decode cX8_findsHops 144 = .ok (.iinc 1 1, 3) := by decide +kernel
theorem dX8_findsHops_147 : decode cX8_findsHops 147 = .ok (.goto (-123), 3) := by decide +kernel
theorem dX8_findsHops_150 : decode cX8_findsHops 150 = .ok (.return_, 1) := by decide +kernel
theorem dX8_firstOf_0 : decode cX8_firstOf 0 = .ok (.aload_n 0, 1) := by decide +kernel
theorem dX8_firstOf_1 : decode cX8_firstOf 1 = .ok (.getfield 7, 3) := by decide +kernel
theorem dX8_firstOf_4 : decode cX8_firstOf 4 = .ok (.bipush 6, 2) := by decide +kernel
theorem dX8_firstOf_6 : decode cX8_firstOf 6 = .ok (.iconst 3, 1) := by decide +kernel
theorem dX8_firstOf_7 : decode cX8_firstOf 7 = .ok (.iload_n 1, 1) := by decide +kernel
theorem dX8_firstOf_8 : decode cX8_firstOf 8 = .ok (.imul, 1) := by decide +kernel
theorem dX8_firstOf_9 : decode cX8_firstOf 9 = .ok (.iadd, 1) := by decide +kernel
theorem dX8_firstOf_10 : decode cX8_firstOf 10 = .ok (.iaload, 1) := by decide +kernel
theorem dX8_firstOf_11 : decode cX8_firstOf 11 = .ok (.ireturn, 1) := by decide +kernel
theorem dX8_secondOf_0 : decode cX8_secondOf 0 = .ok (.aload_n 0, 1) := by decide +kernel
theorem dX8_secondOf_1 : decode cX8_secondOf 1 = .ok (.getfield 7, 3) := by decide +kernel
theorem dX8_secondOf_4 : decode cX8_secondOf 4 = .ok (.bipush 6, 2) := by decide +kernel
theorem dX8_secondOf_6 : decode cX8_secondOf 6 = .ok (.iconst 3, 1) := by decide +kernel
theorem dX8_secondOf_7 : decode cX8_secondOf 7 = .ok (.iload_n 1, 1) := by decide +kernel
theorem dX8_secondOf_8 : decode cX8_secondOf 8 = .ok (.imul, 1) := by decide +kernel
theorem dX8_secondOf_9 : decode cX8_secondOf 9 = .ok (.iadd, 1) := by decide +kernel
theorem dX8_secondOf_10 : decode cX8_secondOf 10 = .ok (.iconst 1, 1) := by decide +kernel
theorem dX8_secondOf_11 : decode cX8_secondOf 11 = .ok (.iadd, 1) := by decide +kernel
theorem dX8_secondOf_12 : decode cX8_secondOf 12 = .ok (.iaload, 1) := by decide +kernel
theorem dX8_secondOf_13 : decode cX8_secondOf 13 = .ok (.ireturn, 1) := by decide +kernel
theorem dX8_roomOf_0 : decode cX8_roomOf 0 = .ok (.aload_n 0, 1) := by decide +kernel
theorem dX8_roomOf_1 : decode cX8_roomOf 1 = .ok (.getfield 7, 3) := by decide +kernel
theorem dX8_roomOf_4 : decode cX8_roomOf 4 = .ok (.bipush 6, 2) := by decide +kernel
theorem dX8_roomOf_6 : decode cX8_roomOf 6 = .ok (.iconst 3, 1) := by decide +kernel
theorem dX8_roomOf_7 : decode cX8_roomOf 7 = .ok (.iload_n 1, 1) := by decide +kernel
theorem dX8_roomOf_8 : decode cX8_roomOf 8 = .ok (.imul, 1) := by decide +kernel
theorem dX8_roomOf_9 : decode cX8_roomOf 9 = .ok (.iadd, 1) := by decide +kernel
theorem dX8_roomOf_10 : decode cX8_roomOf 10 = .ok (.iconst 2, 1) := by decide +kernel
theorem dX8_roomOf_11 : decode cX8_roomOf 11 = .ok (.iadd, 1) := by decide +kernel
theorem dX8_roomOf_12 : decode cX8_roomOf 12 = .ok (.iaload, 1) := by decide +kernel
theorem dX8_roomOf_13 : decode cX8_roomOf 13 = .ok (.ireturn, 1) := by decide +kernel
theorem dX8_heightOf_0 : decode cX8_heightOf 0 = .ok (.aload_n 0, 1) := by decide +kernel
theorem dX8_heightOf_1 : decode cX8_heightOf 1 = .ok (.iload_n 1, 1) := by decide +kernel
theorem dX8_heightOf_2 : decode cX8_heightOf 2 = .ok (.iload_n 2, 1) := by decide +kernel
theorem dX8_heightOf_3 : decode cX8_heightOf 3 = .ok (.invokevirtual 161, 3) := by decide +kernel
theorem dX8_heightOf_6 : decode cX8_heightOf 6 = .ok (.aload_n 0, 1) := by decide +kernel
theorem dX8_heightOf_7 : decode cX8_heightOf 7 = .ok (.getfield 7, 3) := by decide +kernel
theorem dX8_heightOf_10 : decode cX8_heightOf 10 = .ok (.bipush 64, 2) := by decide +kernel
theorem dX8_heightOf_12 : decode cX8_heightOf 12 = .ok (.iaload, 1) := by decide +kernel
theorem dX8_heightOf_13 : decode cX8_heightOf 13 = .ok (.aload_n 0, 1) := by decide +kernel
theorem dX8_heightOf_14 : decode cX8_heightOf 14 = .ok (.getfield 28, 3) := by decide +kernel
theorem dX8_heightOf_17 : decode cX8_heightOf 17 = .ok (.iconst 3, 1) := by decide +kernel
theorem dX8_heightOf_18 : decode cX8_heightOf 18 = .ok (.iload_n 1, 1) := by decide +kernel
theorem dX8_heightOf_19 : decode cX8_heightOf 19 = .ok (.imul, 1) := by decide +kernel
theorem dX8_heightOf_20 : decode cX8_heightOf 20 = .ok (.iload_n 2, 1) := by decide +kernel
theorem dX8_heightOf_21 : decode cX8_heightOf 21 = .ok (.iadd, 1) := by decide +kernel
theorem dX8_heightOf_22 : decode cX8_heightOf 22 = .ok (.iaload, 1) := by decide +kernel
theorem dX8_heightOf_23 : decode cX8_heightOf 23 = .ok (.imul, 1) := by decide +kernel
theorem dX8_heightOf_24 : decode cX8_heightOf 24 = .ok (.iadd, 1) := by decide +kernel
theorem dX8_heightOf_25 : decode cX8_heightOf 25 = .ok (.ireturn, 1) := by decide +kernel
theorem dX8_dropOf_0 : decode cX8_dropOf 0 = .ok (.aload_n 0, 1) := by decide +kernel
theorem dX8_dropOf_1 : decode cX8_dropOf 1 = .ok (.aload_n 0, 1) := by decide +kernel
theorem dX8_dropOf_2 : decode cX8_dropOf 2 = .ok (.iload_n 1, 1) := by decide +kernel
theorem dX8_dropOf_3 : decode cX8_dropOf 3 = .ok (.invokevirtual 168, 3) := by decide +kernel
theorem dX8_dropOf_6 : decode cX8_dropOf 6 = .ok (.iload_n 2, 1) := by decide +kernel
theorem dX8_dropOf_7 : decode cX8_dropOf 7 = .ok (.invokevirtual 174, 3) := by decide +kernel
theorem dX8_dropOf_10 : decode cX8_dropOf 10 = .ok (.aload_n 0, 1) := by decide +kernel
theorem dX8_dropOf_11 : decode cX8_dropOf 11 = .ok (.aload_n 0, 1) := by decide +kernel
theorem dX8_dropOf_12 : decode cX8_dropOf 12 = .ok (.iload_n 1, 1) := by decide +kernel
theorem dX8_dropOf_13 : decode cX8_dropOf 13 = .ok (.invokevirtual 171, 3) := by decide +kernel
theorem dX8_dropOf_16 : decode cX8_dropOf 16 = .ok (.iload_n 2, 1) := by decide +kernel
theorem dX8_dropOf_17 : decode cX8_dropOf 17 = .ok (.invokevirtual 174, 3) := by decide +kernel
theorem dX8_dropOf_20 : decode cX8_dropOf 20 = .ok (.isub, 1) := by decide +kernel
theorem dX8_dropOf_21 : decode cX8_dropOf 21 = .ok (.ireturn, 1) := by decide +kernel
theorem dX8_findsChoices_0 : decode cX8_findsChoices 0 = .ok (.aload_n 0, 1) := by decide +kernel
theorem dX8_findsChoices_1 : decode cX8_findsChoices 1 = .ok (.invokevirtual 177, 3) := by decide +kernel
theorem dX8_findsChoices_4 : decode cX8_findsChoices 4 = .ok (.iconst 0, 1) := by decide +kernel
theorem dX8_findsChoices_5 : decode cX8_findsChoices 5 = .ok (.istore_n 1, 1) := by decide +kernel
theorem dX8_findsChoices_6 : decode cX8_findsChoices 6 = .ok (.iload_n 1, 1) := by decide +kernel
theorem dX8_findsChoices_7 : decode cX8_findsChoices 7 = .ok (.aload_n 0, 1) := by decide +kernel
theorem dX8_findsChoices_8 : decode cX8_findsChoices 8 = .ok (.getfield 7, 3) := by decide +kernel
theorem dX8_findsChoices_11 : decode cX8_findsChoices 11 = .ok (.iconst 5, 1) := by decide +kernel
theorem dX8_findsChoices_12 : decode cX8_findsChoices 12 = .ok (.iaload, 1) := by decide +kernel
theorem dX8_findsChoices_13 : decode cX8_findsChoices 13 = .ok (.if_icmp .ge 87, 3) := by decide +kernel
theorem dX8_findsChoices_16 : decode cX8_findsChoices 16 = .ok (.aload_n 0, 1) := by decide +kernel
theorem dX8_findsChoices_17 : decode cX8_findsChoices 17 = .ok (.getfield 31, 3) := by decide +kernel
theorem dX8_findsChoices_20 : decode cX8_findsChoices 20 = .ok (.iload_n 1, 1) := by decide +kernel
theorem dX8_findsChoices_21 : decode cX8_findsChoices 21 = .ok (.bipush (-4), 2) := by decide +kernel
theorem dX8_findsChoices_23 : decode cX8_findsChoices 23 = .ok (.iastore, 1) := by decide +kernel
theorem dX8_findsChoices_24 : decode cX8_findsChoices 24 = .ok (.iconst 0, 1) := by decide +kernel
theorem dX8_findsChoices_25 : decode cX8_findsChoices 25 = .ok (.istore_n 2, 1) := by decide +kernel
theorem dX8_findsChoices_26 : decode cX8_findsChoices 26 = .ok (.iconst 0, 1) := by decide +kernel
theorem dX8_findsChoices_27 : decode cX8_findsChoices 27 = .ok (.istore_n 3, 1) := by decide +kernel
theorem dX8_findsChoices_28 : decode cX8_findsChoices 28 = .ok (.iload_n 3, 1) := by decide +kernel
theorem dX8_findsChoices_29 : decode cX8_findsChoices 29 = .ok (.aload_n 0, 1) := by decide +kernel
theorem dX8_findsChoices_30 : decode cX8_findsChoices 30 = .ok (.getfield 7, 3) := by decide +kernel
theorem dX8_findsChoices_33 : decode cX8_findsChoices 33 = .ok (.iconst 1, 1) := by decide +kernel
theorem dX8_findsChoices_34 : decode cX8_findsChoices 34 = .ok (.iaload, 1) := by decide +kernel
theorem dX8_findsChoices_35 : decode cX8_findsChoices 35 = .ok (.if_icmp .ge 46, 3) := by decide +kernel
theorem dX8_findsChoices_38 : decode cX8_findsChoices 38 = .ok (.aload_n 0, 1) := by decide +kernel
theorem dX8_findsChoices_39 : decode cX8_findsChoices 39 = .ok (.iload_n 1, 1) := by decide +kernel
theorem dX8_findsChoices_40 : decode cX8_findsChoices 40 = .ok (.iload_n 3, 1) := by decide +kernel
theorem dX8_findsChoices_41 : decode cX8_findsChoices 41 = .ok (.invokevirtual 180, 3) := by decide +kernel
theorem dX8_findsChoices_44 : decode cX8_findsChoices 44 = .ok (.istore 4, 2) := by decide +kernel
theorem dX8_findsChoices_46 : decode cX8_findsChoices 46 = .ok (.aload_n 0, 1) := by decide +kernel
theorem dX8_findsChoices_47 : decode cX8_findsChoices 47 = .ok (.aload_n 0, 1) := by decide +kernel
theorem dX8_findsChoices_48 : decode cX8_findsChoices 48 = .ok (.iload_n 1, 1) := by decide +kernel
theorem dX8_findsChoices_49 : decode cX8_findsChoices 49 = .ok (.invokevirtual 168, 3) := by decide +kernel
theorem dX8_findsChoices_52 : decode cX8_findsChoices 52 = .ok (.iload_n 3, 1) := by decide +kernel
theorem dX8_findsChoices_53 : decode cX8_findsChoices 53 = .ok (.invokevirtual 161, 3) := by decide +kernel
theorem dX8_findsChoices_56 : decode cX8_findsChoices 56 = .ok (.ifCond .le 19, 3) := by decide +kernel
theorem dX8_findsChoices_59 : decode cX8_findsChoices 59 = .ok (.iload 4, 2) := by decide +kernel
theorem dX8_findsChoices_61 : decode cX8_findsChoices 61 = .ok (.iload_n 2, 1) := by decide +kernel
theorem dX8_findsChoices_62 : decode cX8_findsChoices 62 = .ok (.if_icmp .le 13, 3) := by decide +kernel
theorem dX8_findsChoices_65 : decode cX8_findsChoices 65 = .ok (.iload 4, 2) := by decide +kernel
theorem dX8_findsChoices_67 : decode cX8_findsChoices 67 = .ok (.istore_n 2, 1) := by decide +kernel
theorem dX8_findsChoices_68 : decode cX8_findsChoices 68 = .ok (.aload_n 0, 1) := by decide +kernel
theorem dX8_findsChoices_69 : decode cX8_findsChoices 69 = .ok (.getfield 31, 3) := by decide +kernel
theorem dX8_findsChoices_72 : decode cX8_findsChoices 72 = .ok (.iload_n 1, 1) := by decide +kernel
theorem dX8_findsChoices_73 : decode cX8_findsChoices 73 = .ok (.iload_n 3, 1) := by decide +kernel
theorem dX8_findsChoices_74 : decode cX8_findsChoices 74 = .ok (.iastore, 1) := by decide +kernel
theorem dX8_findsChoices_75 : decode cX8_findsChoices 75 = .ok (.iinc 3 1, 3) := by decide +kernel
theorem dX8_findsChoices_78 : decode cX8_findsChoices 78 = .ok (.goto (-50), 3) := by decide +kernel
theorem dX8_findsChoices_81 : decode cX8_findsChoices 81 = .ok (.aload_n 0, 1) := by decide +kernel
theorem dX8_findsChoices_82 : decode cX8_findsChoices 82 = .ok (.getfield 34, 3) := by decide +kernel
theorem dX8_findsChoices_85 : decode cX8_findsChoices 85 = .ok (.iload_n 1, 1) := by decide +kernel
theorem dX8_findsChoices_86 : decode cX8_findsChoices 86 = .ok (.aload_n 0, 1) := by decide +kernel
theorem dX8_findsChoices_87 : decode cX8_findsChoices 87 = .ok (.iload_n 1, 1) := by decide +kernel
theorem dX8_findsChoices_88 : decode cX8_findsChoices 88 = .ok (.invokevirtual 183, 3) := by decide +kernel
theorem dX8_findsChoices_91 : decode cX8_findsChoices 91 = .ok (.iload_n 2, 1) := by decide +kernel
theorem dX8_findsChoices_92 : decode cX8_findsChoices 92 = .ok (.imul, 1) := by decide +kernel
theorem dX8_findsChoices_93 : decode cX8_findsChoices 93 = .ok (.iastore, 1) := by decide +kernel
theorem dX8_findsChoices_94 : decode cX8_findsChoices 94 = .ok (.iinc 1 1, 3) := by decide +kernel
theorem dX8_findsChoices_97 : decode cX8_findsChoices 97 = .ok (.goto (-91), 3) := by decide +kernel
theorem dX8_findsChoices_100 : decode cX8_findsChoices 100 = .ok (.return_, 1) := by decide +kernel
theorem dX8_lowestOf_0 : decode cX8_lowestOf 0 = .ok (.iconst 0, 1) := by decide +kernel
theorem dX8_lowestOf_1 : decode cX8_lowestOf 1 = .ok (.istore_n 1, 1) := by decide +kernel
theorem dX8_lowestOf_2 : decode cX8_lowestOf 2 = .ok (.iload_n 0, 1) := by decide +kernel
theorem dX8_lowestOf_3 : decode cX8_lowestOf 3 = .ok (.iload_n 1, 1) := by decide +kernel
theorem dX8_lowestOf_4 : decode cX8_lowestOf 4 = .ok (.invokestatic 150, 3) := by decide +kernel
theorem dX8_lowestOf_7 : decode cX8_lowestOf 7 = .ok (.ifCond .ne 9, 3) := by decide +kernel
theorem dX8_lowestOf_10 : decode cX8_lowestOf 10 = .ok (.iinc 1 1, 3) := by decide +kernel
theorem dX8_lowestOf_13 : decode cX8_lowestOf 13 = .ok (.goto (-11), 3) := by decide +kernel
theorem dX8_lowestOf_16 : decode cX8_lowestOf 16 = .ok (.iload_n 1, 1) := by decide +kernel
theorem dX8_lowestOf_17 : decode cX8_lowestOf 17 = .ok (.ireturn, 1) := by decide +kernel
theorem dX8_findsGoing_0 : decode cX8_findsGoing 0 = .ok (.iconst 0, 1) := by decide +kernel
theorem dX8_findsGoing_1 : decode cX8_findsGoing 1 = .ok (.istore_n 2, 1) := by decide +kernel
theorem dX8_findsGoing_2 : decode cX8_findsGoing 2 = .ok (.iconst 0, 1) := by decide +kernel
theorem dX8_findsGoing_3 : decode cX8_findsGoing 3 = .ok (.istore_n 3, 1) := by decide +kernel
theorem dX8_findsGoing_4 : decode cX8_findsGoing 4 = .ok (.iload_n 3, 1) := by decide +kernel
theorem dX8_findsGoing_5 : decode cX8_findsGoing 5 = .ok (.aload_n 0, 1) := by decide +kernel
theorem dX8_findsGoing_6 : decode cX8_findsGoing 6 = .ok (.getfield 7, 3) := by decide +kernel
theorem dX8_findsGoing_9 : decode cX8_findsGoing 9 = .ok (.iconst 5, 1) := by decide +kernel
theorem dX8_findsGoing_10 : decode cX8_findsGoing 10 = .ok (.iaload, 1) := by decide +kernel
theorem dX8_findsGoing_11 : decode cX8_findsGoing 11 = .ok (.if_icmp .ge 35, 3) := by decide +kernel
theorem dX8_findsGoing_14 : decode cX8_findsGoing 14 = .ok (.iload_n 2, 1) := by decide +kernel
theorem dX8_findsGoing_15 : decode cX8_findsGoing 15 = .ok (.aload_n 0, 1) := by decide +kernel
theorem dX8_findsGoing_16 : decode cX8_findsGoing 16 = .ok (.getfield 31, 3) := by decide +kernel
theorem dX8_findsGoing_19 : decode cX8_findsGoing 19 = .ok (.iload_n 3, 1) := by decide +kernel
theorem dX8_findsGoing_20 : decode cX8_findsGoing 20 = .ok (.iaload, 1) := by decide +kernel
theorem dX8_findsGoing_21 : decode cX8_findsGoing 21 = .ok (.bipush (-4), 2) := by decide +kernel
theorem dX8_findsGoing_23 : decode cX8_findsGoing 23 = .ok (.if_icmp .eq 14, 3) := by decide +kernel
theorem dX8_findsGoing_26 : decode cX8_findsGoing 26 = .ok (.iload_n 3, 1) := by decide +kernel
theorem dX8_findsGoing_27 : decode cX8_findsGoing 27 = .ok (.iload_n 1, 1) := by decide +kernel
theorem dX8_findsGoing_28 : decode cX8_findsGoing 28 = .ok (.if_icmp .eq 9, 3) := by decide +kernel
theorem dX8_findsGoing_31 : decode cX8_findsGoing 31 = .ok (.iconst 1, 1) := by decide +kernel
theorem dX8_findsGoing_32 : decode cX8_findsGoing 32 = .ok (.iload_n 3, 1) := by decide +kernel
theorem dX8_findsGoing_33 : decode cX8_findsGoing 33 = .ok (.ishl, 1) := by decide +kernel
theorem dX8_findsGoing_34 : decode cX8_findsGoing 34 = .ok (.goto 4, 3) := by decide +kernel
theorem dX8_findsGoing_37 : decode cX8_findsGoing 37 = .ok (.iconst 0, 1) := by decide +kernel
theorem dX8_findsGoing_38 : decode cX8_findsGoing 38 = .ok (.ior, 1) := by decide +kernel
theorem dX8_findsGoing_39 : decode cX8_findsGoing 39 = .ok (.istore_n 2, 1) := by decide +kernel
theorem dX8_findsGoing_40 : decode cX8_findsGoing 40 = .ok (.iinc 3 1, 3) := by decide +kernel
theorem dX8_findsGoing_43 : decode cX8_findsGoing 43 = .ok (.goto (-39), 3) := by decide +kernel
theorem dX8_findsGoing_46 : decode cX8_findsGoing 46 = .ok (.aload_n 0, 1) := by decide +kernel
theorem dX8_findsGoing_47 : decode cX8_findsGoing 47 = .ok (.iconst 0, 1) := by decide +kernel
theorem dX8_findsGoing_48 : decode cX8_findsGoing 48 = .ok (.putfield 186, 3) := by decide +kernel
theorem dX8_findsGoing_51 : decode cX8_findsGoing 51 = .ok (.aload_n 0, 1) := by decide +kernel
theorem dX8_findsGoing_52 : decode cX8_findsGoing 52 = .ok (.iconst 0, 1) := by decide +kernel
theorem dX8_findsGoing_53 : decode cX8_findsGoing 53 = .ok (.putfield 189, 3) := by decide +kernel
theorem dX8_findsGoing_56 : decode cX8_findsGoing 56 = .ok (.aload_n 0, 1) := by decide +kernel
theorem dX8_findsGoing_57 : decode cX8_findsGoing 57 = .ok (.getfield 37, 3) := by decide +kernel
theorem dX8_findsGoing_60 : decode cX8_findsGoing 60 = .ok (.iconst 0, 1) := by decide +kernel
theorem dX8_findsGoing_61 : decode cX8_findsGoing 61 = .ok (.iconst 0, 1) := by decide +kernel
theorem dX8_findsGoing_62 : decode cX8_findsGoing 62 = .ok (.iastore, 1) := by decide +kernel
theorem dX8_findsGoing_63 : decode cX8_findsGoing 63 = .ok (.aload_n 0, 1) := by decide +kernel
theorem dX8_findsGoing_64 : decode cX8_findsGoing 64 = .ok (.getfield 40, 3) := by decide +kernel
theorem dX8_findsGoing_67 : decode cX8_findsGoing 67 = .ok (.iconst 0, 1) := by decide +kernel
theorem dX8_findsGoing_68 : decode cX8_findsGoing 68 = .ok (.iconst 1, 1) := by decide +kernel
theorem dX8_findsGoing_69 : decode cX8_findsGoing 69 = .ok (.bastore, 1) := by decide +kernel
theorem dX8_findsGoing_70 : decode cX8_findsGoing 70 = .ok (.iconst 1, 1) := by decide +kernel
theorem dX8_findsGoing_71 : decode cX8_findsGoing 71 = .ok (.istore_n 3, 1) := by decide +kernel
theorem dX8_findsGoing_72 : decode cX8_findsGoing 72 = .ok (.iload_n 3, 1) := by decide +kernel
theorem dX8_findsGoing_73 : decode cX8_findsGoing 73 = .ok (.iconst 1, 1) := by decide +kernel
theorem dX8_findsGoing_74 : decode cX8_findsGoing 74 = .ok (.aload_n 0, 1) := by decide +kernel
theorem dX8_findsGoing_75 : decode cX8_findsGoing 75 = .ok (.getfield 7, 3) := by decide +kernel
theorem dX8_findsGoing_78 : decode cX8_findsGoing 78 = .ok (.iconst 5, 1) := by decide +kernel
theorem dX8_findsGoing_79 : decode cX8_findsGoing 79 = .ok (.iaload, 1) := by decide +kernel
theorem dX8_findsGoing_80 : decode cX8_findsGoing 80 = .ok (.ishl, 1) := by decide +kernel
theorem dX8_findsGoing_81 : decode cX8_findsGoing 81 = .ok (.if_icmp .ge 165, 3) := by decide +kernel
theorem dX8_findsGoing_84 : decode cX8_findsGoing 84 = .ok (.iload_n 3, 1) := by decide +kernel
theorem dX8_findsGoing_85 : decode cX8_findsGoing 85 = .ok (.invokestatic 192, 3) := by decide +kernel
theorem dX8_findsGoing_88 : decode cX8_findsGoing 88 = .ok (.istore 4, 2) := by decide +kernel
theorem dX8_findsGoing_90 : decode cX8_findsGoing 90 = .ok (.iload_n 3, 1) := by decide +kernel
theorem dX8_findsGoing_91 : decode cX8_findsGoing 91 = .ok (.iload_n 3, 1) := by decide +kernel
theorem dX8_findsGoing_92 : decode cX8_findsGoing 92 = .ok (.iconst 1, 1) := by decide +kernel
theorem dX8_findsGoing_93 : decode cX8_findsGoing 93 = .ok (.isub, 1) := by decide +kernel
theorem dX8_findsGoing_94 : decode cX8_findsGoing 94 = .ok (.iand, 1) := by decide +kernel
theorem dX8_findsGoing_95 : decode cX8_findsGoing 95 = .ok (.istore 5, 2) := by decide +kernel
theorem dX8_findsGoing_97 : decode cX8_findsGoing 97 = .ok (.aload_n 0, 1) := by decide +kernel
theorem dX8_findsGoing_98 : decode cX8_findsGoing 98 = .ok (.getfield 40, 3) := by decide +kernel
theorem dX8_findsGoing_101 : decode cX8_findsGoing 101 = .ok (.iload_n 3, 1) := by decide +kernel
theorem dX8_findsGoing_102 : decode cX8_findsGoing 102 = .ok (.aload_n 0, 1) := by decide +kernel
theorem dX8_findsGoing_103 : decode cX8_findsGoing 103 = .ok (.getfield 40, 3) := by decide +kernel
theorem dX8_findsGoing_106 : decode cX8_findsGoing 106 = .ok (.iload 5, 2) := by decide +kernel
theorem dX8_findsGoing_108 : decode cX8_findsGoing 108 = .ok (.baload, 1) := by decide +kernel
theorem dX8_findsGoing_109 : decode cX8_findsGoing 109 = .ok (.ifCond .eq 32, 3) := by decide +kernel
theorem dX8_findsGoing_112 : decode cX8_findsGoing 112 = .ok (.iload_n 2, 1) := by decide +kernel
theorem dX8_findsGoing_113 : decode cX8_findsGoing 113 = .ok (.iload 4, 2) := by decide +kernel
theorem dX8_findsGoing_115 : decode cX8_findsGoing 115 = .ok (.invokestatic 150, 3) := by decide +kernel
theorem dX8_findsGoing_118 : decode cX8_findsGoing 118 = .ok (.ifCond .eq 23, 3) := by decide +kernel
theorem dX8_findsGoing_121 : decode cX8_findsGoing 121 = .ok (.aload_n 0, 1) := by decide +kernel
theorem dX8_findsGoing_122 : decode cX8_findsGoing 122 = .ok (.getfield 7, 3) := by decide +kernel
theorem dX8_findsGoing_125 : decode cX8_findsGoing 125 = .ok (.bipush 36, 2) := by decide +kernel
theorem dX8_findsGoing_127 : decode cX8_findsGoing 127 = .ok (.iload 4, 2) := by decide +kernel
theorem dX8_findsGoing_129 : decode cX8_findsGoing 129 = .ok (.iadd, 1) := by decide +kernel
theorem dX8_findsGoing_130 : decode cX8_findsGoing 130 = .ok (.iaload, 1) := by decide +kernel
theorem dX8_findsGoing_131 : decode cX8_findsGoing 131 = .ok (.iload 5, 2) := by decide +kernel
theorem dX8_findsGoing_133 : decode cX8_findsGoing 133 = .ok (.iand, 1) := by decide +kernel
theorem dX8_findsGoing_134 : decode cX8_findsGoing 134 = .ok (.ifCond .ne 7, 3) := by decide +kernel
theorem dX8_findsGoing_137 : decode cX8_findsGoing 137 = .ok (.iconst 1, 1) := by decide +kernel
theorem dX8_findsGoing_138 : decode cX8_findsGoing 138 = .ok (.goto 4, 3) := by decide +kernel
theorem dX8_findsGoing_141 : decode cX8_findsGoing 141 = .ok (.iconst 0, 1) := by decide +kernel
theorem dX8_findsGoing_142 : decode cX8_findsGoing 142 = .ok (.bastore, 1) := by decide +kernel
theorem dX8_findsGoing_143 : decode cX8_findsGoing 143 = .ok (.aload_n 0, 1) := by decide +kernel
theorem dX8_findsGoing_144 : decode cX8_findsGoing 144 = .ok (.getfield 37, 3) := by decide +kernel
theorem dX8_findsGoing_147 : decode cX8_findsGoing 147 = .ok (.iload_n 3, 1) := by decide +kernel
theorem dX8_findsGoing_148 : decode cX8_findsGoing 148 = .ok (.aload_n 0, 1) := by decide +kernel
theorem dX8_findsGoing_149 : decode cX8_findsGoing 149 = .ok (.getfield 37, 3) := by decide +kernel
theorem dX8_findsGoing_152 : decode cX8_findsGoing 152 = .ok (.iload 5, 2) := by decide +kernel
theorem dX8_findsGoing_154 : decode cX8_findsGoing 154 = .ok (.iaload, 1) := by decide +kernel
theorem dX8_findsGoing_155 : decode cX8_findsGoing 155 = .ok (.aload_n 0, 1) := by decide +kernel
theorem dX8_findsGoing_156 : decode cX8_findsGoing 156 = .ok (.getfield 34, 3) := by decide +kernel
theorem dX8_findsGoing_159 : decode cX8_findsGoing 159 = .ok (.iload 4, 2) := by decide +kernel
theorem dX8_findsGoing_161 : decode cX8_findsGoing 161 = .ok (.iaload, 1) := by decide +kernel
theorem dX8_findsGoing_162 : decode cX8_findsGoing 162 = .ok (.iadd, 1) := by decide +kernel
theorem dX8_findsGoing_163 : decode cX8_findsGoing 163 = .ok (.iastore, 1) := by decide +kernel
theorem dX8_findsGoing_164 : decode cX8_findsGoing 164 = .ok (.aload_n 0, 1) := by decide +kernel
theorem dX8_findsGoing_165 : decode cX8_findsGoing 165 = .ok (.getfield 37, 3) := by decide +kernel
theorem dX8_findsGoing_168 : decode cX8_findsGoing 168 = .ok (.iload_n 3, 1) := by decide +kernel
theorem dX8_findsGoing_169 : decode cX8_findsGoing 169 = .ok (.iaload, 1) := by decide +kernel
theorem dX8_findsGoing_170 : decode cX8_findsGoing 170 = .ok (.aload_n 0, 1) := by decide +kernel
theorem dX8_findsGoing_171 : decode cX8_findsGoing 171 = .ok (.getfield 189, 3) := by decide +kernel
theorem dX8_findsGoing_174 : decode cX8_findsGoing 174 = .ok (.if_icmp .gt 30, 3) := by decide +kernel
theorem dX8_findsGoing_177 : decode cX8_findsGoing 177 = .ok (.aload_n 0, 1) := by decide +kernel
theorem dX8_findsGoing_178 : decode cX8_findsGoing 178 = .ok (.getfield 37, 3) := by decide +kernel
theorem dX8_findsGoing_181 : decode cX8_findsGoing 181 = .ok (.iload_n 3, 1) := by decide +kernel
theorem dX8_findsGoing_182 : decode cX8_findsGoing 182 = .ok (.iaload, 1) := by decide +kernel
theorem dX8_findsGoing_183 : decode cX8_findsGoing 183 = .ok (.aload_n 0, 1) := by decide +kernel
theorem dX8_findsGoing_184 : decode cX8_findsGoing 184 = .ok (.getfield 189, 3) := by decide +kernel
theorem dX8_findsGoing_187 : decode cX8_findsGoing 187 = .ok (.if_icmp .ne 21, 3) := by decide +kernel
theorem dX8_findsGoing_190 : decode cX8_findsGoing 190 = .ok (.iload_n 3, 1) := by decide +kernel
theorem dX8_findsGoing_191 : decode cX8_findsGoing 191 = .ok (.invokestatic 146, 3) := by decide +kernel
theorem dX8_findsGoing_194 : decode cX8_findsGoing 194 = .ok (.aload_n 0, 1) := by decide +kernel
theorem dX8_findsGoing_195 : decode cX8_findsGoing 195 = .ok (.getfield 186, 3) := by decide +kernel
theorem dX8_findsGoing_198 : decode cX8_findsGoing 198 = .ok (.invokestatic 146, 3) := by decide +kernel
theorem dX8_findsGoing_201 : decode cX8_findsGoing 201 = .ok (.if_icmp .ge 7, 3) := by decide +kernel
theorem dX8_findsGoing_204 : decode cX8_findsGoing 204 = .ok (.iconst 1, 1) := by decide +kernel
theorem dX8_findsGoing_205 : decode cX8_findsGoing 205 = .ok (.goto 4, 3) := by decide +kernel
theorem dX8_findsGoing_208 : decode cX8_findsGoing 208 = .ok (.iconst 0, 1) := by decide +kernel
theorem dX8_findsGoing_209 : decode cX8_findsGoing 209 = .ok (.istore 6, 2) := by decide +kernel
theorem dX8_findsGoing_211 : decode cX8_findsGoing 211 = .ok (.aload_n 0, 1) := by decide +kernel
theorem dX8_findsGoing_212 : decode cX8_findsGoing 212 = .ok (.getfield 40, 3) := by decide +kernel
theorem dX8_findsGoing_215 : decode cX8_findsGoing 215 = .ok (.iload_n 3, 1) := by decide +kernel
theorem dX8_findsGoing_216 : decode cX8_findsGoing 216 = .ok (.baload, 1) := by decide +kernel
theorem dX8_findsGoing_217 : decode cX8_findsGoing 217 = .ok (.ifCond .eq 23, 3) := by decide +kernel
theorem dX8_findsGoing_220 : decode cX8_findsGoing 220 = .ok (.iload 6, 2) := by decide +kernel
theorem dX8_findsGoing_222 : decode cX8_findsGoing 222 = .ok (.ifCond .eq 18, 3) := by decide +kernel
theorem dX8_findsGoing_225 : decode cX8_findsGoing 225 = .ok (.aload_n 0, 1) := by decide +kernel
theorem dX8_findsGoing_226 : decode cX8_findsGoing 226 = .ok (.iload_n 3, 1) := by decide +kernel
theorem dX8_findsGoing_227 : decode cX8_findsGoing 227 = .ok (.putfield 186, 3) := by decide +kernel
theorem dX8_findsGoing_230 : decode cX8_findsGoing 230 = .ok (.aload_n 0, 1) := by decide +kernel
theorem dX8_findsGoing_231 : decode cX8_findsGoing 231 = .ok (.aload_n 0, 1) := by decide +kernel
theorem dX8_findsGoing_232 : decode cX8_findsGoing 232 = .ok (.getfield 37, 3) := by decide +kernel
theorem dX8_findsGoing_235 : decode cX8_findsGoing 235 = .ok (.iload_n 3, 1) := by decide +kernel
theorem dX8_findsGoing_236 : decode cX8_findsGoing 236 = .ok (.iaload, 1) := by decide +kernel
theorem dX8_findsGoing_237 : decode cX8_findsGoing 237 = .ok (.putfield 189, 3) := by decide +kernel
theorem dX8_findsGoing_240 : decode cX8_findsGoing 240 = .ok (.iinc 3 1, 3) := by decide +kernel
theorem dX8_findsGoing_243 : decode cX8_findsGoing 243 = .ok (.goto (-171), 3) := by decide +kernel
theorem dX8_findsGoing_246 : decode cX8_findsGoing 246 = .ok (.return_, 1) := by decide +kernel
theorem dX8_findsAll_0 : decode cX8_findsAll 0 = .ok (.aload_n 0, 1) := by decide +kernel
theorem dX8_findsAll_1 : decode cX8_findsAll 1 = .ok (.invokevirtual 195, 3) := by decide +kernel
theorem dX8_findsAll_4 : decode cX8_findsAll 4 = .ok (.aload_n 0, 1) := by decide +kernel
theorem dX8_findsAll_5 : decode cX8_findsAll 5 = .ok (.bipush (-4), 2) := by decide +kernel
theorem dX8_findsAll_7 : decode cX8_findsAll 7 = .ok (.invokevirtual 198, 3) := by decide +kernel
theorem dX8_findsAll_10 : decode cX8_findsAll 10 = .ok (.return_, 1) := by decide +kernel
theorem dX8_carries_0 : decode cX8_carries 0 = .ok (.iconst 0, 1) := by decide +kernel
theorem dX8_carries_1 : decode cX8_carries 1 = .ok (.istore_n 1, 1) := by decide +kernel
theorem dX8_carries_2 : decode cX8_carries 2 = .ok (.iconst 0, 1) := by decide +kernel
theorem dX8_carries_3 : decode cX8_carries 3 = .ok (.istore_n 2, 1) := by decide +kernel
theorem dX8_carries_4 : decode cX8_carries 4 = .ok (.iload_n 2, 1) := by decide +kernel
theorem dX8_carries_5 : decode cX8_carries 5 = .ok (.aload_n 0, 1) := by decide +kernel
theorem dX8_carries_6 : decode cX8_carries 6 = .ok (.getfield 7, 3) := by decide +kernel
theorem dX8_carries_9 : decode cX8_carries 9 = .ok (.iconst 5, 1) := by decide +kernel
theorem dX8_carries_10 : decode cX8_carries 10 = .ok (.iaload, 1) := by decide +kernel
theorem dX8_carries_11 : decode cX8_carries 11 = .ok (.if_icmp .ge 106, 3) := by decide +kernel
theorem dX8_carries_14 : decode cX8_carries 14 = .ok (.aload_n 0, 1) := by decide +kernel
theorem dX8_carries_15 : decode cX8_carries 15 = .ok (.getfield 186, 3) := by decide +kernel
theorem dX8_carries_18 : decode cX8_carries 18 = .ok (.iload_n 2, 1) := by decide +kernel
theorem dX8_carries_19 : decode cX8_carries 19 = .ok (.invokestatic 150, 3) := by decide +kernel
theorem dX8_carries_22 : decode cX8_carries 22 = .ok (.ifCond .eq 89, 3) := by decide +kernel
theorem dX8_carries_25 : decode cX8_carries 25 = .ok (.aload_n 0, 1) := by decide +kernel
theorem dX8_carries_26 : decode cX8_carries 26 = .ok (.iload_n 2, 1) := by decide +kernel
theorem dX8_carries_27 : decode cX8_carries 27 = .ok (.invokevirtual 183, 3) := by decide +kernel
theorem dX8_carries_30 : decode cX8_carries 30 = .ok (.istore_n 3, 1) := by decide +kernel
theorem dX8_carries_31 : decode cX8_carries 31 = .ok (.iconst 0, 1) := by decide +kernel
theorem dX8_carries_32 : decode cX8_carries 32 = .ok (.istore 4, 2) := by decide +kernel
theorem dX8_carries_34 : decode cX8_carries 34 = .ok (.iload 4, 2) := by decide +kernel
theorem dX8_carries_36 : decode cX8_carries 36 = .ok (.iload_n 3, 1) := by decide +kernel
theorem dX8_carries_37 : decode cX8_carries 37 = .ok (.if_icmp .ge 74, 3) := by decide +kernel
theorem dX8_carries_40 : decode cX8_carries 40 = .ok (.aload_n 0, 1) := by decide +kernel
theorem dX8_carries_41 : decode cX8_carries 41 = .ok (.aload_n 0, 1) := by decide +kernel
theorem dX8_carries_42 : decode cX8_carries 42 = .ok (.iload_n 2, 1) := by decide +kernel
theorem dX8_carries_43 : decode cX8_carries 43 = .ok (.invokevirtual 168, 3) := by decide +kernel
theorem dX8_carries_46 : decode cX8_carries 46 = .ok (.aload_n 0, 1) := by decide +kernel
theorem dX8_carries_47 : decode cX8_carries 47 = .ok (.getfield 31, 3) := by decide +kernel
theorem dX8_carries_50 : decode cX8_carries 50 = .ok (.iload_n 2, 1) := by decide +kernel
theorem dX8_carries_51 : decode cX8_carries 51 = .ok (.iaload, 1) := by decide +kernel
theorem dX8_carries_52 : decode cX8_carries 52 = .ok (.invokevirtual 161, 3) := by decide +kernel
theorem dX8_carries_55 : decode cX8_carries 55 = .ok (.ifCond .le 56, 3) := by decide +kernel
theorem dX8_carries_58 : decode cX8_carries 58 = .ok (.aload_n 0, 1) := by decide +kernel
theorem dX8_carries_59 : decode cX8_carries 59 = .ok (.getfield 44, 3) := by decide +kernel
theorem dX8_carries_62 : decode cX8_carries 62 = .ok (.iload_n 1, 1) := by decide +kernel
theorem dX8_carries_63 : decode cX8_carries 63 = .ok (.aload_n 0, 1) := by decide +kernel
theorem dX8_carries_64 : decode cX8_carries 64 = .ok (.iload_n 2, 1) := by decide +kernel
theorem dX8_carries_65 : decode cX8_carries 65 = .ok (.invokevirtual 171, 3) := by decide +kernel
theorem dX8_carries_68 : decode cX8_carries 68 = .ok (.iastore, 1) := by decide +kernel
theorem dX8_carries_69 : decode cX8_carries 69 = .ok (.aload_n 0, 1) := by decide +kernel
theorem dX8_carries_70 : decode cX8_carries 70 = .ok (.getfield 47, 3) := by decide +kernel
theorem dX8_carries_73 : decode cX8_carries 73 = .ok (.iload_n 1, 1) := by decide +kernel
theorem dX8_carries_74 : decode cX8_carries 74 = .ok (.aload_n 0, 1) := by decide +kernel
theorem dX8_carries_75 : decode cX8_carries 75 = .ok (.getfield 31, 3) := by decide +kernel
theorem dX8_carries_78 : decode cX8_carries 78 = .ok (.iload_n 2, 1) := by decide +kernel
theorem dX8_carries_79 : decode cX8_carries 79 = .ok (.iaload, 1) := by decide +kernel
theorem dX8_carries_80 : decode cX8_carries 80 = .ok (.iastore, 1) := by decide +kernel
theorem dX8_carries_81 : decode cX8_carries 81 = .ok (.aload_n 0, 1) := by decide +kernel
theorem dX8_carries_82 : decode cX8_carries 82 = .ok (.getfield 50, 3) := by decide +kernel
theorem dX8_carries_85 : decode cX8_carries 85 = .ok (.iload_n 1, 1) := by decide +kernel
theorem dX8_carries_86 : decode cX8_carries 86 = .ok (.aload_n 0, 1) := by decide +kernel
theorem dX8_carries_87 : decode cX8_carries 87 = .ok (.aload_n 0, 1) := by decide +kernel
theorem dX8_carries_88 : decode cX8_carries 88 = .ok (.iload_n 2, 1) := by decide +kernel
theorem dX8_carries_89 : decode cX8_carries 89 = .ok (.invokevirtual 168, 3) := by decide +kernel
theorem dX8_carries_92 : decode cX8_carries 92 = .ok (.aload_n 0, 1) := by decide +kernel
theorem dX8_carries_93 : decode cX8_carries 93 = .ok (.getfield 31, 3) := by decide +kernel
theorem dX8_carries_96 : decode cX8_carries 96 = .ok (.iload_n 2, 1) := by decide +kernel
theorem dX8_carries_97 : decode cX8_carries 97 = .ok (.iaload, 1) := by decide +kernel
theorem dX8_carries_98 : decode cX8_carries 98 = .ok (.invokevirtual 202, 3) := by decide +kernel
theorem dX8_carries_101 : decode cX8_carries 101 = .ok (.iastore, 1) := by decide +kernel
theorem dX8_carries_102 : decode cX8_carries 102 = .ok (.iinc 1 1, 3) := by decide +kernel
theorem dX8_carries_105 : decode cX8_carries 105 = .ok (.iinc 4 1, 3) := by decide +kernel
theorem dX8_carries_108 : decode cX8_carries 108 = .ok (.goto (-74), 3) := by decide +kernel
theorem dX8_carries_111 : decode cX8_carries 111 = .ok (.iinc 2 1, 3) := by decide +kernel
theorem dX8_carries_114 : decode cX8_carries 114 = .ok (.goto (-110), 3) := by decide +kernel
theorem dX8_carries_117 : decode cX8_carries 117 = .ok (.iload_n 1, 1) := by decide +kernel
theorem dX8_carries_118 : decode cX8_carries 118 = .ok (.ireturn, 1) := by decide +kernel
theorem dX8_isThere_0 : decode cX8_isThere 0 = .ok (.aload_n 0, 1) := by decide +kernel
theorem dX8_isThere_1 : decode cX8_isThere 1 = .ok (.getfield 7, 3) := by decide +kernel
theorem dX8_isThere_4 : decode cX8_isThere 4 = .ok (.bipush 66, 2) := by decide +kernel
theorem dX8_isThere_6 : decode cX8_isThere 6 = .ok (.iaload, 1) := by decide +kernel
theorem dX8_isThere_7 : decode cX8_isThere 7 = .ok (.iload_n 2, 1) := by decide +kernel
theorem dX8_isThere_8 : decode cX8_isThere 8 = .ok (.isub, 1) := by decide +kernel
theorem dX8_isThere_9 : decode cX8_isThere 9 = .ok (.istore_n 3, 1) := by decide +kernel
theorem dX8_isThere_10 : decode cX8_isThere 10 = .ok (.aload_n 0, 1) := by decide +kernel
theorem dX8_isThere_11 : decode cX8_isThere 11 = .ok (.getfield 7, 3) := by decide +kernel
theorem dX8_isThere_14 : decode cX8_isThere 14 = .ok (.bipush 73, 2) := by decide +kernel
theorem dX8_isThere_16 : decode cX8_isThere 16 = .ok (.iload_n 1, 1) := by decide +kernel
theorem dX8_isThere_17 : decode cX8_isThere 17 = .ok (.iadd, 1) := by decide +kernel
theorem dX8_isThere_18 : decode cX8_isThere 18 = .ok (.aload_n 0, 1) := by decide +kernel
theorem dX8_isThere_19 : decode cX8_isThere 19 = .ok (.getfield 7, 3) := by decide +kernel
theorem dX8_isThere_22 : decode cX8_isThere 22 = .ok (.bipush 67, 2) := by decide +kernel
theorem dX8_isThere_24 : decode cX8_isThere 24 = .ok (.iload_n 1, 1) := by decide +kernel
theorem dX8_isThere_25 : decode cX8_isThere 25 = .ok (.iadd, 1) := by decide +kernel
theorem dX8_isThere_26 : decode cX8_isThere 26 = .ok (.iaload, 1) := by decide +kernel
theorem dX8_isThere_27 : decode cX8_isThere 27 = .ok (.ifCond .eq 16, 3) := by decide +kernel
theorem dX8_isThere_30 : decode cX8_isThere 30 = .ok (.iload_n 3, 1) := by decide +kernel
theorem dX8_isThere_31 : decode cX8_isThere 31 = .ok (.aload_n 0, 1) := by decide +kernel
theorem dX8_isThere_32 : decode cX8_isThere 32 = .ok (.getfield 7, 3) := by decide +kernel
theorem dX8_isThere_35 : decode cX8_isThere 35 = .ok (.bipush 73, 2) := by decide +kernel
theorem dX8_isThere_37 : decode cX8_isThere 37 = .ok (.iload_n 1, 1) := by decide +kernel
theorem dX8_isThere_38 : decode cX8_isThere 38 = .ok (.iadd, 1) := by decide +kernel
theorem dX8_isThere_39 : decode cX8_isThere 39 = .ok (.iaload, 1) := by decide +kernel
theorem dX8_isThere_40 : decode cX8_isThere 40 = .ok (.if_icmp .le 7, 3) := by decide +kernel
theorem dX8_isThere_43 : decode cX8_isThere 43 = .ok (.iload_n 3, 1) := by decide +kernel
theorem dX8_isThere_44 : decode cX8_isThere 44 = .ok (.goto 12, 3) := by decide +kernel
theorem dX8_isThere_47 : decode cX8_isThere 47 = .ok (.aload_n 0, 1) := by decide +kernel
theorem dX8_isThere_48 : decode cX8_isThere 48 = .ok (.getfield 7, 3) := by decide +kernel
theorem dX8_isThere_51 : decode cX8_isThere 51 = .ok (.bipush 73, 2) := by decide +kernel
theorem dX8_isThere_53 : decode cX8_isThere 53 = .ok (.iload_n 1, 1) := by decide +kernel
theorem dX8_isThere_54 : decode cX8_isThere 54 = .ok (.iadd, 1) := by decide +kernel
theorem dX8_isThere_55 : decode cX8_isThere 55 = .ok (.iaload, 1) := by decide +kernel
theorem dX8_isThere_56 : decode cX8_isThere 56 = .ok (.iastore, 1) := by decide +kernel
theorem dX8_isThere_57 : decode cX8_isThere 57 = .ok (.aload_n 0, 1) := by decide +kernel
theorem dX8_isThere_58 : decode cX8_isThere 58 = .ok (.getfield 7, 3) := by decide +kernel
theorem dX8_isThere_61 : decode cX8_isThere 61 = .ok (.bipush 67, 2) := by decide +kernel
theorem dX8_isThere_63 : decode cX8_isThere 63 = .ok (.iload_n 1, 1) := by decide +kernel
theorem dX8_isThere_64 : decode cX8_isThere 64 = .ok (.iadd, 1) := by decide +kernel
theorem dX8_isThere_65 : decode cX8_isThere 65 = .ok (.dup2, 1) := by decide +kernel
theorem dX8_isThere_66 : decode cX8_isThere 66 = .ok (.iaload, 1) := by decide +kernel
theorem dX8_isThere_67 : decode cX8_isThere 67 = .ok (.iconst 1, 1) := by decide +kernel
theorem dX8_isThere_68 : decode cX8_isThere 68 = .ok (.iadd, 1) := by decide +kernel
theorem dX8_isThere_69 : decode cX8_isThere 69 = .ok (.iastore, 1) := by decide +kernel
theorem dX8_isThere_70 : decode cX8_isThere 70 = .ok (.aload_n 0, 1) := by decide +kernel
theorem dX8_isThere_71 : decode cX8_isThere 71 = .ok (.getfield 7, 3) := by decide +kernel
theorem dX8_isThere_74 : decode cX8_isThere 74 = .ok (.bipush 70, 2) := by decide +kernel
theorem dX8_isThere_76 : decode cX8_isThere 76 = .ok (.iload_n 1, 1) := by decide +kernel
theorem dX8_isThere_77 : decode cX8_isThere 77 = .ok (.iadd, 1) := by decide +kernel
theorem dX8_isThere_78 : decode cX8_isThere 78 = .ok (.dup2, 1) := by decide +kernel
theorem dX8_isThere_79 : decode cX8_isThere 79 = .ok (.iaload, 1) := by decide +kernel
theorem dX8_isThere_80 : decode cX8_isThere 80 = .ok (.iload_n 3, 1) := by decide +kernel
theorem dX8_isThere_81 : decode cX8_isThere 81 = .ok (.iadd, 1) := by decide +kernel
theorem dX8_isThere_82 : decode cX8_isThere 82 = .ok (.iastore, 1) := by decide +kernel
theorem dX8_isThere_83 : decode cX8_isThere 83 = .ok (.return_, 1) := by decide +kernel
theorem dX8_goesOn_0 : decode cX8_goesOn 0 = .ok (.aload_n 0, 1) := by decide +kernel
theorem dX8_goesOn_1 : decode cX8_goesOn 1 = .ok (.invokevirtual 195, 3) := by decide +kernel
theorem dX8_goesOn_4 : decode cX8_goesOn 4 = .ok (.aload_n 0, 1) := by decide +kernel
theorem dX8_goesOn_5 : decode cX8_goesOn 5 = .ok (.iload_n 1, 1) := by decide +kernel
theorem dX8_goesOn_6 : decode cX8_goesOn 6 = .ok (.invokevirtual 198, 3) := by decide +kernel
theorem dX8_goesOn_9 : decode cX8_goesOn 9 = .ok (.aload_n 0, 1) := by decide +kernel
theorem dX8_goesOn_10 : decode cX8_goesOn 10 = .ok (.invokevirtual 205, 3) := by decide +kernel
theorem dX8_goesOn_13 : decode cX8_goesOn 13 = .ok (.istore_n 2, 1) := by decide +kernel
theorem dX8_goesOn_14 : decode cX8_goesOn 14 = .ok (.aload_n 0, 1) := by decide +kernel
theorem dX8_goesOn_15 : decode cX8_goesOn 15 = .ok (.getfield 7, 3) := by decide +kernel
theorem dX8_goesOn_18 : decode cX8_goesOn 18 = .ok (.bipush 66, 2) := by decide +kernel
theorem dX8_goesOn_20 : decode cX8_goesOn 20 = .ok (.dup2, 1) := by decide +kernel
theorem dX8_goesOn_21 : decode cX8_goesOn 21 = .ok (.iaload, 1) := by decide +kernel
theorem dX8_goesOn_22 : decode cX8_goesOn 22 = .ok (.iconst 1, 1) := by decide +kernel
theorem dX8_goesOn_23 : decode cX8_goesOn 23 = .ok (.iadd, 1) := by decide +kernel
theorem dX8_goesOn_24 : decode cX8_goesOn 24 = .ok (.iastore, 1) := by decide +kernel
theorem dX8_goesOn_25 : decode cX8_goesOn 25 = .ok (.iconst 0, 1) := by decide +kernel
theorem dX8_goesOn_26 : decode cX8_goesOn 26 = .ok (.istore_n 3, 1) := by decide +kernel
theorem dX8_goesOn_27 : decode cX8_goesOn 27 = .ok (.iload_n 3, 1) := by decide +kernel
theorem dX8_goesOn_28 : decode cX8_goesOn 28 = .ok (.iload_n 2, 1) := by decide +kernel
theorem dX8_goesOn_29 : decode cX8_goesOn 29 = .ok (.if_icmp .ge 82, 3) := by decide +kernel
theorem dX8_goesOn_32 : decode cX8_goesOn 32 = .ok (.aload_n 0, 1) := by decide +kernel
theorem dX8_goesOn_33 : decode cX8_goesOn 33 = .ok (.getfield 47, 3) := by decide +kernel
theorem dX8_goesOn_36 : decode cX8_goesOn 36 = .ok (.iload_n 3, 1) := by decide +kernel
theorem dX8_goesOn_37 : decode cX8_goesOn 37 = .ok (.iaload, 1) := by decide +kernel
theorem dX8_goesOn_38 : decode cX8_goesOn 38 = .ok (.istore 4, 2) := by decide +kernel
theorem dX8_goesOn_40 : decode cX8_goesOn 40 = .ok (.aload_n 0, 1) := by decide +kernel
theorem dX8_goesOn_41 : decode cX8_goesOn 41 = .ok (.getfield 44, 3) := by decide +kernel
theorem dX8_goesOn_44 : decode cX8_goesOn 44 = .ok (.iload_n 3, 1) := by decide +kernel
theorem dX8_goesOn_45 : decode cX8_goesOn 45 = .ok (.iaload, 1) := by decide +kernel
theorem dX8_goesOn_46 : decode cX8_goesOn 46 = .ok (.aload_n 0, 1) := by decide +kernel
theorem dX8_goesOn_47 : decode cX8_goesOn 47 = .ok (.getfield 7, 3) := by decide +kernel
theorem dX8_goesOn_50 : decode cX8_goesOn 50 = .ok (.iconst 2, 1) := by decide +kernel
theorem dX8_goesOn_51 : decode cX8_goesOn 51 = .ok (.iload 4, 2) := by decide +kernel
theorem dX8_goesOn_53 : decode cX8_goesOn 53 = .ok (.iadd, 1) := by decide +kernel
theorem dX8_goesOn_54 : decode cX8_goesOn 54 = .ok (.iaload, 1) := by decide +kernel
theorem dX8_goesOn_55 : decode cX8_goesOn 55 = .ok (.if_icmp .ne 18, 3) := by decide +kernel
theorem dX8_goesOn_58 : decode cX8_goesOn 58 = .ok (.aload_n 0, 1) := by decide +kernel
theorem dX8_goesOn_59 : decode cX8_goesOn 59 = .ok (.iload 4, 2) := by decide +kernel
theorem dX8_goesOn_61 : decode cX8_goesOn 61 = .ok (.aload_n 0, 1) := by decide +kernel
theorem dX8_goesOn_62 : decode cX8_goesOn 62 = .ok (.getfield 50, 3) := by decide +kernel
theorem dX8_goesOn_65 : decode cX8_goesOn 65 = .ok (.iload_n 3, 1) := by decide +kernel
theorem dX8_goesOn_66 : decode cX8_goesOn 66 = .ok (.iaload, 1) := by decide +kernel
theorem dX8_goesOn_67 : decode cX8_goesOn 67 = .ok (.invokevirtual 208, 3) := by decide +kernel
theorem dX8_goesOn_70 : decode cX8_goesOn 70 = .ok (.goto 35, 3) := by decide +kernel
theorem dX8_goesOn_73 : decode cX8_goesOn 73 = .ok (.aload_n 0, 1) := by decide +kernel
theorem dX8_goesOn_74 : decode cX8_goesOn 74 = .ok (.aload_n 0, 1) := by decide +kernel
theorem dX8_goesOn_75 : decode cX8_goesOn 75 = .ok (.getfield 44, 3) := by decide +kernel
theorem dX8_goesOn_78 : decode cX8_goesOn 78 = .ok (.iload_n 3, 1) := by decide +kernel
theorem dX8_goesOn_79 : decode cX8_goesOn 79 = .ok (.iaload, 1) := by decide +kernel
theorem dX8_goesOn_80 : decode cX8_goesOn 80 = .ok (.iload 4, 2) := by decide +kernel
theorem dX8_goesOn_82 : decode cX8_goesOn 82 = .ok (.aload_n 0, 1) := by decide +kernel
theorem dX8_goesOn_83 : decode cX8_goesOn 83 = .ok (.getfield 50, 3) := by decide +kernel
theorem dX8_goesOn_86 : decode cX8_goesOn 86 = .ok (.iload_n 3, 1) := by decide +kernel
theorem dX8_goesOn_87 : decode cX8_goesOn 87 = .ok (.iaload, 1) := by decide +kernel
theorem dX8_goesOn_88 : decode cX8_goesOn 88 = .ok (.invokevirtual 164, 3) := by decide +kernel
theorem dX8_goesOn_91 : decode cX8_goesOn 91 = .ok (.ifCond .ne 14, 3) := by decide +kernel
theorem dX8_goesOn_94 : decode cX8_goesOn 94 = .ok (.aload_n 0, 1) := by decide +kernel
theorem dX8_goesOn_95 : decode cX8_goesOn 95 = .ok (.getfield 7, 3) := by decide +kernel
theorem dX8_goesOn_98 : decode cX8_goesOn 98 = .ok (.bipush 76, 2) := by decide +kernel
theorem dX8_goesOn_100 : decode cX8_goesOn 100 = .ok (.dup2, 1) := by decide +kernel
theorem dX8_goesOn_101 : decode cX8_goesOn 101 = .ok (.iaload, 1) := by decide +kernel
theorem dX8_goesOn_102 : decode cX8_goesOn 102 = .ok (.iconst 1, 1) := by decide +kernel
theorem dX8_goesOn_103 : decode cX8_goesOn 103 = .ok (.iadd, 1) := by decide +kernel
theorem dX8_goesOn_104 : decode cX8_goesOn 104 = .ok (.iastore, 1) := by decide +kernel
theorem dX8_goesOn_105 : decode cX8_goesOn 105 = .ok (.iinc 3 1, 3) := by decide +kernel
theorem dX8_goesOn_108 : decode cX8_goesOn 108 = .ok (.goto (-81), 3) := by decide +kernel
theorem dX8_goesOn_111 : decode cX8_goesOn 111 = .ok (.iconst 0, 1) := by decide +kernel
theorem dX8_goesOn_112 : decode cX8_goesOn 112 = .ok (.istore_n 3, 1) := by decide +kernel
theorem dX8_goesOn_113 : decode cX8_goesOn 113 = .ok (.iload_n 3, 1) := by decide +kernel
theorem dX8_goesOn_114 : decode cX8_goesOn 114 = .ok (.aload_n 0, 1) := by decide +kernel
theorem dX8_goesOn_115 : decode cX8_goesOn 115 = .ok (.getfield 7, 3) := by decide +kernel
theorem dX8_goesOn_118 : decode cX8_goesOn 118 = .ok (.iconst 0, 1) := by decide +kernel
theorem dX8_goesOn_119 : decode cX8_goesOn 119 = .ok (.iaload, 1) := by decide +kernel
theorem dX8_goesOn_120 : decode cX8_goesOn 120 = .ok (.if_icmp .ge 86, 3) := by decide +kernel
theorem dX8_goesOn_123 : decode cX8_goesOn 123 = .ok (.iconst 0, 1) := by decide +kernel
theorem dX8_goesOn_124 : decode cX8_goesOn 124 = .ok (.istore 4, 2) := by decide +kernel
theorem dX8_goesOn_126 : decode cX8_goesOn 126 = .ok (.iload 4, 2) := by decide +kernel
theorem dX8_goesOn_128 : decode cX8_goesOn 128 = .ok (.aload_n 0, 1) := by decide +kernel
theorem dX8_goesOn_129 : decode cX8_goesOn 129 = .ok (.getfield 7, 3) := by decide +kernel
theorem dX8_goesOn_132 : decode cX8_goesOn 132 = .ok (.iconst 1, 1) := by decide +kernel
theorem dX8_goesOn_133 : decode cX8_goesOn 133 = .ok (.iaload, 1) := by decide +kernel
theorem dX8_goesOn_134 : decode cX8_goesOn 134 = .ok (.if_icmp .ge 66, 3) := by decide +kernel
theorem dX8_goesOn_137 : decode cX8_goesOn 137 = .ok (.iconst 0, 1) := by decide +kernel
theorem dX8_goesOn_138 : decode cX8_goesOn 138 = .ok (.istore 5, 2) := by decide +kernel
theorem dX8_goesOn_140 : decode cX8_goesOn 140 = .ok (.iload 5, 2) := by decide +kernel
theorem dX8_goesOn_142 : decode cX8_goesOn 142 = .ok (.aload_n 0, 1) := by decide +kernel
theorem dX8_goesOn_143 : decode cX8_goesOn 143 = .ok (.getfield 53, 3) := by decide +kernel
theorem dX8_goesOn_146 : decode cX8_goesOn 146 = .ok (.iconst 3, 1) := by decide +kernel
theorem dX8_goesOn_147 : decode cX8_goesOn 147 = .ok (.iload_n 3, 1) := by decide +kernel
theorem dX8_goesOn_148 : decode cX8_goesOn 148 = .ok (.imul, 1) := by decide +kernel
theorem dX8_goesOn_149 : decode cX8_goesOn 149 = .ok (.iload 4, 2) := by decide +kernel
theorem dX8_goesOn_151 : decode cX8_goesOn 151 = .ok (.iadd, 1) := by decide +kernel
theorem dX8_goesOn_152 : decode cX8_goesOn 152 = .ok (.iaload, 1) := by decide +kernel
theorem dX8_goesOn_153 : decode cX8_goesOn 153 = .ok (.if_icmp .ge 41, 3) := by decide +kernel
theorem dX8_goesOn_156 : decode cX8_goesOn 156 = .ok (.aload_n 0, 1) := by decide +kernel
theorem dX8_goesOn_157 : decode cX8_goesOn 157 = .ok (.getfield 7, 3) := by decide +kernel
theorem dX8_goesOn_160 : decode cX8_goesOn 160 = .ok (.bipush 76, 2) := by decide +kernel
theorem dX8_goesOn_162 : decode cX8_goesOn 162 = .ok (.dup2, 1) := by decide +kernel
theorem dX8_goesOn_163 : decode cX8_goesOn 163 = .ok (.iaload, 1) := by decide +kernel
theorem dX8_goesOn_164 : decode cX8_goesOn 164 = .ok (.aload_n 0, 1) := by decide +kernel
theorem dX8_goesOn_165 : decode cX8_goesOn 165 = .ok (.iload_n 3, 1) := by decide +kernel
theorem dX8_goesOn_166 : decode cX8_goesOn 166 = .ok (.iload 4, 2) := by decide +kernel
theorem dX8_goesOn_168 : decode cX8_goesOn 168 = .ok (.aload_n 0, 1) := by decide +kernel
theorem dX8_goesOn_169 : decode cX8_goesOn 169 = .ok (.getfield 7, 3) := by decide +kernel
theorem dX8_goesOn_172 : decode cX8_goesOn 172 = .ok (.bipush 66, 2) := by decide +kernel
theorem dX8_goesOn_174 : decode cX8_goesOn 174 = .ok (.iaload, 1) := by decide +kernel
theorem dX8_goesOn_175 : decode cX8_goesOn 175 = .ok (.invokevirtual 164, 3) := by decide +kernel
theorem dX8_goesOn_178 : decode cX8_goesOn 178 = .ok (.ifCond .eq 7, 3) := by decide +kernel
theorem dX8_goesOn_181 : decode cX8_goesOn 181 = .ok (.iconst 0, 1) := by decide +kernel
theorem dX8_goesOn_182 : decode cX8_goesOn 182 = .ok (.goto 4, 3) := by decide +kernel
theorem dX8_goesOn_185 : decode cX8_goesOn 185 = .ok (.iconst 1, 1) := by decide +kernel
theorem dX8_goesOn_186 : decode cX8_goesOn 186 = .ok (.iadd, 1) := by decide +kernel
theorem dX8_goesOn_187 : decode cX8_goesOn 187 = .ok (.iastore, 1) := by decide +kernel
theorem dX8_goesOn_188 : decode cX8_goesOn 188 = .ok (.iinc 5 1, 3) := by decide +kernel
theorem dX8_goesOn_191 : decode cX8_goesOn 191 = .ok (.goto (-51), 3) := by decide +kernel
theorem dX8_goesOn_194 : decode cX8_goesOn 194 = .ok (.iinc 4 1, 3) := by decide +kernel
theorem dX8_goesOn_197 : decode cX8_goesOn 197 = .ok (.goto (-71), 3) := by decide +kernel
theorem dX8_goesOn_200 : decode cX8_goesOn 200 = .ok (.iinc 3 1, 3) := by decide +kernel
theorem dX8_goesOn_203 : decode cX8_goesOn 203 = .ok (.goto (-90), 3) := by decide +kernel
theorem dX8_goesOn_206 : decode cX8_goesOn 206 = .ok (.return_, 1) := by decide +kernel
theorem dX8_laysFeeds_0 : decode cX8_laysFeeds 0 = .ok (.iconst 0, 1) := by decide +kernel
theorem dX8_laysFeeds_1 : decode cX8_laysFeeds 1 = .ok (.istore_n 1, 1) := by decide +kernel
theorem dX8_laysFeeds_2 : decode cX8_laysFeeds 2 = .ok (.iload_n 1, 1) := by decide +kernel
theorem dX8_laysFeeds_3 : decode cX8_laysFeeds 3 = .ok (.bipush 18, 2) := by decide +kernel
theorem dX8_laysFeeds_5 : decode cX8_laysFeeds 5 = .ok (.if_icmp .ge 24, 3) := by decide +kernel
theorem dX8_laysFeeds_8 : decode cX8_laysFeeds 8 = .ok (.aload_n 0, 1) := by decide +kernel
theorem dX8_laysFeeds_9 : decode cX8_laysFeeds 9 = .ok (.getfield 53, 3) := by decide +kernel
theorem dX8_laysFeeds_12 : decode cX8_laysFeeds 12 = .ok (.iload_n 1, 1) := by decide +kernel
theorem dX8_laysFeeds_13 : decode cX8_laysFeeds 13 = .ok (.aload_n 0, 1) := by decide +kernel
theorem dX8_laysFeeds_14 : decode cX8_laysFeeds 14 = .ok (.getfield 7, 3) := by decide +kernel
theorem dX8_laysFeeds_17 : decode cX8_laysFeeds 17 = .ok (.bipush 46, 2) := by decide +kernel
theorem dX8_laysFeeds_19 : decode cX8_laysFeeds 19 = .ok (.iload_n 1, 1) := by decide +kernel
theorem dX8_laysFeeds_20 : decode cX8_laysFeeds 20 = .ok (.iadd, 1) := by decide +kernel
theorem dX8_laysFeeds_21 : decode cX8_laysFeeds 21 = .ok (.iaload, 1) := by decide +kernel
theorem dX8_laysFeeds_22 : decode cX8_laysFeeds 22 = .ok (.iastore, 1) := by decide +kernel
theorem dX8_laysFeeds_23 : decode cX8_laysFeeds 23 = .ok (.iinc 1 1, 3) := by decide +kernel
theorem dX8_laysFeeds_26 : decode cX8_laysFeeds 26 = .ok (.goto (-24), 3) := by decide +kernel
theorem dX8_laysFeeds_29 : decode cX8_laysFeeds 29 = .ok (.return_, 1) := by decide +kernel
theorem dX8_drawsFeeds_0 : decode cX8_drawsFeeds 0 = .ok (.iconst 0, 1) := by decide +kernel
theorem dX8_drawsFeeds_1 : decode cX8_drawsFeeds 1 = .ok (.istore_n 3, 1) := by decide +kernel
theorem dX8_drawsFeeds_2 : decode cX8_drawsFeeds 2 = .ok (.iload_n 3, 1) := by decide +kernel
theorem dX8_drawsFeeds_3 : decode cX8_drawsFeeds 3 = .ok (.aload_n 0, 1) := by decide +kernel
theorem dX8_drawsFeeds_4 : decode cX8_drawsFeeds 4 = .ok (.getfield 7, 3) := by decide +kernel
theorem dX8_drawsFeeds_7 : decode cX8_drawsFeeds 7 = .ok (.iconst 0, 1) := by decide +kernel
theorem dX8_drawsFeeds_8 : decode cX8_drawsFeeds 8 = .ok (.iaload, 1) := by decide +kernel
theorem dX8_drawsFeeds_9 : decode cX8_drawsFeeds 9 = .ok (.if_icmp .ge 108, 3) := by decide +kernel
theorem dX8_drawsFeeds_12 : decode cX8_drawsFeeds 12 = .ok (.ldc2_w 212, 3) := by decide +kernel
theorem dX8_drawsFeeds_15 : decode cX8_drawsFeeds 15 = .ok (.iload_n 1, 1) := by decide +kernel
theorem dX8_drawsFeeds_16 : decode cX8_drawsFeeds 16 = .ok (.i2l, 1) := by decide +kernel
theorem dX8_drawsFeeds_17 : decode cX8_drawsFeeds 17 = .ok (.lmul, 1) := by decide +kernel
theorem dX8_drawsFeeds_18 : decode cX8_drawsFeeds 18 = .ok (.ldc2_w 214, 3) := by decide +kernel
theorem dX8_drawsFeeds_21 : decode cX8_drawsFeeds 21 = .ok (.iload_n 2, 1) := by decide +kernel
theorem dX8_drawsFeeds_22 : decode cX8_drawsFeeds 22 = .ok (.i2l, 1) := by decide +kernel
theorem dX8_drawsFeeds_23 : decode cX8_drawsFeeds 23 = .ok (.lmul, 1) := by decide +kernel
theorem dX8_drawsFeeds_24 : decode cX8_drawsFeeds 24 = .ok (.ladd, 1) := by decide +kernel
theorem dX8_drawsFeeds_25 : decode cX8_drawsFeeds 25 = .ok (.ldc2_w 216, 3) := by decide +kernel
theorem dX8_drawsFeeds_28 : decode cX8_drawsFeeds 28 = .ok (.iload_n 3, 1) := by decide +kernel
theorem dX8_drawsFeeds_29 : decode cX8_drawsFeeds 29 = .ok (.i2l, 1) := by decide +kernel
theorem dX8_drawsFeeds_30 : decode cX8_drawsFeeds 30 = .ok (.lmul, 1) := by decide +kernel
theorem dX8_drawsFeeds_31 : decode cX8_drawsFeeds 31 = .ok (.ladd, 1) := by decide +kernel
theorem dX8_drawsFeeds_32 : decode cX8_drawsFeeds 32 = .ok (.lconst 1, 1) := by decide +kernel
theorem dX8_drawsFeeds_33 : decode cX8_drawsFeeds 33 = .ok (.ladd, 1) := by decide +kernel
theorem dX8_drawsFeeds_34 : decode cX8_drawsFeeds 34 = .ok (.lstore 4, 2) := by decide +kernel
theorem dX8_drawsFeeds_36 : decode cX8_drawsFeeds 36 = .ok (.lload 4, 2) := by decide +kernel
theorem dX8_drawsFeeds_38 : decode cX8_drawsFeeds 38 = .ok (.lload 4, 2) := by decide +kernel
theorem dX8_drawsFeeds_40 : decode cX8_drawsFeeds 40 = .ok (.lmul, 1) := by decide +kernel
theorem dX8_drawsFeeds_41 : decode cX8_drawsFeeds 41 = .ok (.ldc2_w 218, 3) := by decide +kernel
theorem dX8_drawsFeeds_44 : decode cX8_drawsFeeds 44 = .ok (.lrem, 1) := by decide +kernel
theorem dX8_drawsFeeds_45 : decode cX8_drawsFeeds 45 = .ok (.lstore 6, 2) := by decide +kernel
theorem dX8_drawsFeeds_47 : decode cX8_drawsFeeds 47 = .ok (.iconst 0, 1) := by decide +kernel
theorem dX8_drawsFeeds_48 : decode cX8_drawsFeeds 48 = .ok (.istore 8, 2) := by decide +kernel
theorem dX8_drawsFeeds_50 : decode cX8_drawsFeeds 50 = .ok (.iload 8, 2) := by decide +kernel
theorem dX8_drawsFeeds_52 : decode cX8_drawsFeeds 52 = .ok (.aload_n 0, 1) := by decide +kernel
theorem dX8_drawsFeeds_53 : decode cX8_drawsFeeds 53 = .ok (.getfield 7, 3) := by decide +kernel
theorem dX8_drawsFeeds_56 : decode cX8_drawsFeeds 56 = .ok (.iconst 1, 1) := by decide +kernel
theorem dX8_drawsFeeds_57 : decode cX8_drawsFeeds 57 = .ok (.iaload, 1) := by decide +kernel
theorem dX8_drawsFeeds_58 : decode cX8_drawsFeeds 58 = .ok (.if_icmp .ge 53, 3) := by decide +kernel
theorem dX8_drawsFeeds_61 : decode cX8_drawsFeeds 61 = .ok (.aload_n 0, 1) := by decide +kernel
theorem dX8_drawsFeeds_62 : decode cX8_drawsFeeds 62 = .ok (.getfield 53, 3) := by decide +kernel
theorem dX8_drawsFeeds_65 : decode cX8_drawsFeeds 65 = .ok (.iconst 3, 1) := by decide +kernel
theorem dX8_drawsFeeds_66 : decode cX8_drawsFeeds 66 = .ok (.iload_n 3, 1) := by decide +kernel
theorem dX8_drawsFeeds_67 : decode cX8_drawsFeeds 67 = .ok (.imul, 1) := by decide +kernel
theorem dX8_drawsFeeds_68 : decode cX8_drawsFeeds 68 = .ok (.iload 8, 2) := by decide +kernel
theorem dX8_drawsFeeds_70 : decode cX8_drawsFeeds 70 = .ok (.iadd, 1) := by decide +kernel
theorem dX8_drawsFeeds_71 : decode cX8_drawsFeeds 71 = .ok (.lload 6, 2) := by decide +kernel
theorem dX8_drawsFeeds_73 : decode cX8_drawsFeeds 73 = .ok (.ldc2_w 220, 3) := by decide +kernel
theorem dX8_drawsFeeds_76 : decode cX8_drawsFeeds 76 = .ok (.aload_n 0, 1) := by decide +kernel
theorem dX8_drawsFeeds_77 : decode cX8_drawsFeeds 77 = .ok (.getfield 7, 3) := by decide +kernel
theorem dX8_drawsFeeds_80 : decode cX8_drawsFeeds 80 = .ok (.bipush 46, 2) := by decide +kernel
theorem dX8_drawsFeeds_82 : decode cX8_drawsFeeds 82 = .ok (.iconst 3, 1) := by decide +kernel
theorem dX8_drawsFeeds_83 : decode cX8_drawsFeeds 83 = .ok (.iload_n 3, 1) := by decide +kernel
theorem dX8_drawsFeeds_84 : decode cX8_drawsFeeds 84 = .ok (.imul, 1) := by decide +kernel
theorem dX8_drawsFeeds_85 : decode cX8_drawsFeeds 85 = .ok (.iadd, 1) := by decide +kernel
theorem dX8_drawsFeeds_86 : decode cX8_drawsFeeds 86 = .ok (.iload 8, 2) := by decide +kernel
theorem dX8_drawsFeeds_88 : decode cX8_drawsFeeds 88 = .ok (.iadd, 1) := by decide +kernel
theorem dX8_drawsFeeds_89 : decode cX8_drawsFeeds 89 = .ok (.iaload, 1) := by decide +kernel
theorem dX8_drawsFeeds_90 : decode cX8_drawsFeeds 90 = .ok (.i2l, 1) := by decide +kernel
theorem dX8_drawsFeeds_91 : decode cX8_drawsFeeds 91 = .ok (.lmul, 1) := by decide +kernel
theorem dX8_drawsFeeds_92 : decode cX8_drawsFeeds 92 = .ok (.lconst 1, 1) := by decide +kernel
theorem dX8_drawsFeeds_93 : decode cX8_drawsFeeds 93 = .ok (.ladd, 1) := by decide +kernel
theorem dX8_drawsFeeds_94 : decode cX8_drawsFeeds 94 = .ok (.lrem, 1) := by decide +kernel
theorem dX8_drawsFeeds_95 : decode cX8_drawsFeeds 95 = .ok (.l2i, 1) := by decide +kernel
theorem dX8_drawsFeeds_96 : decode cX8_drawsFeeds 96 = .ok (.iastore, 1) := by decide +kernel
theorem dX8_drawsFeeds_97 : decode cX8_drawsFeeds 97 = .ok (.lload 6, 2) := by decide +kernel
theorem dX8_drawsFeeds_99 : decode cX8_drawsFeeds 99 = .ok (.ldc2_w 222, 3) := by decide +kernel
theorem dX8_drawsFeeds_102 : decode cX8_drawsFeeds 102 = .ok (.ldiv, 1) := by decide +kernel
theorem dX8_drawsFeeds_103 : decode cX8_drawsFeeds 103 = .ok (.lstore 6, 2) := by decide +kernel
theorem dX8_drawsFeeds_105 : decode cX8_drawsFeeds 105 = .ok (.iinc 8 1, 3) := by decide +kernel
theorem dX8_drawsFeeds_108 : decode cX8_drawsFeeds 108 = .ok (.goto (-58), 3) := by decide +kernel
theorem dX8_drawsFeeds_111 : decode cX8_drawsFeeds 111 = .ok (.iinc 3 1, 3) := by decide +kernel
theorem dX8_drawsFeeds_114 : decode cX8_drawsFeeds 114 = .ok (.goto (-112), 3) := by decide +kernel
theorem dX8_drawsFeeds_117 : decode cX8_drawsFeeds 117 = .ok (.return_, 1) := by decide +kernel
theorem dX8_thereAll_0 : decode cX8_thereAll 0 = .ok (.aload_n 0, 1) := by decide +kernel
theorem dX8_thereAll_1 : decode cX8_thereAll 1 = .ok (.getfield 7, 3) := by decide +kernel
theorem dX8_thereAll_4 : decode cX8_thereAll 4 = .ok (.bipush 67, 2) := by decide +kernel
theorem dX8_thereAll_6 : decode cX8_thereAll 6 = .ok (.iaload, 1) := by decide +kernel
theorem dX8_thereAll_7 : decode cX8_thereAll 7 = .ok (.aload_n 0, 1) := by decide +kernel
theorem dX8_thereAll_8 : decode cX8_thereAll 8 = .ok (.getfield 7, 3) := by decide +kernel
theorem dX8_thereAll_11 : decode cX8_thereAll 11 = .ok (.bipush 68, 2) := by decide +kernel
theorem dX8_thereAll_13 : decode cX8_thereAll 13 = .ok (.iaload, 1) := by decide +kernel
theorem dX8_thereAll_14 : decode cX8_thereAll 14 = .ok (.iadd, 1) := by decide +kernel
theorem dX8_thereAll_15 : decode cX8_thereAll 15 = .ok (.aload_n 0, 1) := by decide +kernel
theorem dX8_thereAll_16 : decode cX8_thereAll 16 = .ok (.getfield 7, 3) := by decide +kernel
theorem dX8_thereAll_19 : decode cX8_thereAll 19 = .ok (.bipush 69, 2) := by decide +kernel
theorem dX8_thereAll_21 : decode cX8_thereAll 21 = .ok (.iaload, 1) := by decide +kernel
theorem dX8_thereAll_22 : decode cX8_thereAll 22 = .ok (.iadd, 1) := by decide +kernel
theorem dX8_thereAll_23 : decode cX8_thereAll 23 = .ok (.ireturn, 1) := by decide +kernel
theorem dX8_packets_0 : decode cX8_packets 0 = .ok (.iconst 0, 1) := by decide +kernel
theorem dX8_packets_1 : decode cX8_packets 1 = .ok (.istore_n 1, 1) := by decide +kernel
theorem dX8_packets_2 : decode cX8_packets 2 = .ok (.iconst 0, 1) := by decide +kernel
theorem dX8_packets_3 : decode cX8_packets 3 = .ok (.istore_n 2, 1) := by decide +kernel
theorem dX8_packets_4 : decode cX8_packets 4 = .ok (.iload_n 2, 1) := by decide +kernel
theorem dX8_packets_5 : decode cX8_packets 5 = .ok (.bipush 18, 2) := by decide +kernel
theorem dX8_packets_7 : decode cX8_packets 7 = .ok (.if_icmp .ge 24, 3) := by decide +kernel
theorem dX8_packets_10 : decode cX8_packets 10 = .ok (.iload_n 1, 1) := by decide +kernel
theorem dX8_packets_11 : decode cX8_packets 11 = .ok (.aload_n 0, 1) := by decide +kernel
theorem dX8_packets_12 : decode cX8_packets 12 = .ok (.getfield 7, 3) := by decide +kernel
theorem dX8_packets_15 : decode cX8_packets 15 = .ok (.bipush 77, 2) := by decide +kernel
theorem dX8_packets_17 : decode cX8_packets 17 = .ok (.bipush 41, 2) := by decide +kernel
theorem dX8_packets_19 : decode cX8_packets 19 = .ok (.iload_n 2, 1) := by decide +kernel
theorem dX8_packets_20 : decode cX8_packets 20 = .ok (.imul, 1) := by decide +kernel
theorem dX8_packets_21 : decode cX8_packets 21 = .ok (.iadd, 1) := by decide +kernel
theorem dX8_packets_22 : decode cX8_packets 22 = .ok (.iaload, 1) := by decide +kernel
theorem dX8_packets_23 : decode cX8_packets 23 = .ok (.iadd, 1) := by decide +kernel
theorem dX8_packets_24 : decode cX8_packets 24 = .ok (.istore_n 1, 1) := by decide +kernel
theorem dX8_packets_25 : decode cX8_packets 25 = .ok (.iinc 2 1, 3) := by decide +kernel
theorem dX8_packets_28 : decode cX8_packets 28 = .ok (.goto (-24), 3) := by decide +kernel
theorem dX8_packets_31 : decode cX8_packets 31 = .ok (.iload_n 1, 1) := by decide +kernel
theorem dX8_packets_32 : decode cX8_packets 32 = .ok (.ireturn, 1) := by decide +kernel
theorem dX8_squares_0 : decode cX8_squares 0 = .ok (.iconst 0, 1) := by decide +kernel
theorem dX8_squares_1 : decode cX8_squares 1 = .ok (.istore_n 1, 1) := by decide +kernel
theorem dX8_squares_2 : decode cX8_squares 2 = .ok (.iconst 0, 1) := by decide +kernel
theorem dX8_squares_3 : decode cX8_squares 3 = .ok (.istore_n 2, 1) := by decide +kernel
theorem dX8_squares_4 : decode cX8_squares 4 = .ok (.iload_n 2, 1) := by decide +kernel
theorem dX8_squares_5 : decode cX8_squares 5 = .ok (.bipush 18, 2) := by decide +kernel
theorem dX8_squares_7 : decode cX8_squares 7 = .ok (.if_icmp .ge 37, 3) := by decide +kernel
theorem dX8_squares_10 : decode cX8_squares 10 = .ok (.iload_n 1, 1) := by decide +kernel
theorem dX8_squares_11 : decode cX8_squares 11 = .ok (.aload_n 0, 1) := by decide +kernel
theorem dX8_squares_12 : decode cX8_squares 12 = .ok (.getfield 7, 3) := by decide +kernel
theorem dX8_squares_15 : decode cX8_squares 15 = .ok (.bipush 77, 2) := by decide +kernel
theorem dX8_squares_17 : decode cX8_squares 17 = .ok (.bipush 41, 2) := by decide +kernel
theorem dX8_squares_19 : decode cX8_squares 19 = .ok (.iload_n 2, 1) := by decide +kernel
theorem dX8_squares_20 : decode cX8_squares 20 = .ok (.imul, 1) := by decide +kernel
theorem dX8_squares_21 : decode cX8_squares 21 = .ok (.iadd, 1) := by decide +kernel
theorem dX8_squares_22 : decode cX8_squares 22 = .ok (.iaload, 1) := by decide +kernel
theorem dX8_squares_23 : decode cX8_squares 23 = .ok (.aload_n 0, 1) := by decide +kernel
theorem dX8_squares_24 : decode cX8_squares 24 = .ok (.getfield 7, 3) := by decide +kernel
theorem dX8_squares_27 : decode cX8_squares 27 = .ok (.bipush 77, 2) := by decide +kernel
theorem dX8_squares_29 : decode cX8_squares 29 = .ok (.bipush 41, 2) := by decide +kernel
theorem dX8_squares_31 : decode cX8_squares 31 = .ok (.iload_n 2, 1) := by decide +kernel
theorem dX8_squares_32 : decode cX8_squares 32 = .ok (.imul, 1) := by decide +kernel
theorem dX8_squares_33 : decode cX8_squares 33 = .ok (.iadd, 1) := by decide +kernel
theorem dX8_squares_34 : decode cX8_squares 34 = .ok (.iaload, 1) := by decide +kernel
theorem dX8_squares_35 : decode cX8_squares 35 = .ok (.imul, 1) := by decide +kernel
theorem dX8_squares_36 : decode cX8_squares 36 = .ok (.iadd, 1) := by decide +kernel
theorem dX8_squares_37 : decode cX8_squares 37 = .ok (.istore_n 1, 1) := by decide +kernel
theorem dX8_squares_38 : decode cX8_squares 38 = .ok (.iinc 2 1, 3) := by decide +kernel
theorem dX8_squares_41 : decode cX8_squares 41 = .ok (.goto (-37), 3) := by decide +kernel
theorem dX8_squares_44 : decode cX8_squares 44 = .ok (.iload_n 1, 1) := by decide +kernel
theorem dX8_squares_45 : decode cX8_squares 45 = .ok (.ireturn, 1) := by decide +kernel
theorem dX8_slot_0 : decode cX8_slot 0 = .ok (.iload_n 1, 1) := by decide +kernel
theorem dX8_slot_1 : decode cX8_slot 1 = .ok (.i2l, 1) := by decide +kernel
theorem dX8_slot_2 : decode cX8_slot 2 = .ok (.lconst 1, 1) := by decide +kernel
theorem dX8_slot_3 : decode cX8_slot 3 = .ok (.ldc2_w 224, 3) := by decide +kernel
theorem dX8_slot_6 : decode cX8_slot 6 = .ok (.invokestatic 80, 3) := by decide +kernel
theorem dX8_slot_9 : decode cX8_slot 9 = .ok (.ifCond .ne 5, 3) := by decide +kernel
theorem dX8_slot_12 : decode cX8_slot 12 = .ok (.iconst (-1), 1) := by decide +kernel
theorem dX8_slot_13 : decode cX8_slot 13 = .ok (.ireturn, 1) := by decide +kernel
theorem dX8_slot_14 : decode cX8_slot 14 = .ok (.aload_n 0, 1) := by decide +kernel
theorem dX8_slot_15 : decode cX8_slot 15 = .ok (.invokevirtual 133, 3) := by decide +kernel
theorem dX8_slot_18 : decode cX8_slot 18 = .ok (.aload_n 0, 1) := by decide +kernel
theorem dX8_slot_19 : decode cX8_slot 19 = .ok (.invokevirtual 226, 3) := by decide +kernel
theorem dX8_slot_22 : decode cX8_slot 22 = .ok (.aload_n 0, 1) := by decide +kernel
theorem dX8_slot_23 : decode cX8_slot 23 = .ok (.invokevirtual 229, 3) := by decide +kernel
theorem dX8_slot_26 : decode cX8_slot 26 = .ok (.istore_n 2, 1) := by decide +kernel
theorem dX8_slot_27 : decode cX8_slot 27 = .ok (.iconst 0, 1) := by decide +kernel
theorem dX8_slot_28 : decode cX8_slot 28 = .ok (.istore_n 3, 1) := by decide +kernel
theorem dX8_slot_29 : decode cX8_slot 29 = .ok (.iload_n 3, 1) := by decide +kernel
theorem dX8_slot_30 : decode cX8_slot 30 = .ok (.iload_n 1, 1) := by decide +kernel
theorem dX8_slot_31 : decode cX8_slot 31 = .ok (.if_icmp .ge 15, 3) := by decide +kernel
theorem dX8_slot_34 : decode cX8_slot 34 = .ok (.aload_n 0, 1) := by decide +kernel
theorem dX8_slot_35 : decode cX8_slot 35 = .ok (.bipush (-4), 2) := by decide +kernel
theorem dX8_slot_37 : decode cX8_slot 37 = .ok (.invokevirtual 232, 3) := by decide +kernel
theorem dX8_slot_40 : decode cX8_slot 40 = .ok (.iinc 3 1, 3) := by decide +kernel
theorem dX8_slot_43 : decode cX8_slot 43 = .ok (.goto (-14), 3) := by decide +kernel
theorem dX8_slot_46 : decode cX8_slot 46 = .ok (.aload_n 0, 1) := by decide +kernel
theorem dX8_slot_47 : decode cX8_slot 47 = .ok (.invokevirtual 229, 3) := by decide +kernel
theorem dX8_slot_50 : decode cX8_slot 50 = .ok (.iload_n 2, 1) := by decide +kernel
theorem dX8_slot_51 : decode cX8_slot 51 = .ok (.isub, 1) := by decide +kernel
theorem dX8_slot_52 : decode cX8_slot 52 = .ok (.ireturn, 1) := by decide +kernel
theorem dX8_laysAside_0 : decode cX8_laysAside 0 = .ok (.iconst 0, 1) := by decide +kernel
theorem dX8_laysAside_1 : decode cX8_laysAside 1 = .ok (.istore_n 1, 1) := by decide +kernel
theorem dX8_laysAside_2 : decode cX8_laysAside 2 = .ok (.iload_n 1, 1) := by decide +kernel
theorem dX8_laysAside_3 : decode cX8_laysAside 3 = .ok (.sipush 815, 3) := by decide +kernel
theorem dX8_laysAside_6 : decode cX8_laysAside 6 = .ok (.if_icmp .ge 21, 3) := by decide +kernel
theorem dX8_laysAside_9 : decode cX8_laysAside 9 = .ok (.aload_n 0, 1) := by decide +kernel
theorem dX8_laysAside_10 : decode cX8_laysAside 10 = .ok (.getfield 13, 3) := by decide +kernel
theorem dX8_laysAside_13 : decode cX8_laysAside 13 = .ok (.iload_n 1, 1) := by decide +kernel
theorem dX8_laysAside_14 : decode cX8_laysAside 14 = .ok (.aload_n 0, 1) := by decide +kernel
theorem dX8_laysAside_15 : decode cX8_laysAside 15 = .ok (.getfield 7, 3) := by decide +kernel
theorem dX8_laysAside_18 : decode cX8_laysAside 18 = .ok (.iload_n 1, 1) := by decide +kernel
theorem dX8_laysAside_19 : decode cX8_laysAside 19 = .ok (.iaload, 1) := by decide +kernel
theorem dX8_laysAside_20 : decode cX8_laysAside 20 = .ok (.iastore, 1) := by decide +kernel
theorem dX8_laysAside_21 : decode cX8_laysAside 21 = .ok (.iinc 1 1, 3) := by decide +kernel
theorem dX8_laysAside_24 : decode cX8_laysAside 24 = .ok (.goto (-22), 3) := by decide +kernel
theorem dX8_laysAside_27 : decode cX8_laysAside 27 = .ok (.return_, 1) := by decide +kernel
theorem dX8_comesBack_0 : decode cX8_comesBack 0 = .ok (.iconst 0, 1) := by decide +kernel
theorem dX8_comesBack_1 : decode cX8_comesBack 1 = .ok (.istore_n 1, 1) := by decide +kernel
theorem dX8_comesBack_2 : decode cX8_comesBack 2 = .ok (.iload_n 1, 1) := by decide +kernel
theorem dX8_comesBack_3 : decode cX8_comesBack 3 = .ok (.sipush 815, 3) := by decide +kernel
theorem dX8_comesBack_6 : decode cX8_comesBack 6 = .ok (.if_icmp .ge 21, 3) := by decide +kernel
theorem dX8_comesBack_9 : decode cX8_comesBack 9 = .ok (.aload_n 0, 1) := by decide +kernel
theorem dX8_comesBack_10 : decode cX8_comesBack 10 = .ok (.getfield 7, 3) := by decide +kernel
theorem dX8_comesBack_13 : decode cX8_comesBack 13 = .ok (.iload_n 1, 1) := by decide +kernel
theorem dX8_comesBack_14 : decode cX8_comesBack 14 = .ok (.aload_n 0, 1) := by decide +kernel
theorem dX8_comesBack_15 : decode cX8_comesBack 15 = .ok (.getfield 13, 3) := by decide +kernel
theorem dX8_comesBack_18 : decode cX8_comesBack 18 = .ok (.iload_n 1, 1) := by decide +kernel
theorem dX8_comesBack_19 : decode cX8_comesBack 19 = .ok (.iaload, 1) := by decide +kernel
theorem dX8_comesBack_20 : decode cX8_comesBack 20 = .ok (.iastore, 1) := by decide +kernel
theorem dX8_comesBack_21 : decode cX8_comesBack 21 = .ok (.iinc 1 1, 3) := by decide +kernel
theorem dX8_comesBack_24 : decode cX8_comesBack 24 = .ok (.goto (-22), 3) := by decide +kernel
theorem dX8_comesBack_27 : decode cX8_comesBack 27 = .ok (.return_, 1) := by decide +kernel
theorem dX8_bornNext_0 : decode cX8_bornNext 0 = .ok (.iload_n 1, 1) := by decide +kernel
theorem dX8_bornNext_1 : decode cX8_bornNext 1 = .ok (.iload_n 2, 1) := by decide +kernel
theorem dX8_bornNext_2 : decode cX8_bornNext 2 = .ok (.invokestatic 156, 3) := by decide +kernel
theorem dX8_bornNext_5 : decode cX8_bornNext 5 = .ok (.istore_n 3, 1) := by decide +kernel
theorem dX8_bornNext_6 : decode cX8_bornNext 6 = .ok (.aload_n 0, 1) := by decide +kernel
theorem dX8_bornNext_7 : decode cX8_bornNext 7 = .ok (.getfield 7, 3) := by decide +kernel
theorem dX8_bornNext_10 : decode cX8_bornNext 10 = .ok (.iload_n 3, 1) := by decide +kernel
theorem dX8_bornNext_11 : decode cX8_bornNext 11 = .ok (.iaload, 1) := by decide +kernel
theorem dX8_bornNext_12 : decode cX8_bornNext 12 = .ok (.ifCond .ne 8, 3) := by decide +kernel
theorem dX8_bornNext_15 : decode cX8_bornNext 15 = .ok (.bipush (-4), 2) := by decide +kernel
theorem dX8_bornNext_17 : decode cX8_bornNext 17 = .ok (.goto 30, 3) := by decide +kernel
theorem dX8_bornNext_20 : decode cX8_bornNext 20 = .ok (.aload_n 0, 1) := by decide +kernel
theorem dX8_bornNext_21 : decode cX8_bornNext 21 = .ok (.getfield 7, 3) := by decide +kernel
theorem dX8_bornNext_24 : decode cX8_bornNext 24 = .ok (.iload_n 3, 1) := by decide +kernel
theorem dX8_bornNext_25 : decode cX8_bornNext 25 = .ok (.aload_n 0, 1) := by decide +kernel
theorem dX8_bornNext_26 : decode cX8_bornNext 26 = .ok (.getfield 7, 3) := by decide +kernel
theorem dX8_bornNext_29 : decode cX8_bornNext 29 = .ok (.bipush 65, 2) := by decide +kernel
theorem dX8_bornNext_31 : decode cX8_bornNext 31 = .ok (.iaload, 1) := by decide +kernel
theorem dX8_bornNext_32 : decode cX8_bornNext 32 = .ok (.ifCond .ne 7, 3) := by decide +kernel
theorem dX8_bornNext_35 : decode cX8_bornNext 35 = .ok (.iconst 1, 1) := by decide +kernel
theorem dX8_bornNext_36 : decode cX8_bornNext 36 = .ok (.goto 9, 3) := by decide +kernel
theorem dX8_bornNext_39 : decode cX8_bornNext 39 = .ok (.aload_n 0, 1) := by decide +kernel
theorem dX8_bornNext_40 : decode cX8_bornNext 40 = .ok (.getfield 7, 3) := by decide +kernel
theorem dX8_bornNext_43 : decode cX8_bornNext 43 = .ok (.iload_n 3, 1) := by decide +kernel
theorem dX8_bornNext_44 : decode cX8_bornNext 44 = .ok (.iaload, 1) := by decide +kernel
theorem dX8_bornNext_45 : decode cX8_bornNext 45 = .ok (.iadd, 1) := by decide +kernel
theorem dX8_bornNext_46 : decode cX8_bornNext 46 = .ok (.iaload, 1) := by decide +kernel
theorem dX8_bornNext_47 : decode cX8_bornNext 47 = .ok (.ireturn, 1) := by decide +kernel
theorem dX8_biasOf_0 : decode cX8_biasOf 0 = .ok (.aload_n 0, 1) := by decide +kernel
theorem dX8_biasOf_1 : decode cX8_biasOf 1 = .ok (.invokevirtual 177, 3) := by decide +kernel
theorem dX8_biasOf_4 : decode cX8_biasOf 4 = .ok (.aload_n 0, 1) := by decide +kernel
theorem dX8_biasOf_5 : decode cX8_biasOf 5 = .ok (.getfield 7, 3) := by decide +kernel
theorem dX8_biasOf_8 : decode cX8_biasOf 8 = .ok (.bipush 64, 2) := by decide +kernel
theorem dX8_biasOf_10 : decode cX8_biasOf 10 = .ok (.iaload, 1) := by decide +kernel
theorem dX8_biasOf_11 : decode cX8_biasOf 11 = .ok (.aload_n 0, 1) := by decide +kernel
theorem dX8_biasOf_12 : decode cX8_biasOf 12 = .ok (.getfield 28, 3) := by decide +kernel
theorem dX8_biasOf_15 : decode cX8_biasOf 15 = .ok (.iconst 3, 1) := by decide +kernel
theorem dX8_biasOf_16 : decode cX8_biasOf 16 = .ok (.iload_n 1, 1) := by decide +kernel
theorem dX8_biasOf_17 : decode cX8_biasOf 17 = .ok (.imul, 1) := by decide +kernel
theorem dX8_biasOf_18 : decode cX8_biasOf 18 = .ok (.iload_n 2, 1) := by decide +kernel
theorem dX8_biasOf_19 : decode cX8_biasOf 19 = .ok (.iadd, 1) := by decide +kernel
theorem dX8_biasOf_20 : decode cX8_biasOf 20 = .ok (.iaload, 1) := by decide +kernel
theorem dX8_biasOf_21 : decode cX8_biasOf 21 = .ok (.imul, 1) := by decide +kernel
theorem dX8_biasOf_22 : decode cX8_biasOf 22 = .ok (.ireturn, 1) := by decide +kernel
theorem dX8_queue_0 : decode cX8_queue 0 = .ok (.aload_n 0, 1) := by decide +kernel
theorem dX8_queue_1 : decode cX8_queue 1 = .ok (.iload_n 1, 1) := by decide +kernel
theorem dX8_queue_2 : decode cX8_queue 2 = .ok (.iload_n 2, 1) := by decide +kernel
theorem dX8_queue_3 : decode cX8_queue 3 = .ok (.invokevirtual 136, 3) := by decide +kernel
theorem dX8_queue_6 : decode cX8_queue 6 = .ok (.ifCond .eq 15, 3) := by decide +kernel
theorem dX8_queue_9 : decode cX8_queue 9 = .ok (.iload_n 3, 1) := by decide +kernel
theorem dX8_queue_10 : decode cX8_queue 10 = .ok (.i2l, 1) := by decide +kernel
theorem dX8_queue_11 : decode cX8_queue 11 = .ok (.lconst 0, 1) := by decide +kernel
theorem dX8_queue_12 : decode cX8_queue 12 = .ok (.ldc2_w 235, 3) := by decide +kernel
theorem dX8_queue_15 : decode cX8_queue 15 = .ok (.invokestatic 80, 3) := by decide +kernel
theorem dX8_queue_18 : decode cX8_queue 18 = .ok (.ifCond .ne 5, 3) := by decide +kernel
theorem dX8_queue_21 : decode cX8_queue 21 = .ok (.iconst (-1), 1) := by decide +kernel
theorem dX8_queue_22 : decode cX8_queue 22 = .ok (.ireturn, 1) := by decide +kernel
theorem dX8_queue_23 : decode cX8_queue 23 = .ok (.iload_n 3, 1) := by decide +kernel
theorem dX8_queue_24 : decode cX8_queue 24 = .ok (.tableswitch 56 0 2 #[28, 35, 42], 28) := by decide +kernel
theorem dX8_queue_52 : decode cX8_queue 52 = .ok (.aload_n 0, 1) := by decide +kernel
theorem dX8_queue_53 : decode cX8_queue 53 = .ok (.iload_n 1, 1) := by decide +kernel
theorem dX8_queue_54 : decode cX8_queue 54 = .ok (.iload_n 2, 1) := by decide +kernel
theorem dX8_queue_55 : decode cX8_queue 55 = .ok (.invokevirtual 161, 3) := by decide +kernel
theorem dX8_queue_58 : decode cX8_queue 58 = .ok (.ireturn, 1) := by decide +kernel
theorem dX8_queue_59 : decode cX8_queue 59 = .ok (.aload_n 0, 1) := by decide +kernel
theorem dX8_queue_60 : decode cX8_queue 60 = .ok (.iload_n 1, 1) := by decide +kernel
theorem dX8_queue_61 : decode cX8_queue 61 = .ok (.iload_n 2, 1) := by decide +kernel
theorem dX8_queue_62 : decode cX8_queue 62 = .ok (.invokevirtual 237, 3) := by decide +kernel
theorem dX8_queue_65 : decode cX8_queue 65 = .ok (.ireturn, 1) := by decide +kernel
theorem dX8_queue_66 : decode cX8_queue 66 = .ok (.aload_n 0, 1) := by decide +kernel
theorem dX8_queue_67 : decode cX8_queue 67 = .ok (.getfield 7, 3) := by decide +kernel
theorem dX8_queue_70 : decode cX8_queue 70 = .ok (.bipush 46, 2) := by decide +kernel
theorem dX8_queue_72 : decode cX8_queue 72 = .ok (.iconst 3, 1) := by decide +kernel
theorem dX8_queue_73 : decode cX8_queue 73 = .ok (.iload_n 1, 1) := by decide +kernel
theorem dX8_queue_74 : decode cX8_queue 74 = .ok (.imul, 1) := by decide +kernel
theorem dX8_queue_75 : decode cX8_queue 75 = .ok (.iadd, 1) := by decide +kernel
theorem dX8_queue_76 : decode cX8_queue 76 = .ok (.iload_n 2, 1) := by decide +kernel
theorem dX8_queue_77 : decode cX8_queue 77 = .ok (.iadd, 1) := by decide +kernel
theorem dX8_queue_78 : decode cX8_queue 78 = .ok (.iaload, 1) := by decide +kernel
theorem dX8_queue_79 : decode cX8_queue 79 = .ok (.ireturn, 1) := by decide +kernel
theorem dX8_queue_80 : decode cX8_queue 80 = .ok (.aload_n 0, 1) := by decide +kernel
theorem dX8_queue_81 : decode cX8_queue 81 = .ok (.iload_n 1, 1) := by decide +kernel
theorem dX8_queue_82 : decode cX8_queue 82 = .ok (.iload_n 2, 1) := by decide +kernel
theorem dX8_queue_83 : decode cX8_queue 83 = .ok (.invokevirtual 240, 3) := by decide +kernel
theorem dX8_queue_86 : decode cX8_queue 86 = .ok (.ireturn, 1) := by decide +kernel
theorem dX8_link_0 : decode cX8_link 0 = .ok (.aload_n 0, 1) := by decide +kernel
theorem dX8_link_1 : decode cX8_link 1 = .ok (.iload_n 1, 1) := by decide +kernel
theorem dX8_link_2 : decode cX8_link 2 = .ok (.invokevirtual 143, 3) := by decide +kernel
theorem dX8_link_5 : decode cX8_link 5 = .ok (.ifCond .eq 15, 3) := by decide +kernel
theorem dX8_link_8 : decode cX8_link 8 = .ok (.iload_n 2, 1) := by decide +kernel
theorem dX8_link_9 : decode cX8_link 9 = .ok (.i2l, 1) := by decide +kernel
theorem dX8_link_10 : decode cX8_link 10 = .ok (.lconst 0, 1) := by decide +kernel
theorem dX8_link_11 : decode cX8_link 11 = .ok (.ldc2_w 243, 3) := by decide +kernel
theorem dX8_link_14 : decode cX8_link 14 = .ok (.invokestatic 80, 3) := by decide +kernel
theorem dX8_link_17 : decode cX8_link 17 = .ok (.ifCond .ne 5, 3) := by decide +kernel
theorem dX8_link_20 : decode cX8_link 20 = .ok (.iconst (-1), 1) := by decide +kernel
theorem dX8_link_21 : decode cX8_link 21 = .ok (.ireturn, 1) := by decide +kernel
theorem dX8_link_22 : decode cX8_link 22 = .ok (.iload_n 2, 1) := by decide +kernel
theorem dX8_link_23 : decode cX8_link 23 = .ok (.iconst 3, 1) := by decide +kernel
theorem dX8_link_24 : decode cX8_link 24 = .ok (.if_icmp .ge 17, 3) := by decide +kernel
theorem dX8_link_27 : decode cX8_link 27 = .ok (.aload_n 0, 1) := by decide +kernel
theorem dX8_link_28 : decode cX8_link 28 = .ok (.getfield 7, 3) := by decide +kernel
theorem dX8_link_31 : decode cX8_link 31 = .ok (.bipush 6, 2) := by decide +kernel
theorem dX8_link_33 : decode cX8_link 33 = .ok (.iconst 3, 1) := by decide +kernel
theorem dX8_link_34 : decode cX8_link 34 = .ok (.iload_n 1, 1) := by decide +kernel
theorem dX8_link_35 : decode cX8_link 35 = .ok (.imul, 1) := by decide +kernel
theorem dX8_link_36 : decode cX8_link 36 = .ok (.iadd, 1) := by decide +kernel
theorem dX8_link_37 : decode cX8_link 37 = .ok (.iload_n 2, 1) := by decide +kernel
theorem dX8_link_38 : decode cX8_link 38 = .ok (.iadd, 1) := by decide +kernel
theorem dX8_link_39 : decode cX8_link 39 = .ok (.iaload, 1) := by decide +kernel
theorem dX8_link_40 : decode cX8_link 40 = .ok (.ireturn, 1) := by decide +kernel
theorem dX8_link_41 : decode cX8_link 41 = .ok (.aload_n 0, 1) := by decide +kernel
theorem dX8_link_42 : decode cX8_link 42 = .ok (.invokevirtual 245, 3) := by decide +kernel
theorem dX8_link_45 : decode cX8_link 45 = .ok (.iload_n 2, 1) := by decide +kernel
theorem dX8_link_46 : decode cX8_link 46 = .ok (.tableswitch 49 3 5 #[26, 33, 40], 26) := by decide +kernel
theorem dX8_link_72 : decode cX8_link 72 = .ok (.aload_n 0, 1) := by decide +kernel
theorem dX8_link_73 : decode cX8_link 73 = .ok (.getfield 31, 3) := by decide +kernel
theorem dX8_link_76 : decode cX8_link 76 = .ok (.iload_n 1, 1) := by decide +kernel
theorem dX8_link_77 : decode cX8_link 77 = .ok (.iaload, 1) := by decide +kernel
theorem dX8_link_78 : decode cX8_link 78 = .ok (.ireturn, 1) := by decide +kernel
theorem dX8_link_79 : decode cX8_link 79 = .ok (.aload_n 0, 1) := by decide +kernel
theorem dX8_link_80 : decode cX8_link 80 = .ok (.getfield 34, 3) := by decide +kernel
theorem dX8_link_83 : decode cX8_link 83 = .ok (.iload_n 1, 1) := by decide +kernel
theorem dX8_link_84 : decode cX8_link 84 = .ok (.iaload, 1) := by decide +kernel
theorem dX8_link_85 : decode cX8_link 85 = .ok (.ireturn, 1) := by decide +kernel
theorem dX8_link_86 : decode cX8_link 86 = .ok (.aload_n 0, 1) := by decide +kernel
theorem dX8_link_87 : decode cX8_link 87 = .ok (.getfield 186, 3) := by decide +kernel
theorem dX8_link_90 : decode cX8_link 90 = .ok (.iload_n 1, 1) := by decide +kernel
theorem dX8_link_91 : decode cX8_link 91 = .ok (.ishr, 1) := by decide +kernel
theorem dX8_link_92 : decode cX8_link 92 = .ok (.iconst 1, 1) := by decide +kernel
theorem dX8_link_93 : decode cX8_link 93 = .ok (.iand, 1) := by decide +kernel
theorem dX8_link_94 : decode cX8_link 94 = .ok (.ireturn, 1) := by decide +kernel
theorem dX8_link_95 : decode cX8_link 95 = .ok (.aload_n 0, 1) := by decide +kernel
theorem dX8_link_96 : decode cX8_link 96 = .ok (.getfield 7, 3) := by decide +kernel
theorem dX8_link_99 : decode cX8_link 99 = .ok (.bipush 36, 2) := by decide +kernel
theorem dX8_link_101 : decode cX8_link 101 = .ok (.iload_n 1, 1) := by decide +kernel
theorem dX8_link_102 : decode cX8_link 102 = .ok (.iadd, 1) := by decide +kernel
theorem dX8_link_103 : decode cX8_link 103 = .ok (.iaload, 1) := by decide +kernel
theorem dX8_link_104 : decode cX8_link 104 = .ok (.ireturn, 1) := by decide +kernel
theorem dX8_drop_0 : decode cX8_drop 0 = .ok (.aload_n 0, 1) := by decide +kernel
theorem dX8_drop_1 : decode cX8_drop 1 = .ok (.iload_n 1, 1) := by decide +kernel
theorem dX8_drop_2 : decode cX8_drop 2 = .ok (.invokevirtual 143, 3) := by decide +kernel
theorem dX8_drop_5 : decode cX8_drop 5 = .ok (.ifCond .eq 11, 3) := by decide +kernel
theorem dX8_drop_8 : decode cX8_drop 8 = .ok (.aload_n 0, 1) := by decide +kernel
theorem dX8_drop_9 : decode cX8_drop 9 = .ok (.iload_n 2, 1) := by decide +kernel
theorem dX8_drop_10 : decode cX8_drop 10 = .ok (.invokevirtual 130, 3) := by decide +kernel
theorem dX8_drop_13 : decode cX8_drop 13 = .ok (.ifCond .ne 5, 3) := by decide +kernel
theorem dX8_drop_16 : decode cX8_drop 16 = .ok (.iconst (-1), 1) := by decide +kernel
theorem dX8_drop_17 : decode cX8_drop 17 = .ok (.ireturn, 1) := by decide +kernel
theorem dX8_drop_18 : decode cX8_drop 18 = .ok (.aload_n 0, 1) := by decide +kernel
theorem dX8_drop_19 : decode cX8_drop 19 = .ok (.invokevirtual 177, 3) := by decide +kernel
theorem dX8_drop_22 : decode cX8_drop 22 = .ok (.aload_n 0, 1) := by decide +kernel
theorem dX8_drop_23 : decode cX8_drop 23 = .ok (.iload_n 1, 1) := by decide +kernel
theorem dX8_drop_24 : decode cX8_drop 24 = .ok (.iload_n 2, 1) := by decide +kernel
theorem dX8_drop_25 : decode cX8_drop 25 = .ok (.invokevirtual 180, 3) := by decide +kernel
theorem dX8_drop_28 : decode cX8_drop 28 = .ok (.sipush 1000, 3) := by decide +kernel
theorem dX8_drop_31 : decode cX8_drop 31 = .ok (.iadd, 1) := by decide +kernel
theorem dX8_drop_32 : decode cX8_drop 32 = .ok (.ireturn, 1) := by decide +kernel
theorem dX8_goes_0 : decode cX8_goes 0 = .ok (.iload_n 1, 1) := by decide +kernel
theorem dX8_goes_1 : decode cX8_goes 1 = .ok (.i2l, 1) := by decide +kernel
theorem dX8_goes_2 : decode cX8_goes 2 = .ok (.lconst 0, 1) := by decide +kernel
theorem dX8_goes_3 : decode cX8_goes 3 = .ok (.lconst 1, 1) := by decide +kernel
theorem dX8_goes_4 : decode cX8_goes 4 = .ok (.invokestatic 80, 3) := by decide +kernel
theorem dX8_goes_7 : decode cX8_goes 7 = .ok (.ifCond .ne 5, 3) := by decide +kernel
theorem dX8_goes_10 : decode cX8_goes 10 = .ok (.iconst (-1), 1) := by decide +kernel
theorem dX8_goes_11 : decode cX8_goes 11 = .ok (.ireturn, 1) := by decide +kernel
theorem dX8_goes_12 : decode cX8_goes 12 = .ok (.aload_n 0, 1) := by decide +kernel
theorem dX8_goes_13 : decode cX8_goes 13 = .ok (.invokevirtual 245, 3) := by decide +kernel
theorem dX8_goes_16 : decode cX8_goes 16 = .ok (.iload_n 1, 1) := by decide +kernel
theorem dX8_goes_17 : decode cX8_goes 17 = .ok (.ifCond .ne 10, 3) := by decide +kernel
theorem dX8_goes_20 : decode cX8_goes 20 = .ok (.aload_n 0, 1) := by decide +kernel
theorem dX8_goes_21 : decode cX8_goes 21 = .ok (.getfield 186, 3) := by decide +kernel
theorem dX8_goes_24 : decode cX8_goes 24 = .ok (.goto 7, 3) := by decide +kernel
theorem dX8_goes_27 : decode cX8_goes 27 = .ok (.aload_n 0, 1) := by decide +kernel
theorem dX8_goes_28 : decode cX8_goes 28 = .ok (.getfield 189, 3) := by decide +kernel
theorem dX8_goes_31 : decode cX8_goes 31 = .ok (.ireturn, 1) := by decide +kernel
theorem dX8_packetsFor_0 : decode cX8_packetsFor 0 = .ok (.iconst 0, 1) := by decide +kernel
theorem dX8_packetsFor_1 : decode cX8_packetsFor 1 = .ok (.istore_n 2, 1) := by decide +kernel
theorem dX8_packetsFor_2 : decode cX8_packetsFor 2 = .ok (.iconst 0, 1) := by decide +kernel
theorem dX8_packetsFor_3 : decode cX8_packetsFor 3 = .ok (.istore_n 3, 1) := by decide +kernel
theorem dX8_packetsFor_4 : decode cX8_packetsFor 4 = .ok (.iload_n 3, 1) := by decide +kernel
theorem dX8_packetsFor_5 : decode cX8_packetsFor 5 = .ok (.aload_n 0, 1) := by decide +kernel
theorem dX8_packetsFor_6 : decode cX8_packetsFor 6 = .ok (.getfield 7, 3) := by decide +kernel
theorem dX8_packetsFor_9 : decode cX8_packetsFor 9 = .ok (.iconst 0, 1) := by decide +kernel
theorem dX8_packetsFor_10 : decode cX8_packetsFor 10 = .ok (.iaload, 1) := by decide +kernel
theorem dX8_packetsFor_11 : decode cX8_packetsFor 11 = .ok (.if_icmp .ge 18, 3) := by decide +kernel
theorem dX8_packetsFor_14 : decode cX8_packetsFor 14 = .ok (.iload_n 2, 1) := by decide +kernel
theorem dX8_packetsFor_15 : decode cX8_packetsFor 15 = .ok (.aload_n 0, 1) := by decide +kernel
theorem dX8_packetsFor_16 : decode cX8_packetsFor 16 = .ok (.iload_n 3, 1) := by decide +kernel
theorem dX8_packetsFor_17 : decode cX8_packetsFor 17 = .ok (.iload_n 1, 1) := by decide +kernel
theorem dX8_packetsFor_18 : decode cX8_packetsFor 18 = .ok (.invokevirtual 161, 3) := by decide +kernel
theorem dX8_packetsFor_21 : decode cX8_packetsFor 21 = .ok (.iadd, 1) := by decide +kernel
theorem dX8_packetsFor_22 : decode cX8_packetsFor 22 = .ok (.istore_n 2, 1) := by decide +kernel
theorem dX8_packetsFor_23 : decode cX8_packetsFor 23 = .ok (.iinc 3 1, 3) := by decide +kernel
theorem dX8_packetsFor_26 : decode cX8_packetsFor 26 = .ok (.goto (-22), 3) := by decide +kernel
theorem dX8_packetsFor_29 : decode cX8_packetsFor 29 = .ok (.iload_n 2, 1) := by decide +kernel
theorem dX8_packetsFor_30 : decode cX8_packetsFor 30 = .ok (.ireturn, 1) := by decide +kernel
theorem dX8_goal_0 : decode cX8_goal 0 = .ok (.aload_n 0, 1) := by decide +kernel
theorem dX8_goal_1 : decode cX8_goal 1 = .ok (.iload_n 1, 1) := by decide +kernel
theorem dX8_goal_2 : decode cX8_goal 2 = .ok (.invokevirtual 130, 3) := by decide +kernel
theorem dX8_goal_5 : decode cX8_goal 5 = .ok (.ifCond .eq 15, 3) := by decide +kernel
theorem dX8_goal_8 : decode cX8_goal 8 = .ok (.iload_n 2, 1) := by decide +kernel
theorem dX8_goal_9 : decode cX8_goal 9 = .ok (.i2l, 1) := by decide +kernel
theorem dX8_goal_10 : decode cX8_goal 10 = .ok (.lconst 0, 1) := by decide +kernel
theorem dX8_goal_11 : decode cX8_goal 11 = .ok (.ldc2_w 248, 3) := by decide +kernel
theorem dX8_goal_14 : decode cX8_goal 14 = .ok (.invokestatic 80, 3) := by decide +kernel
theorem dX8_goal_17 : decode cX8_goal 17 = .ok (.ifCond .ne 5, 3) := by decide +kernel
theorem dX8_goal_20 : decode cX8_goal 20 = .ok (.iconst (-1), 1) := by decide +kernel
theorem dX8_goal_21 : decode cX8_goal 21 = .ok (.ireturn, 1) := by decide +kernel
theorem dX8_goal_22 : decode cX8_goal 22 = .ok (.iload_n 2, 1) := by decide +kernel
theorem dX8_goal_23 : decode cX8_goal 23 = .ok (.tableswitch 85 0 3 #[29, 38, 48, 58], 29) := by decide +kernel
theorem dX8_goal_52 : decode cX8_goal 52 = .ok (.aload_n 0, 1) := by decide +kernel
theorem dX8_goal_53 : decode cX8_goal 53 = .ok (.getfield 7, 3) := by decide +kernel
theorem dX8_goal_56 : decode cX8_goal 56 = .ok (.iconst 2, 1) := by decide +kernel
theorem dX8_goal_57 : decode cX8_goal 57 = .ok (.iload_n 1, 1) := by decide +kernel
theorem dX8_goal_58 : decode cX8_goal 58 = .ok (.iadd, 1) := by decide +kernel
theorem dX8_goal_59 : decode cX8_goal 59 = .ok (.iaload, 1) := by decide +kernel
theorem dX8_goal_60 : decode cX8_goal 60 = .ok (.ireturn, 1) := by decide +kernel
theorem dX8_goal_61 : decode cX8_goal 61 = .ok (.aload_n 0, 1) := by decide +kernel
theorem dX8_goal_62 : decode cX8_goal 62 = .ok (.getfield 7, 3) := by decide +kernel
theorem dX8_goal_65 : decode cX8_goal 65 = .ok (.bipush 67, 2) := by decide +kernel
theorem dX8_goal_67 : decode cX8_goal 67 = .ok (.iload_n 1, 1) := by decide +kernel
theorem dX8_goal_68 : decode cX8_goal 68 = .ok (.iadd, 1) := by decide +kernel
theorem dX8_goal_69 : decode cX8_goal 69 = .ok (.iaload, 1) := by decide +kernel
theorem dX8_goal_70 : decode cX8_goal 70 = .ok (.ireturn, 1) := by decide +kernel
theorem dX8_goal_71 : decode cX8_goal 71 = .ok (.aload_n 0, 1) := by decide +kernel
theorem dX8_goal_72 : decode cX8_goal 72 = .ok (.getfield 7, 3) := by decide +kernel
theorem dX8_goal_75 : decode cX8_goal 75 = .ok (.bipush 70, 2) := by decide +kernel
theorem dX8_goal_77 : decode cX8_goal 77 = .ok (.iload_n 1, 1) := by decide +kernel
theorem dX8_goal_78 : decode cX8_goal 78 = .ok (.iadd, 1) := by decide +kernel
theorem dX8_goal_79 : decode cX8_goal 79 = .ok (.iaload, 1) := by decide +kernel
theorem dX8_goal_80 : decode cX8_goal 80 = .ok (.ireturn, 1) := by decide +kernel
theorem dX8_goal_81 : decode cX8_goal 81 = .ok (.aload_n 0, 1) := by decide +kernel
theorem dX8_goal_82 : decode cX8_goal 82 = .ok (.getfield 7, 3) := by decide +kernel
theorem dX8_goal_85 : decode cX8_goal 85 = .ok (.bipush 67, 2) := by decide +kernel
theorem dX8_goal_87 : decode cX8_goal 87 = .ok (.iload_n 1, 1) := by decide +kernel
theorem dX8_goal_88 : decode cX8_goal 88 = .ok (.iadd, 1) := by decide +kernel
theorem dX8_goal_89 : decode cX8_goal 89 = .ok (.iaload, 1) := by decide +kernel
theorem dX8_goal_90 : decode cX8_goal 90 = .ok (.ifCond .ne 8, 3) := by decide +kernel
theorem dX8_goal_93 : decode cX8_goal 93 = .ok (.bipush (-4), 2) := by decide +kernel
theorem dX8_goal_95 : decode cX8_goal 95 = .ok (.goto 12, 3) := by decide +kernel
theorem dX8_goal_98 : decode cX8_goal 98 = .ok (.aload_n 0, 1) := by decide +kernel
theorem dX8_goal_99 : decode cX8_goal 99 = .ok (.getfield 7, 3) := by decide +kernel
theorem dX8_goal_102 : decode cX8_goal 102 = .ok (.bipush 73, 2) := by decide +kernel
theorem dX8_goal_104 : decode cX8_goal 104 = .ok (.iload_n 1, 1) := by decide +kernel
theorem dX8_goal_105 : decode cX8_goal 105 = .ok (.iadd, 1) := by decide +kernel
theorem dX8_goal_106 : decode cX8_goal 106 = .ok (.iaload, 1) := by decide +kernel
theorem dX8_goal_107 : decode cX8_goal 107 = .ok (.ireturn, 1) := by decide +kernel
theorem dX8_goal_108 : decode cX8_goal 108 = .ok (.aload_n 0, 1) := by decide +kernel
theorem dX8_goal_109 : decode cX8_goal 109 = .ok (.iload_n 1, 1) := by decide +kernel
theorem dX8_goal_110 : decode cX8_goal 110 = .ok (.invokevirtual 250, 3) := by decide +kernel
theorem dX8_goal_113 : decode cX8_goal 113 = .ok (.ireturn, 1) := by decide +kernel
theorem dX8_ahead_0 : decode cX8_ahead 0 = .ok (.iload_n 1, 1) := by decide +kernel
theorem dX8_ahead_1 : decode cX8_ahead 1 = .ok (.i2l, 1) := by decide +kernel
theorem dX8_ahead_2 : decode cX8_ahead 2 = .ok (.lconst 1, 1) := by decide +kernel
theorem dX8_ahead_3 : decode cX8_ahead 3 = .ok (.ldc2_w 224, 3) := by decide +kernel
theorem dX8_ahead_6 : decode cX8_ahead 6 = .ok (.invokestatic 80, 3) := by decide +kernel
theorem dX8_ahead_9 : decode cX8_ahead 9 = .ok (.ifCond .eq 15, 3) := by decide +kernel
theorem dX8_ahead_12 : decode cX8_ahead 12 = .ok (.iload_n 2, 1) := by decide +kernel
theorem dX8_ahead_13 : decode cX8_ahead 13 = .ok (.i2l, 1) := by decide +kernel
theorem dX8_ahead_14 : decode cX8_ahead 14 = .ok (.lconst 0, 1) := by decide +kernel
theorem dX8_ahead_15 : decode cX8_ahead 15 = .ok (.ldc2_w 235, 3) := by decide +kernel
theorem dX8_ahead_18 : decode cX8_ahead 18 = .ok (.invokestatic 80, 3) := by decide +kernel
theorem dX8_ahead_21 : decode cX8_ahead 21 = .ok (.ifCond .ne 5, 3) := by decide +kernel
theorem dX8_ahead_24 : decode cX8_ahead 24 = .ok (.iconst (-1), 1) := by decide +kernel
theorem dX8_ahead_25 : decode cX8_ahead 25 = .ok (.ireturn, 1) := by decide +kernel
theorem dX8_ahead_26 : decode cX8_ahead 26 = .ok (.aload_n 0, 1) := by decide +kernel
theorem dX8_ahead_27 : decode cX8_ahead 27 = .ok (.invokevirtual 253, 3) := by decide +kernel
theorem dX8_ahead_30 : decode cX8_ahead 30 = .ok (.aload_n 0, 1) := by decide +kernel
theorem dX8_ahead_31 : decode cX8_ahead 31 = .ok (.invokevirtual 226, 3) := by decide +kernel
theorem dX8_ahead_34 : decode cX8_ahead 34 = .ok (.aload_n 0, 1) := by decide +kernel
theorem dX8_ahead_35 : decode cX8_ahead 35 = .ok (.invokevirtual 229, 3) := by decide +kernel
theorem dX8_ahead_38 : decode cX8_ahead 38 = .ok (.istore_n 3, 1) := by decide +kernel
theorem dX8_ahead_39 : decode cX8_ahead 39 = .ok (.aload_n 0, 1) := by decide +kernel
theorem dX8_ahead_40 : decode cX8_ahead 40 = .ok (.getfield 7, 3) := by decide +kernel
theorem dX8_ahead_43 : decode cX8_ahead 43 = .ok (.bipush 76, 2) := by decide +kernel
theorem dX8_ahead_45 : decode cX8_ahead 45 = .ok (.iaload, 1) := by decide +kernel
theorem dX8_ahead_46 : decode cX8_ahead 46 = .ok (.istore 4, 2) := by decide +kernel
theorem dX8_ahead_48 : decode cX8_ahead 48 = .ok (.iconst 0, 1) := by decide +kernel
theorem dX8_ahead_49 : decode cX8_ahead 49 = .ok (.istore 5, 2) := by decide +kernel
theorem dX8_ahead_51 : decode cX8_ahead 51 = .ok (.iconst 0, 1) := by decide +kernel
theorem dX8_ahead_52 : decode cX8_ahead 52 = .ok (.istore 6, 2) := by decide +kernel
theorem dX8_ahead_54 : decode cX8_ahead 54 = .ok (.iload 6, 2) := by decide +kernel
theorem dX8_ahead_56 : decode cX8_ahead 56 = .ok (.iload_n 1, 1) := by decide +kernel
theorem dX8_ahead_57 : decode cX8_ahead 57 = .ok (.if_icmp .ge 35, 3) := by decide +kernel
theorem dX8_ahead_60 : decode cX8_ahead 60 = .ok (.aload_n 0, 1) := by decide +kernel
theorem dX8_ahead_61 : decode cX8_ahead 61 = .ok (.bipush (-4), 2) := by decide +kernel
theorem dX8_ahead_63 : decode cX8_ahead 63 = .ok (.invokevirtual 232, 3) := by decide +kernel
theorem dX8_ahead_66 : decode cX8_ahead 66 = .ok (.aload_n 0, 1) := by decide +kernel
theorem dX8_ahead_67 : decode cX8_ahead 67 = .ok (.invokevirtual 256, 3) := by decide +kernel
theorem dX8_ahead_70 : decode cX8_ahead 70 = .ok (.iload 5, 2) := by decide +kernel
theorem dX8_ahead_72 : decode cX8_ahead 72 = .ok (.if_icmp .le 10, 3) := by decide +kernel
theorem dX8_ahead_75 : decode cX8_ahead 75 = .ok (.aload_n 0, 1) := by decide +kernel
theorem dX8_ahead_76 : decode cX8_ahead 76 = .ok (.invokevirtual 256, 3) := by decide +kernel
theorem dX8_ahead_79 : decode cX8_ahead 79 = .ok (.goto 5, 3) := by decide +kernel
theorem dX8_ahead_82 : decode cX8_ahead 82 = .ok (.iload 5, 2) := by decide +kernel
theorem dX8_ahead_84 : decode cX8_ahead 84 = .ok (.istore 5, 2) := by decide +kernel
theorem dX8_ahead_86 : decode cX8_ahead 86 = .ok (.iinc 6 1, 3) := by decide +kernel
theorem dX8_ahead_89 : decode cX8_ahead 89 = .ok (.goto (-35), 3) := by decide +kernel
theorem dX8_ahead_92 : decode cX8_ahead 92 = .ok (.iload_n 2, 1) := by decide +kernel
theorem dX8_ahead_93 : decode cX8_ahead 93 = .ok (.ifCond .ne 10, 3) := by decide +kernel
theorem dX8_ahead_96 : decode cX8_ahead 96 = .ok (.aload_n 0, 1) := by decide +kernel
theorem dX8_ahead_97 : decode cX8_ahead 97 = .ok (.invokevirtual 259, 3) := by decide +kernel
theorem dX8_ahead_100 : decode cX8_ahead 100 = .ok (.goto 37, 3) := by decide +kernel
theorem dX8_ahead_103 : decode cX8_ahead 103 = .ok (.iload_n 2, 1) := by decide +kernel
theorem dX8_ahead_104 : decode cX8_ahead 104 = .ok (.iconst 1, 1) := by decide +kernel
theorem dX8_ahead_105 : decode cX8_ahead 105 = .ok (.if_icmp .ne 12, 3) := by decide +kernel
theorem dX8_ahead_108 : decode cX8_ahead 108 = .ok (.aload_n 0, 1) := by decide +kernel
theorem dX8_ahead_109 : decode cX8_ahead 109 = .ok (.invokevirtual 229, 3) := by decide +kernel
theorem dX8_ahead_112 : decode cX8_ahead 112 = .ok (.iload_n 3, 1) := by decide +kernel
theorem dX8_ahead_113 : decode cX8_ahead 113 = .ok (.isub, 1) := by decide +kernel
theorem dX8_ahead_114 : decode cX8_ahead 114 = .ok (.goto 23, 3) := by decide +kernel
theorem dX8_ahead_117 : decode cX8_ahead 117 = .ok (.iload_n 2, 1) := by decide +kernel
theorem dX8_ahead_118 : decode cX8_ahead 118 = .ok (.iconst 2, 1) := by decide +kernel
theorem dX8_ahead_119 : decode cX8_ahead 119 = .ok (.if_icmp .ne 16, 3) := by decide +kernel
theorem dX8_ahead_122 : decode cX8_ahead 122 = .ok (.aload_n 0, 1) := by decide +kernel
theorem dX8_ahead_123 : decode cX8_ahead 123 = .ok (.getfield 7, 3) := by decide +kernel
theorem dX8_ahead_126 : decode cX8_ahead 126 = .ok (.bipush 76, 2) := by decide +kernel
theorem dX8_ahead_128 : decode cX8_ahead 128 = .ok (.iaload, 1) := by decide +kernel
theorem dX8_ahead_129 : decode cX8_ahead 129 = .ok (.iload 4, 2) := by decide +kernel
theorem dX8_ahead_131 : decode cX8_ahead 131 = .ok (.isub, 1) := by decide +kernel
theorem dX8_ahead_132 : decode cX8_ahead 132 = .ok (.goto 5, 3) := by decide +kernel
theorem dX8_ahead_135 : decode cX8_ahead 135 = .ok (.iload 5, 2) := by decide +kernel
theorem dX8_ahead_137 : decode cX8_ahead 137 = .ok (.istore 6, 2) := by decide +kernel
theorem dX8_ahead_139 : decode cX8_ahead 139 = .ok (.aload_n 0, 1) := by decide +kernel
theorem dX8_ahead_140 : decode cX8_ahead 140 = .ok (.invokevirtual 262, 3) := by decide +kernel
theorem dX8_ahead_143 : decode cX8_ahead 143 = .ok (.iload 6, 2) := by decide +kernel
theorem dX8_ahead_145 : decode cX8_ahead 145 = .ok (.ireturn, 1) := by decide +kernel
theorem dX8_without_0 : decode cX8_without 0 = .ok (.aload_n 0, 1) := by decide +kernel
theorem dX8_without_1 : decode cX8_without 1 = .ok (.iload_n 1, 1) := by decide +kernel
theorem dX8_without_2 : decode cX8_without 2 = .ok (.invokevirtual 143, 3) := by decide +kernel
theorem dX8_without_5 : decode cX8_without 5 = .ok (.ifCond .ne 5, 3) := by decide +kernel
theorem dX8_without_8 : decode cX8_without 8 = .ok (.iconst (-1), 1) := by decide +kernel
theorem dX8_without_9 : decode cX8_without 9 = .ok (.ireturn, 1) := by decide +kernel
theorem dX8_without_10 : decode cX8_without 10 = .ok (.aload_n 0, 1) := by decide +kernel
theorem dX8_without_11 : decode cX8_without 11 = .ok (.invokevirtual 253, 3) := by decide +kernel
theorem dX8_without_14 : decode cX8_without 14 = .ok (.aload_n 0, 1) := by decide +kernel
theorem dX8_without_15 : decode cX8_without 15 = .ok (.invokevirtual 226, 3) := by decide +kernel
theorem dX8_without_18 : decode cX8_without 18 = .ok (.iconst 0, 1) := by decide +kernel
theorem dX8_without_19 : decode cX8_without 19 = .ok (.istore_n 2, 1) := by decide +kernel
theorem dX8_without_20 : decode cX8_without 20 = .ok (.iload_n 2, 1) := by decide +kernel
theorem dX8_without_21 : decode cX8_without 21 = .ok (.bipush 20, 2) := by decide +kernel
theorem dX8_without_23 : decode cX8_without 23 = .ok (.if_icmp .ge 14, 3) := by decide +kernel
theorem dX8_without_26 : decode cX8_without 26 = .ok (.aload_n 0, 1) := by decide +kernel
theorem dX8_without_27 : decode cX8_without 27 = .ok (.iload_n 1, 1) := by decide +kernel
theorem dX8_without_28 : decode cX8_without 28 = .ok (.invokevirtual 232, 3) := by decide +kernel
theorem dX8_without_31 : decode cX8_without 31 = .ok (.iinc 2 1, 3) := by decide +kernel
theorem dX8_without_34 : decode cX8_without 34 = .ok (.goto (-14), 3) := by decide +kernel
theorem dX8_without_37 : decode cX8_without 37 = .ok (.aload_n 0, 1) := by decide +kernel
theorem dX8_without_38 : decode cX8_without 38 = .ok (.invokevirtual 259, 3) := by decide +kernel
theorem dX8_without_41 : decode cX8_without 41 = .ok (.istore_n 2, 1) := by decide +kernel
theorem dX8_without_42 : decode cX8_without 42 = .ok (.aload_n 0, 1) := by decide +kernel
theorem dX8_without_43 : decode cX8_without 43 = .ok (.invokevirtual 262, 3) := by decide +kernel
theorem dX8_without_46 : decode cX8_without 46 = .ok (.iload_n 2, 1) := by decide +kernel
theorem dX8_without_47 : decode cX8_without 47 = .ok (.ireturn, 1) := by decide +kernel
theorem dX8_worst_0 : decode cX8_worst 0 = .ok (.iload_n 1, 1) := by decide +kernel
theorem dX8_worst_1 : decode cX8_worst 1 = .ok (.i2l, 1) := by decide +kernel
theorem dX8_worst_2 : decode cX8_worst 2 = .ok (.lconst 0, 1) := by decide +kernel
theorem dX8_worst_3 : decode cX8_worst 3 = .ok (.ldc2_w 220, 3) := by decide +kernel
theorem dX8_worst_6 : decode cX8_worst 6 = .ok (.invokestatic 80, 3) := by decide +kernel
theorem dX8_worst_9 : decode cX8_worst 9 = .ok (.ifCond .ne 5, 3) := by decide +kernel
theorem dX8_worst_12 : decode cX8_worst 12 = .ok (.iconst (-1), 1) := by decide +kernel
theorem dX8_worst_13 : decode cX8_worst 13 = .ok (.ireturn, 1) := by decide +kernel
theorem dX8_worst_14 : decode cX8_worst 14 = .ok (.aload_n 0, 1) := by decide +kernel
theorem dX8_worst_15 : decode cX8_worst 15 = .ok (.invokevirtual 245, 3) := by decide +kernel
theorem dX8_worst_18 : decode cX8_worst 18 = .ok (.aload_n 0, 1) := by decide +kernel
theorem dX8_worst_19 : decode cX8_worst 19 = .ok (.getfield 189, 3) := by decide +kernel
theorem dX8_worst_22 : decode cX8_worst 22 = .ok (.istore_n 2, 1) := by decide +kernel
theorem dX8_worst_23 : decode cX8_worst 23 = .ok (.bipush (-4), 2) := by decide +kernel
theorem dX8_worst_25 : decode cX8_worst 25 = .ok (.istore_n 3, 1) := by decide +kernel
theorem dX8_worst_26 : decode cX8_worst 26 = .ok (.iconst 0, 1) := by decide +kernel
theorem dX8_worst_27 : decode cX8_worst 27 = .ok (.istore 4, 2) := by decide +kernel
theorem dX8_worst_29 : decode cX8_worst 29 = .ok (.iload 4, 2) := by decide +kernel
theorem dX8_worst_31 : decode cX8_worst 31 = .ok (.aload_n 0, 1) := by decide +kernel
theorem dX8_worst_32 : decode cX8_worst 32 = .ok (.getfield 7, 3) := by decide +kernel
theorem dX8_worst_35 : decode cX8_worst 35 = .ok (.iconst 5, 1) := by decide +kernel
theorem dX8_worst_36 : decode cX8_worst 36 = .ok (.iaload, 1) := by decide +kernel
theorem dX8_worst_37 : decode cX8_worst 37 = .ok (.if_icmp .ge 118, 3) := by decide +kernel
theorem dX8_worst_40 : decode cX8_worst 40 = .ok (.iload 4, 2) := by decide +kernel
theorem dX8_worst_42 : decode cX8_worst 42 = .ok (.iconst 1, 1) := by decide +kernel
theorem dX8_worst_43 : decode cX8_worst 43 = .ok (.iadd, 1) := by decide +kernel
theorem dX8_worst_44 : decode cX8_worst 44 = .ok (.istore 5, 2) := by decide +kernel
theorem dX8_worst_46 : decode cX8_worst 46 = .ok (.iload 5, 2) := by decide +kernel
theorem dX8_worst_48 : decode cX8_worst 48 = .ok (.aload_n 0, 1) := by decide +kernel
theorem dX8_worst_49 : decode cX8_worst 49 = .ok (.getfield 7, 3) := by decide +kernel
theorem dX8_worst_52 : decode cX8_worst 52 = .ok (.iconst 5, 1) := by decide +kernel
theorem dX8_worst_53 : decode cX8_worst 53 = .ok (.iaload, 1) := by decide +kernel
theorem dX8_worst_54 : decode cX8_worst 54 = .ok (.if_icmp .ge 95, 3) := by decide +kernel
theorem dX8_worst_57 : decode cX8_worst 57 = .ok (.aload_n 0, 1) := by decide +kernel
theorem dX8_worst_58 : decode cX8_worst 58 = .ok (.getfield 7, 3) := by decide +kernel
theorem dX8_worst_61 : decode cX8_worst 61 = .ok (.bipush 36, 2) := by decide +kernel
theorem dX8_worst_63 : decode cX8_worst 63 = .ok (.iload 4, 2) := by decide +kernel
theorem dX8_worst_65 : decode cX8_worst 65 = .ok (.iadd, 1) := by decide +kernel
theorem dX8_worst_66 : decode cX8_worst 66 = .ok (.iaload, 1) := by decide +kernel
theorem dX8_worst_67 : decode cX8_worst 67 = .ok (.iload 5, 2) := by decide +kernel
theorem dX8_worst_69 : decode cX8_worst 69 = .ok (.invokestatic 150, 3) := by decide +kernel
theorem dX8_worst_72 : decode cX8_worst 72 = .ok (.ifCond .eq 71, 3) := by decide +kernel
theorem dX8_worst_75 : decode cX8_worst 75 = .ok (.aload_n 0, 1) := by decide +kernel
theorem dX8_worst_76 : decode cX8_worst 76 = .ok (.getfield 7, 3) := by decide +kernel
theorem dX8_worst_79 : decode cX8_worst 79 = .ok (.iload 4, 2) := by decide +kernel
theorem dX8_worst_81 : decode cX8_worst 81 = .ok (.iload 5, 2) := by decide +kernel
theorem dX8_worst_83 : decode cX8_worst 83 = .ok (.iconst 0, 1) := by decide +kernel
theorem dX8_worst_84 : decode cX8_worst 84 = .ok (.invokestatic 63, 3) := by decide +kernel
theorem dX8_worst_87 : decode cX8_worst 87 = .ok (.aload_n 0, 1) := by decide +kernel
theorem dX8_worst_88 : decode cX8_worst 88 = .ok (.bipush (-4), 2) := by decide +kernel
theorem dX8_worst_90 : decode cX8_worst 90 = .ok (.invokevirtual 198, 3) := by decide +kernel
theorem dX8_worst_93 : decode cX8_worst 93 = .ok (.aload_n 0, 1) := by decide +kernel
theorem dX8_worst_94 : decode cX8_worst 94 = .ok (.getfield 7, 3) := by decide +kernel
theorem dX8_worst_97 : decode cX8_worst 97 = .ok (.iload 4, 2) := by decide +kernel
theorem dX8_worst_99 : decode cX8_worst 99 = .ok (.iload 5, 2) := by decide +kernel
theorem dX8_worst_101 : decode cX8_worst 101 = .ok (.iconst 1, 1) := by decide +kernel
theorem dX8_worst_102 : decode cX8_worst 102 = .ok (.invokestatic 63, 3) := by decide +kernel
theorem dX8_worst_105 : decode cX8_worst 105 = .ok (.aload_n 0, 1) := by decide +kernel
theorem dX8_worst_106 : decode cX8_worst 106 = .ok (.getfield 189, 3) := by decide +kernel
theorem dX8_worst_109 : decode cX8_worst 109 = .ok (.iload_n 2, 1) := by decide +kernel
theorem dX8_worst_110 : decode cX8_worst 110 = .ok (.if_icmp .le 14, 3) := by decide +kernel
theorem dX8_worst_113 : decode cX8_worst 113 = .ok (.bipush 16, 2) := by decide +kernel
theorem dX8_worst_115 : decode cX8_worst 115 = .ok (.iload 4, 2) := by decide +kernel
theorem dX8_worst_117 : decode cX8_worst 117 = .ok (.imul, 1) := by decide +kernel
theorem dX8_worst_118 : decode cX8_worst 118 = .ok (.iload 5, 2) := by decide +kernel
theorem dX8_worst_120 : decode cX8_worst 120 = .ok (.iadd, 1) := by decide +kernel
theorem dX8_worst_121 : decode cX8_worst 121 = .ok (.goto 4, 3) := by decide +kernel
theorem dX8_worst_124 : decode cX8_worst 124 = .ok (.iload_n 3, 1) := by decide +kernel
theorem dX8_worst_125 : decode cX8_worst 125 = .ok (.istore_n 3, 1) := by decide +kernel
theorem dX8_worst_126 : decode cX8_worst 126 = .ok (.aload_n 0, 1) := by decide +kernel
theorem dX8_worst_127 : decode cX8_worst 127 = .ok (.getfield 189, 3) := by decide +kernel
theorem dX8_worst_130 : decode cX8_worst 130 = .ok (.iload_n 2, 1) := by decide +kernel
theorem dX8_worst_131 : decode cX8_worst 131 = .ok (.if_icmp .le 10, 3) := by decide +kernel
theorem dX8_worst_134 : decode cX8_worst 134 = .ok (.aload_n 0, 1) := by decide +kernel
theorem dX8_worst_135 : decode cX8_worst 135 = .ok (.getfield 189, 3) := by decide +kernel
theorem dX8_worst_138 : decode cX8_worst 138 = .ok (.goto 4, 3) := by decide +kernel
theorem dX8_worst_141 : decode cX8_worst 141 = .ok (.iload_n 2, 1) := by decide +kernel
theorem dX8_worst_142 : decode cX8_worst 142 = .ok (.istore_n 2, 1) := by decide +kernel
theorem dX8_worst_143 : decode cX8_worst 143 = .ok (.iinc 5 1, 3) := by decide +kernel
theorem dX8_worst_146 : decode cX8_worst 146 = .ok (.goto (-100), 3) := by decide +kernel
theorem dX8_worst_149 : decode cX8_worst 149 = .ok (.iinc 4 1, 3) := by decide +kernel
theorem dX8_worst_152 : decode cX8_worst 152 = .ok (.goto (-123), 3) := by decide +kernel
theorem dX8_worst_155 : decode cX8_worst 155 = .ok (.iload_n 3, 1) := by decide +kernel
theorem dX8_worst_156 : decode cX8_worst 156 = .ok (.bipush (-4), 2) := by decide +kernel
theorem dX8_worst_158 : decode cX8_worst 158 = .ok (.if_icmp .ne 6, 3) := by decide +kernel
theorem dX8_worst_161 : decode cX8_worst 161 = .ok (.bipush (-4), 2) := by decide +kernel
theorem dX8_worst_163 : decode cX8_worst 163 = .ok (.ireturn, 1) := by decide +kernel
theorem dX8_worst_164 : decode cX8_worst 164 = .ok (.iload_n 1, 1) := by decide +kernel
theorem dX8_worst_165 : decode cX8_worst 165 = .ok (.ifCond .ne 10, 3) := by decide +kernel
theorem dX8_worst_168 : decode cX8_worst 168 = .ok (.iload_n 3, 1) := by decide +kernel
theorem dX8_worst_169 : decode cX8_worst 169 = .ok (.bipush 16, 2) := by decide +kernel
theorem dX8_worst_171 : decode cX8_worst 171 = .ok (.idiv, 1) := by decide +kernel
theorem dX8_worst_172 : decode cX8_worst 172 = .ok (.goto 16, 3) := by decide +kernel
theorem dX8_worst_175 : decode cX8_worst 175 = .ok (.iload_n 1, 1) := by decide +kernel
theorem dX8_worst_176 : decode cX8_worst 176 = .ok (.iconst 1, 1) := by decide +kernel
theorem dX8_worst_177 : decode cX8_worst 177 = .ok (.if_icmp .ne 10, 3) := by decide +kernel
theorem dX8_worst_180 : decode cX8_worst 180 = .ok (.iload_n 3, 1) := by decide +kernel
theorem dX8_worst_181 : decode cX8_worst 181 = .ok (.bipush 16, 2) := by decide +kernel
theorem dX8_worst_183 : decode cX8_worst 183 = .ok (.irem, 1) := by decide +kernel
theorem dX8_worst_184 : decode cX8_worst 184 = .ok (.goto 4, 3) := by decide +kernel
theorem dX8_worst_187 : decode cX8_worst 187 = .ok (.iload_n 2, 1) := by decide +kernel
theorem dX8_worst_188 : decode cX8_worst 188 = .ok (.ireturn, 1) := by decide +kernel
theorem dX8_drawn_0 : decode cX8_drawn 0 = .ok (.iload_n 1, 1) := by decide +kernel
theorem dX8_drawn_1 : decode cX8_drawn 1 = .ok (.i2l, 1) := by decide +kernel
theorem dX8_drawn_2 : decode cX8_drawn 2 = .ok (.lconst 0, 1) := by decide +kernel
theorem dX8_drawn_3 : decode cX8_drawn 3 = .ok (.ldc2_w 265, 3) := by decide +kernel
theorem dX8_drawn_6 : decode cX8_drawn 6 = .ok (.invokestatic 80, 3) := by decide +kernel
theorem dX8_drawn_9 : decode cX8_drawn 9 = .ok (.ifCond .eq 27, 3) := by decide +kernel
theorem dX8_drawn_12 : decode cX8_drawn 12 = .ok (.iload_n 2, 1) := by decide +kernel
theorem dX8_drawn_13 : decode cX8_drawn 13 = .ok (.i2l, 1) := by decide +kernel
theorem dX8_drawn_14 : decode cX8_drawn 14 = .ok (.lconst 1, 1) := by decide +kernel
theorem dX8_drawn_15 : decode cX8_drawn 15 = .ok (.ldc2_w 224, 3) := by decide +kernel
theorem dX8_drawn_18 : decode cX8_drawn 18 = .ok (.invokestatic 80, 3) := by decide +kernel
theorem dX8_drawn_21 : decode cX8_drawn 21 = .ok (.ifCond .eq 15, 3) := by decide +kernel
theorem dX8_drawn_24 : decode cX8_drawn 24 = .ok (.iload_n 3, 1) := by decide +kernel
theorem dX8_drawn_25 : decode cX8_drawn 25 = .ok (.i2l, 1) := by decide +kernel
theorem dX8_drawn_26 : decode cX8_drawn 26 = .ok (.lconst 0, 1) := by decide +kernel
theorem dX8_drawn_27 : decode cX8_drawn 27 = .ok (.ldc2_w 220, 3) := by decide +kernel
theorem dX8_drawn_30 : decode cX8_drawn 30 = .ok (.invokestatic 80, 3) := by decide +kernel
theorem dX8_drawn_33 : decode cX8_drawn 33 = .ok (.ifCond .ne 5, 3) := by decide +kernel
theorem dX8_drawn_36 : decode cX8_drawn 36 = .ok (.iconst (-1), 1) := by decide +kernel
theorem dX8_drawn_37 : decode cX8_drawn 37 = .ok (.ireturn, 1) := by decide +kernel
theorem dX8_drawn_38 : decode cX8_drawn 38 = .ok (.aload_n 0, 1) := by decide +kernel
theorem dX8_drawn_39 : decode cX8_drawn 39 = .ok (.invokevirtual 253, 3) := by decide +kernel
theorem dX8_drawn_42 : decode cX8_drawn 42 = .ok (.aload_n 0, 1) := by decide +kernel
theorem dX8_drawn_43 : decode cX8_drawn 43 = .ok (.invokevirtual 229, 3) := by decide +kernel
theorem dX8_drawn_46 : decode cX8_drawn 46 = .ok (.istore 4, 2) := by decide +kernel
theorem dX8_drawn_48 : decode cX8_drawn 48 = .ok (.aload_n 0, 1) := by decide +kernel
theorem dX8_drawn_49 : decode cX8_drawn 49 = .ok (.getfield 7, 3) := by decide +kernel
theorem dX8_drawn_52 : decode cX8_drawn 52 = .ok (.bipush 76, 2) := by decide +kernel
theorem dX8_drawn_54 : decode cX8_drawn 54 = .ok (.iaload, 1) := by decide +kernel
theorem dX8_drawn_55 : decode cX8_drawn 55 = .ok (.istore 5, 2) := by decide +kernel
theorem dX8_drawn_57 : decode cX8_drawn 57 = .ok (.iconst 0, 1) := by decide +kernel
theorem dX8_drawn_58 : decode cX8_drawn 58 = .ok (.istore 6, 2) := by decide +kernel
theorem dX8_drawn_60 : decode cX8_drawn 60 = .ok (.iload 6, 2) := by decide +kernel
theorem dX8_drawn_62 : decode cX8_drawn 62 = .ok (.iload_n 2, 1) := by decide +kernel
theorem dX8_drawn_63 : decode cX8_drawn 63 = .ok (.if_icmp .ge 22, 3) := by decide +kernel
theorem dX8_drawn_66 : decode cX8_drawn 66 = .ok (.aload_n 0, 1) := by decide +kernel
theorem dX8_drawn_67 : decode cX8_drawn 67 = .ok (.iload_n 1, 1) := by decide +kernel
theorem dX8_drawn_68 : decode cX8_drawn 68 = .ok (.iload 6, 2) := by decide +kernel
theorem dX8_drawn_70 : decode cX8_drawn 70 = .ok (.invokevirtual 267, 3) := by decide +kernel
theorem dX8_drawn_73 : decode cX8_drawn 73 = .ok (.aload_n 0, 1) := by decide +kernel
theorem dX8_drawn_74 : decode cX8_drawn 74 = .ok (.bipush (-4), 2) := by decide +kernel
theorem dX8_drawn_76 : decode cX8_drawn 76 = .ok (.invokevirtual 232, 3) := by decide +kernel
theorem dX8_drawn_79 : decode cX8_drawn 79 = .ok (.iinc 6 1, 3) := by decide +kernel
theorem dX8_drawn_82 : decode cX8_drawn 82 = .ok (.goto (-22), 3) := by decide +kernel
theorem dX8_drawn_85 : decode cX8_drawn 85 = .ok (.iload_n 3, 1) := by decide +kernel
theorem dX8_drawn_86 : decode cX8_drawn 86 = .ok (.ifCond .ne 10, 3) := by decide +kernel
theorem dX8_drawn_89 : decode cX8_drawn 89 = .ok (.aload_n 0, 1) := by decide +kernel
theorem dX8_drawn_90 : decode cX8_drawn 90 = .ok (.invokevirtual 259, 3) := by decide +kernel
theorem dX8_drawn_93 : decode cX8_drawn 93 = .ok (.goto 28, 3) := by decide +kernel
theorem dX8_drawn_96 : decode cX8_drawn 96 = .ok (.iload_n 3, 1) := by decide +kernel
theorem dX8_drawn_97 : decode cX8_drawn 97 = .ok (.iconst 1, 1) := by decide +kernel
theorem dX8_drawn_98 : decode cX8_drawn 98 = .ok (.if_icmp .ne 13, 3) := by decide +kernel
theorem dX8_drawn_101 : decode cX8_drawn 101 = .ok (.aload_n 0, 1) := by decide +kernel
theorem dX8_drawn_102 : decode cX8_drawn 102 = .ok (.invokevirtual 229, 3) := by decide +kernel
theorem dX8_drawn_105 : decode cX8_drawn 105 = .ok (.iload 4, 2) := by decide +kernel
theorem dX8_drawn_107 : decode cX8_drawn 107 = .ok (.isub, 1) := by decide +kernel
theorem dX8_drawn_108 : decode cX8_drawn 108 = .ok (.goto 13, 3) := by decide +kernel
theorem dX8_drawn_111 : decode cX8_drawn 111 = .ok (.aload_n 0, 1) := by decide +kernel
theorem dX8_drawn_112 : decode cX8_drawn 112 = .ok (.getfield 7, 3) := by decide +kernel
theorem dX8_drawn_115 : decode cX8_drawn 115 = .ok (.bipush 76, 2) := by decide +kernel
theorem dX8_drawn_117 : decode cX8_drawn 117 = .ok (.iaload, 1) := by decide +kernel
theorem dX8_drawn_118 : decode cX8_drawn 118 = .ok (.iload 5, 2) := by decide +kernel
theorem dX8_drawn_120 : decode cX8_drawn 120 = .ok (.isub, 1) := by decide +kernel
theorem dX8_drawn_121 : decode cX8_drawn 121 = .ok (.istore 6, 2) := by decide +kernel
theorem dX8_drawn_123 : decode cX8_drawn 123 = .ok (.aload_n 0, 1) := by decide +kernel
theorem dX8_drawn_124 : decode cX8_drawn 124 = .ok (.invokevirtual 262, 3) := by decide +kernel
theorem dX8_drawn_127 : decode cX8_drawn 127 = .ok (.iload 6, 2) := by decide +kernel
theorem dX8_drawn_129 : decode cX8_drawn 129 = .ok (.ireturn, 1) := by decide +kernel
theorem dX8_count_0 : decode cX8_count 0 = .ok (.iload_n 1, 1) := by decide +kernel
theorem dX8_count_1 : decode cX8_count 1 = .ok (.tableswitch 150 0 12 #[67, 74, 81, 88, 93, 101, 109, 117, 122, 127, 135, 140, 145], 67) := by decide +kernel
theorem dX8_count_68 : decode cX8_count 68 = .ok (.aload_n 0, 1) := by decide +kernel
theorem dX8_count_69 : decode cX8_count 69 = .ok (.getfield 7, 3) := by decide +kernel
theorem dX8_count_72 : decode cX8_count 72 = .ok (.iconst 0, 1) := by decide +kernel
theorem dX8_count_73 : decode cX8_count 73 = .ok (.iaload, 1) := by decide +kernel
theorem dX8_count_74 : decode cX8_count 74 = .ok (.ireturn, 1) := by decide +kernel
theorem dX8_count_75 : decode cX8_count 75 = .ok (.aload_n 0, 1) := by decide +kernel
theorem dX8_count_76 : decode cX8_count 76 = .ok (.getfield 7, 3) := by decide +kernel
theorem dX8_count_79 : decode cX8_count 79 = .ok (.iconst 1, 1) := by decide +kernel
theorem dX8_count_80 : decode cX8_count 80 = .ok (.iaload, 1) := by decide +kernel
theorem dX8_count_81 : decode cX8_count 81 = .ok (.ireturn, 1) := by decide +kernel
theorem dX8_count_82 : decode cX8_count 82 = .ok (.aload_n 0, 1) := by decide +kernel
theorem dX8_count_83 : decode cX8_count 83 = .ok (.getfield 7, 3) := by decide +kernel
theorem dX8_count_86 : decode cX8_count 86 = .ok (.iconst 5, 1) := by decide +kernel
theorem dX8_count_87 : decode cX8_count 87 = .ok (.iaload, 1) := by decide +kernel
theorem dX8_count_88 : decode cX8_count 88 = .ok (.ireturn, 1) := by decide +kernel
theorem dX8_count_89 : decode cX8_count 89 = .ok (.aload_n 0, 1) := by decide +kernel
theorem dX8_count_90 : decode cX8_count 90 = .ok (.invokevirtual 153, 3) := by decide +kernel
theorem dX8_count_93 : decode cX8_count 93 = .ok (.ireturn, 1) := by decide +kernel
theorem dX8_count_94 : decode cX8_count 94 = .ok (.aload_n 0, 1) := by decide +kernel
theorem dX8_count_95 : decode cX8_count 95 = .ok (.getfield 7, 3) := by decide +kernel
theorem dX8_count_98 : decode cX8_count 98 = .ok (.bipush 65, 2) := by decide +kernel
theorem dX8_count_100 : decode cX8_count 100 = .ok (.iaload, 1) := by decide +kernel
theorem dX8_count_101 : decode cX8_count 101 = .ok (.ireturn, 1) := by decide +kernel
theorem dX8_count_102 : decode cX8_count 102 = .ok (.aload_n 0, 1) := by decide +kernel
theorem dX8_count_103 : decode cX8_count 103 = .ok (.getfield 7, 3) := by decide +kernel
theorem dX8_count_106 : decode cX8_count 106 = .ok (.bipush 64, 2) := by decide +kernel
theorem dX8_count_108 : decode cX8_count 108 = .ok (.iaload, 1) := by decide +kernel
theorem dX8_count_109 : decode cX8_count 109 = .ok (.ireturn, 1) := by decide +kernel
theorem dX8_count_110 : decode cX8_count 110 = .ok (.aload_n 0, 1) := by decide +kernel
theorem dX8_count_111 : decode cX8_count 111 = .ok (.getfield 7, 3) := by decide +kernel
theorem dX8_count_114 : decode cX8_count 114 = .ok (.bipush 66, 2) := by decide +kernel
theorem dX8_count_116 : decode cX8_count 116 = .ok (.iaload, 1) := by decide +kernel
theorem dX8_count_117 : decode cX8_count 117 = .ok (.ireturn, 1) := by decide +kernel
theorem dX8_count_118 : decode cX8_count 118 = .ok (.aload_n 0, 1) := by decide +kernel
theorem dX8_count_119 : decode cX8_count 119 = .ok (.invokevirtual 259, 3) := by decide +kernel
theorem dX8_count_122 : decode cX8_count 122 = .ok (.ireturn, 1) := by decide +kernel
theorem dX8_count_123 : decode cX8_count 123 = .ok (.aload_n 0, 1) := by decide +kernel
theorem dX8_count_124 : decode cX8_count 124 = .ok (.invokevirtual 229, 3) := by decide +kernel
theorem dX8_count_127 : decode cX8_count 127 = .ok (.ireturn, 1) := by decide +kernel
theorem dX8_count_128 : decode cX8_count 128 = .ok (.aload_n 0, 1) := by decide +kernel
theorem dX8_count_129 : decode cX8_count 129 = .ok (.getfield 7, 3) := by decide +kernel
theorem dX8_count_132 : decode cX8_count 132 = .ok (.bipush 76, 2) := by decide +kernel
theorem dX8_count_134 : decode cX8_count 134 = .ok (.iaload, 1) := by decide +kernel
theorem dX8_count_135 : decode cX8_count 135 = .ok (.ireturn, 1) := by decide +kernel
theorem dX8_count_136 : decode cX8_count 136 = .ok (.aload_n 0, 1) := by decide +kernel
theorem dX8_count_137 : decode cX8_count 137 = .ok (.invokevirtual 256, 3) := by decide +kernel
theorem dX8_count_140 : decode cX8_count 140 = .ok (.ireturn, 1) := by decide +kernel
theorem dX8_count_141 : decode cX8_count 141 = .ok (.aload_n 0, 1) := by decide +kernel
theorem dX8_count_142 : decode cX8_count 142 = .ok (.getfield 70, 3) := by decide +kernel
theorem dX8_count_145 : decode cX8_count 145 = .ok (.ireturn, 1) := by decide +kernel
theorem dX8_count_146 : decode cX8_count 146 = .ok (.aload_n 0, 1) := by decide +kernel
theorem dX8_count_147 : decode cX8_count 147 = .ok (.getfield 77, 3) := by decide +kernel
theorem dX8_count_150 : decode cX8_count 150 = .ok (.ireturn, 1) := by decide +kernel
theorem dX8_count_151 : decode cX8_count 151 = .ok (.iconst (-1), 1) := by decide +kernel
theorem dX8_count_152 : decode cX8_count 152 = .ok (.ireturn, 1) := by decide +kernel
