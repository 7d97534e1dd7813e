theorem dX0_init_0 : decode cX0_init 0 = .ok (.aload_n 0, 1) := by decide +kernel
theorem dX0_init_1 : decode cX0_init 1 = .ok (.invokespecial 3, 3) := by decide +kernel
theorem dX0_init_4 : decode cX0_init 4 = .ok (.aload_n 0, 1) := by decide +kernel
theorem dX0_init_5 : decode cX0_init 5 = .ok (.bipush 6, 2) := by decide +kernel
theorem dX0_init_7 : decode cX0_init 7 = .ok (.newarray .int, 2) := by decide +kernel
theorem dX0_init_9 : decode cX0_init 9 = .ok (.putfield 9, 3) := by decide +kernel
theorem dX0_init_12 : decode cX0_init 12 = .ok (.aload_n 0, 1) := by decide +kernel
theorem dX0_init_13 : decode cX0_init 13 = .ok (.bipush 7, 2) := by decide +kernel
theorem dX0_init_15 : decode cX0_init 15 = .ok (.newarray .long, 2) := by decide +kernel
theorem dX0_init_17 : decode cX0_init 17 = .ok (.putfield 15, 3) := by decide +kernel
theorem dX0_init_20 : decode cX0_init 20 = .ok (.aload_n 0, 1) := by decide +kernel
theorem dX0_init_21 : decode cX0_init 21 = .ok (.bipush 7, 2) := by decide +kernel
theorem dX0_init_23 : decode cX0_init 23 = .ok (.newarray .long, 2) := by decide +kernel
theorem dX0_init_25 : decode cX0_init 25 = .ok (.putfield 19, 3) := by decide +kernel
theorem dX0_init_28 : decode cX0_init 28 = .ok (.aload_n 0, 1) := by decide +kernel
theorem dX0_init_29 : decode cX0_init 29 = .ok (.lconst 0, 1) := by decide +kernel
theorem dX0_init_30 : decode cX0_init 30 = .ok (.putfield 22, 3) := by decide +kernel
theorem dX0_init_33 : decode cX0_init 33 = .ok (.aload_n 0, 1) := by decide +kernel
theorem dX0_init_34 : decode cX0_init 34 = .ok (.lconst 1, 1) := by decide +kernel
theorem dX0_init_35 : decode cX0_init 35 = .ok (.putfield 26, 3) := by decide +kernel
theorem dX0_init_38 : decode cX0_init 38 = .ok (.aload_n 0, 1) := by decide +kernel
theorem dX0_init_39 : decode cX0_init 39 = .ok (.getfield 9, 3) := by decide +kernel
theorem dX0_init_42 : decode cX0_init 42 = .ok (.bipush 10, 2) := by decide +kernel
theorem dX0_init_44 : decode cX0_init 44 = .ok (.invokestatic 29, 3) := by decide +kernel
theorem dX0_init_47 : decode cX0_init 47 = .ok (.return_, 1) := by decide +kernel
theorem dX0_reset_0 : decode cX0_reset 0 = .ok (.aload_n 0, 1) := by decide +kernel
theorem dX0_reset_1 : decode cX0_reset 1 = .ok (.getfield 9, 3) := by decide +kernel
theorem dX0_reset_4 : decode cX0_reset 4 = .ok (.bipush 10, 2) := by decide +kernel
theorem dX0_reset_6 : decode cX0_reset 6 = .ok (.invokestatic 29, 3) := by decide +kernel
theorem dX0_reset_9 : decode cX0_reset 9 = .ok (.return_, 1) := by decide +kernel
theorem dX0_change_0 : decode cX0_change 0 = .ok (.aload_n 0, 1) := by decide +kernel
theorem dX0_change_1 : decode cX0_change 1 = .ok (.getfield 9, 3) := by decide +kernel
theorem dX0_change_4 : decode cX0_change 4 = .ok (.iload_n 1, 1) := by decide +kernel
theorem dX0_change_5 : decode cX0_change 5 = .ok (.invokestatic 35, 3) := by decide +kernel
theorem dX0_change_8 : decode cX0_change 8 = .ok (.istore_n 3, 1) := by decide +kernel
theorem dX0_change_9 : decode cX0_change 9 = .ok (.aload_n 0, 1) := by decide +kernel
theorem dX0_change_10 : decode cX0_change 10 = .ok (.getfield 9, 3) := by decide +kernel
theorem dX0_change_13 : decode cX0_change 13 = .ok (.iload_n 1, 1) := by decide +kernel
theorem dX0_change_14 : decode cX0_change 14 = .ok (.iload_n 2, 1) := by decide +kernel
theorem dX0_change_15 : decode cX0_change 15 = .ok (.invokestatic 39, 3) := by decide +kernel
theorem dX0_change_18 : decode cX0_change 18 = .ok (.iload_n 3, 1) := by decide +kernel
theorem dX0_change_19 : decode cX0_change 19 = .ok (.ireturn, 1) := by decide +kernel
theorem dX0_above_0 : decode cX0_above 0 = .ok (.aload_n 0, 1) := by decide +kernel
theorem dX0_above_1 : decode cX0_above 1 = .ok (.getfield 22, 3) := by decide +kernel
theorem dX0_above_4 : decode cX0_above 4 = .ok (.lreturn, 1) := by decide +kernel
theorem dX0_below_0 : decode cX0_below 0 = .ok (.aload_n 0, 1) := by decide +kernel
theorem dX0_below_1 : decode cX0_below 1 = .ok (.getfield 26, 3) := by decide +kernel
theorem dX0_below_4 : decode cX0_below 4 = .ok (.lreturn, 1) := by decide +kernel
theorem dX0_weigh_0 : decode cX0_weigh 0 = .ok (.aload_n 0, 1) := by decide +kernel
theorem dX0_weigh_1 : decode cX0_weigh 1 = .ok (.iload_n 1, 1) := by decide +kernel
theorem dX0_weigh_2 : decode cX0_weigh 2 = .ok (.aload_n 0, 1) := by decide +kernel
theorem dX0_weigh_3 : decode cX0_weigh 3 = .ok (.getfield 15, 3) := by decide +kernel
theorem dX0_weigh_6 : decode cX0_weigh 6 = .ok (.invokevirtual 43, 3) := by decide +kernel
theorem dX0_weigh_9 : decode cX0_weigh 9 = .ok (.aload_n 0, 1) := by decide +kernel
theorem dX0_weigh_10 : decode cX0_weigh 10 = .ok (.iload_n 2, 1) := by decide +kernel
theorem dX0_weigh_11 : decode cX0_weigh 11 = .ok (.aload_n 0, 1) := by decide +kernel
theorem dX0_weigh_12 : decode cX0_weigh 12 = .ok (.getfield 19, 3) := by decide +kernel
theorem dX0_weigh_15 : decode cX0_weigh 15 = .ok (.invokevirtual 43, 3) := by decide +kernel
theorem dX0_weigh_18 : decode cX0_weigh 18 = .ok (.lmul, 1) := by decide +kernel
theorem dX0_weigh_19 : decode cX0_weigh 19 = .ok (.lstore_n 3, 1) := by decide +kernel
theorem dX0_weigh_20 : decode cX0_weigh 20 = .ok (.lconst 0, 1) := by decide +kernel
theorem dX0_weigh_21 : decode cX0_weigh 21 = .ok (.lstore 5, 2) := by decide +kernel
theorem dX0_weigh_23 : decode cX0_weigh 23 = .ok (.iconst 1, 1) := by decide +kernel
theorem dX0_weigh_24 : decode cX0_weigh 24 = .ok (.istore 7, 2) := by decide +kernel
theorem dX0_weigh_26 : decode cX0_weigh 26 = .ok (.iload 7, 2) := by decide +kernel
theorem dX0_weigh_28 : decode cX0_weigh 28 = .ok (.bipush 6, 2) := by decide +kernel
theorem dX0_weigh_30 : decode cX0_weigh 30 = .ok (.if_icmp .gt 33, 3) := by decide +kernel
theorem dX0_weigh_33 : decode cX0_weigh 33 = .ok (.lload 5, 2) := by decide +kernel
theorem dX0_weigh_35 : decode cX0_weigh 35 = .ok (.aload_n 0, 1) := by decide +kernel
theorem dX0_weigh_36 : decode cX0_weigh 36 = .ok (.getfield 15, 3) := by decide +kernel
theorem dX0_weigh_39 : decode cX0_weigh 39 = .ok (.iload 7, 2) := by decide +kernel
theorem dX0_weigh_41 : decode cX0_weigh 41 = .ok (.invokestatic 47, 3) := by decide +kernel
theorem dX0_weigh_44 : decode cX0_weigh 44 = .ok (.aload_n 0, 1) := by decide +kernel
theorem dX0_weigh_45 : decode cX0_weigh 45 = .ok (.getfield 19, 3) := by decide +kernel
theorem dX0_weigh_48 : decode cX0_weigh 48 = .ok (.iload 7, 2) := by decide +kernel
theorem dX0_weigh_50 : decode cX0_weigh 50 = .ok (.invokestatic 47, 3) := by decide +kernel
theorem dX0_weigh_53 : decode cX0_weigh 53 = .ok (.lmul, 1) := by decide +kernel
theorem dX0_weigh_54 : decode cX0_weigh 54 = .ok (.ladd, 1) := by decide +kernel
theorem dX0_weigh_55 : decode cX0_weigh 55 = .ok (.lstore 5, 2) := by decide +kernel
theorem dX0_weigh_57 : decode cX0_weigh 57 = .ok (.iinc 7 1, 3) := by decide +kernel
theorem dX0_weigh_60 : decode cX0_weigh 60 = .ok (.goto (-34), 3) := by decide +kernel
theorem dX0_weigh_63 : decode cX0_weigh 63 = .ok (.lload_n 3, 1) := by decide +kernel
theorem dX0_weigh_64 : decode cX0_weigh 64 = .ok (.lload 5, 2) := by decide +kernel
theorem dX0_weigh_66 : decode cX0_weigh 66 = .ok (.invokestatic 50, 3) := by decide +kernel
theorem dX0_weigh_69 : decode cX0_weigh 69 = .ok (.lstore 7, 2) := by decide +kernel
theorem dX0_weigh_71 : decode cX0_weigh 71 = .ok (.lload 7, 2) := by decide +kernel
theorem dX0_weigh_73 : decode cX0_weigh 73 = .ok (.lconst 0, 1) := by decide +kernel
theorem dX0_weigh_74 : decode cX0_weigh 74 = .ok (.lcmp, 1) := by decide +kernel
theorem dX0_weigh_75 : decode cX0_weigh 75 = .ok (.ifCond .eq 20, 3) := by decide +kernel
theorem dX0_weigh_78 : decode cX0_weigh 78 = .ok (.aload_n 0, 1) := by decide +kernel
theorem dX0_weigh_79 : decode cX0_weigh 79 = .ok (.lload 5, 2) := by decide +kernel
theorem dX0_weigh_81 : decode cX0_weigh 81 = .ok (.lload 7, 2) := by decide +kernel
theorem dX0_weigh_83 : decode cX0_weigh 83 = .ok (.ldiv, 1) := by decide +kernel
theorem dX0_weigh_84 : decode cX0_weigh 84 = .ok (.putfield 22, 3) := by decide +kernel
theorem dX0_weigh_87 : decode cX0_weigh 87 = .ok (.aload_n 0, 1) := by decide +kernel
theorem dX0_weigh_88 : decode cX0_weigh 88 = .ok (.lload_n 3, 1) := by decide +kernel
theorem dX0_weigh_89 : decode cX0_weigh 89 = .ok (.lload 7, 2) := by decide +kernel
theorem dX0_weigh_91 : decode cX0_weigh 91 = .ok (.ldiv, 1) := by decide +kernel
theorem dX0_weigh_92 : decode cX0_weigh 92 = .ok (.putfield 26, 3) := by decide +kernel
theorem dX0_weigh_95 : decode cX0_weigh 95 = .ok (.return_, 1) := by decide +kernel
theorem dX0_weighOne_0 : decode cX0_weighOne 0 = .ok (.lconst 1, 1) := by decide +kernel
theorem dX0_weighOne_1 : decode cX0_weighOne 1 = .ok (.lstore_n 3, 1) := by decide +kernel
theorem dX0_weighOne_2 : decode cX0_weighOne 2 = .ok (.aload_n 2, 1) := by decide +kernel
theorem dX0_weighOne_3 : decode cX0_weighOne 3 = .ok (.lconst 0, 1) := by decide +kernel
theorem dX0_weighOne_4 : decode cX0_weighOne 4 = .ok (.invokestatic 54, 3) := by decide +kernel
theorem dX0_weighOne_7 : decode cX0_weighOne 7 = .ok (.aload_n 2, 1) := by decide +kernel
theorem dX0_weighOne_8 : decode cX0_weighOne 8 = .ok (.iconst 0, 1) := by decide +kernel
theorem dX0_weighOne_9 : decode cX0_weighOne 9 = .ok (.lconst 1, 1) := by decide +kernel
theorem dX0_weighOne_10 : decode cX0_weighOne 10 = .ok (.invokestatic 57, 3) := by decide +kernel
theorem dX0_weighOne_13 : decode cX0_weighOne 13 = .ok (.iconst 0, 1) := by decide +kernel
theorem dX0_weighOne_14 : decode cX0_weighOne 14 = .ok (.istore 5, 2) := by decide +kernel
theorem dX0_weighOne_16 : decode cX0_weighOne 16 = .ok (.iload 5, 2) := by decide +kernel
theorem dX0_weighOne_18 : decode cX0_weighOne 18 = .ok (.bipush 6, 2) := by decide +kernel
theorem dX0_weighOne_20 : decode cX0_weighOne 20 = .ok (.if_icmp .ge 37, 3) := by decide +kernel
theorem dX0_weighOne_23 : decode cX0_weighOne 23 = .ok (.iload_n 1, 1) := by decide +kernel
theorem dX0_weighOne_24 : decode cX0_weighOne 24 = .ok (.iconst 1, 1) := by decide +kernel
theorem dX0_weighOne_25 : decode cX0_weighOne 25 = .ok (.iload 5, 2) := by decide +kernel
theorem dX0_weighOne_27 : decode cX0_weighOne 27 = .ok (.ishl, 1) := by decide +kernel
theorem dX0_weighOne_28 : decode cX0_weighOne 28 = .ok (.iand, 1) := by decide +kernel
theorem dX0_weighOne_29 : decode cX0_weighOne 29 = .ok (.ifCond .eq 22, 3) := by decide +kernel
theorem dX0_weighOne_32 : decode cX0_weighOne 32 = .ok (.aload_n 0, 1) := by decide +kernel
theorem dX0_weighOne_33 : decode cX0_weighOne 33 = .ok (.getfield 9, 3) := by decide +kernel
theorem dX0_weighOne_36 : decode cX0_weighOne 36 = .ok (.iload 5, 2) := by decide +kernel
theorem dX0_weighOne_38 : decode cX0_weighOne 38 = .ok (.invokestatic 35, 3) := by decide +kernel
theorem dX0_weighOne_41 : decode cX0_weighOne 41 = .ok (.aload_n 2, 1) := by decide +kernel
theorem dX0_weighOne_42 : decode cX0_weighOne 42 = .ok (.invokestatic 60, 3) := by decide +kernel
theorem dX0_weighOne_45 : decode cX0_weighOne 45 = .ok (.lload_n 3, 1) := by decide +kernel
theorem dX0_weighOne_46 : decode cX0_weighOne 46 = .ok (.ldc2_w 64, 3) := by decide +kernel
theorem dX0_weighOne_49 : decode cX0_weighOne 49 = .ok (.lmul, 1) := by decide +kernel
theorem dX0_weighOne_50 : decode cX0_weighOne 50 = .ok (.lstore_n 3, 1) := by decide +kernel
theorem dX0_weighOne_51 : decode cX0_weighOne 51 = .ok (.iinc 5 1, 3) := by decide +kernel
theorem dX0_weighOne_54 : decode cX0_weighOne 54 = .ok (.goto (-38), 3) := by decide +kernel
theorem dX0_weighOne_57 : decode cX0_weighOne 57 = .ok (.lload_n 3, 1) := by decide +kernel
theorem dX0_weighOne_58 : decode cX0_weighOne 58 = .ok (.lreturn, 1) := by decide +kernel
theorem dX0_join_0 : decode cX0_join 0 = .ok (.bipush 6, 2) := by decide +kernel
theorem dX0_join_2 : decode cX0_join 2 = .ok (.istore_n 2, 1) := by decide +kernel
theorem dX0_join_3 : decode cX0_join 3 = .ok (.iload_n 2, 1) := by decide +kernel
theorem dX0_join_4 : decode cX0_join 4 = .ok (.ifCond .lt 36, 3) := by decide +kernel
theorem dX0_join_7 : decode cX0_join 7 = .ok (.aload_n 1, 1) := by decide +kernel
theorem dX0_join_8 : decode cX0_join 8 = .ok (.iload_n 2, 1) := by decide +kernel
theorem dX0_join_9 : decode cX0_join 9 = .ok (.aload_n 1, 1) := by decide +kernel
theorem dX0_join_10 : decode cX0_join 10 = .ok (.iload_n 2, 1) := by decide +kernel
theorem dX0_join_11 : decode cX0_join 11 = .ok (.invokestatic 47, 3) := by decide +kernel
theorem dX0_join_14 : decode cX0_join 14 = .ok (.bipush 10, 2) := by decide +kernel
theorem dX0_join_16 : decode cX0_join 16 = .ok (.iload_n 0, 1) := by decide +kernel
theorem dX0_join_17 : decode cX0_join 17 = .ok (.isub, 1) := by decide +kernel
theorem dX0_join_18 : decode cX0_join 18 = .ok (.i2l, 1) := by decide +kernel
theorem dX0_join_19 : decode cX0_join 19 = .ok (.lmul, 1) := by decide +kernel
theorem dX0_join_20 : decode cX0_join 20 = .ok (.aload_n 1, 1) := by decide +kernel
theorem dX0_join_21 : decode cX0_join 21 = .ok (.iload_n 2, 1) := by decide +kernel
theorem dX0_join_22 : decode cX0_join 22 = .ok (.iconst 1, 1) := by decide +kernel
theorem dX0_join_23 : decode cX0_join 23 = .ok (.isub, 1) := by decide +kernel
theorem dX0_join_24 : decode cX0_join 24 = .ok (.invokestatic 47, 3) := by decide +kernel
theorem dX0_join_27 : decode cX0_join 27 = .ok (.iload_n 0, 1) := by decide +kernel
theorem dX0_join_28 : decode cX0_join 28 = .ok (.i2l, 1) := by decide +kernel
theorem dX0_join_29 : decode cX0_join 29 = .ok (.lmul, 1) := by decide +kernel
theorem dX0_join_30 : decode cX0_join 30 = .ok (.ladd, 1) := by decide +kernel
theorem dX0_join_31 : decode cX0_join 31 = .ok (.invokestatic 57, 3) := by decide +kernel
theorem dX0_join_34 : decode cX0_join 34 = .ok (.iinc 2 (-1), 3) := by decide +kernel
theorem dX0_join_37 : decode cX0_join 37 = .ok (.goto (-34), 3) := by decide +kernel
theorem dX0_join_40 : decode cX0_join 40 = .ok (.return_, 1) := by decide +kernel
theorem dX0_commonDivisor_0 : decode cX0_commonDivisor 0 = .ok (.lload_n 0, 1) := by decide +kernel
theorem dX0_commonDivisor_1 : decode cX0_commonDivisor 1 = .ok (.lstore 4, 2) := by decide +kernel
theorem dX0_commonDivisor_3 : decode cX0_commonDivisor 3 = .ok (.lload_n 2, 1) := by decide +kernel
theorem dX0_commonDivisor_4 : decode cX0_commonDivisor 4 = .ok (.lstore 6, 2) := by decide +kernel
theorem dX0_commonDivisor_6 : decode cX0_commonDivisor 6 = .ok (.iconst 0, 1) := by decide +kernel
theorem dX0_commonDivisor_7 : decode cX0_commonDivisor 7 = .ok (.istore 8, 2) := by decide +kernel
theorem dX0_commonDivisor_9 : decode cX0_commonDivisor 9 = .ok (.iload 8, 2) := by decide +kernel
theorem dX0_commonDivisor_11 : decode cX0_commonDivisor 11 = .ok (.bipush 100, 2) := by decide +kernel
theorem dX0_commonDivisor_13 : decode cX0_commonDivisor 13 = .ok (.if_icmp .ge 31, 3) := by decide +kernel
theorem dX0_commonDivisor_16 : decode cX0_commonDivisor 16 = .ok (.lload 6, 2) := by decide +kernel
theorem dX0_commonDivisor_18 : decode cX0_commonDivisor 18 = .ok (.lconst 0, 1) := by decide +kernel
theorem dX0_commonDivisor_19 : decode cX0_commonDivisor 19 = .ok (.lcmp, 1) := by decide +kernel
theorem dX0_commonDivisor_20 : decode cX0_commonDivisor 20 = .ok (.ifCond .eq 24, 3) := by decide +kernel
theorem dX0_commonDivisor_23 : decode cX0_commonDivisor 23 = .ok (.lload 4, 2) := by decide +kernel
theorem dX0_commonDivisor_25 : decode cX0_commonDivisor 25 = .ok (.lload 6, 2) := by decide +kernel
theorem dX0_commonDivisor_27 : decode cX0_commonDivisor 27 = .ok (.lrem, 1) := by decide +kernel
theorem dX0_commonDivisor_28 : decode cX0_commonDivisor 28 = .ok (.lstore 9, 2) := by decide +kernel
theorem dX0_commonDivisor_30 : decode cX0_commonDivisor 30 = .ok (.lload 6, 2) := by decide +kernel
theorem dX0_commonDivisor_32 : decode cX0_commonDivisor 32 = .ok (.lstore 4, 2) := by decide +kernel
theorem dX0_commonDivisor_34 : decode cX0_commonDivisor 34 = .ok (.lload 9, 2) := by decide +kernel
theorem dX0_commonDivisor_36 : decode cX0_commonDivisor 36 = .ok (.lstore 6, 2) := by decide +kernel
theorem dX0_commonDivisor_38 : decode cX0_commonDivisor 38 = .ok (.iinc 8 1, 3) := by decide +kernel
theorem dX0_commonDivisor_41 : decode cX0_commonDivisor 41 = .ok (.goto (-32), 3) := by decide +kernel
theorem dX0_commonDivisor_44 : decode cX0_commonDivisor 44 = .ok (.lload 4, 2) := by decide +kernel
theorem dX0_commonDivisor_46 : decode cX0_commonDivisor 46 = .ok (.lreturn, 1) := by decide +kernel
theorem dX1_init_0 : decode cX1_init 0 = .ok (.aload_n 0, 1) := by decide +kernel
theorem dX1_init_1 : decode cX1_init 1 = .ok (.invokespecial 3, 3) := by decide +kernel
theorem dX1_init_4 : decode cX1_init 4 = .ok (.aload_n 0, 1) := by decide +kernel
theorem dX1_init_5 : decode cX1_init 5 = .ok (.iconst 0, 1) := by decide +kernel
theorem dX1_init_6 : decode cX1_init 6 = .ok (.putfield 9, 3) := by decide +kernel
theorem dX1_init_9 : decode cX1_init 9 = .ok (.aload_n 0, 1) := by decide +kernel
theorem dX1_init_10 : decode cX1_init 10 = .ok (.iconst 0, 1) := by decide +kernel
theorem dX1_init_11 : decode cX1_init 11 = .ok (.putfield 15, 3) := by decide +kernel
theorem dX1_init_14 : decode cX1_init 14 = .ok (.aload_n 0, 1) := by decide +kernel
theorem dX1_init_15 : decode cX1_init 15 = .ok (.iconst 0, 1) := by decide +kernel
theorem dX1_init_16 : decode cX1_init 16 = .ok (.putfield 18, 3) := by decide +kernel
theorem dX1_init_19 : decode cX1_init 19 = .ok (.aload_n 0, 1) := by decide +kernel
theorem dX1_init_20 : decode cX1_init 20 = .ok (.iconst 0, 1) := by decide +kernel
theorem dX1_init_21 : decode cX1_init 21 = .ok (.putfield 21, 3) := by decide +kernel
theorem dX1_init_24 : decode cX1_init 24 = .ok (.return_, 1) := by decide +kernel
theorem dX1_begin_0 : decode cX1_begin 0 = .ok (.aload_n 0, 1) := by decide +kernel
theorem dX1_begin_1 : decode cX1_begin 1 = .ok (.iload_n 1, 1) := by decide +kernel
theorem dX1_begin_2 : decode cX1_begin 2 = .ok (.putfield 9, 3) := by decide +kernel
theorem dX1_begin_5 : decode cX1_begin 5 = .ok (.aload_n 0, 1) := by decide +kernel
theorem dX1_begin_6 : decode cX1_begin 6 = .ok (.iload_n 2, 1) := by decide +kernel
theorem dX1_begin_7 : decode cX1_begin 7 = .ok (.putfield 15, 3) := by decide +kernel
theorem dX1_begin_10 : decode cX1_begin 10 = .ok (.aload_n 0, 1) := by decide +kernel
theorem dX1_begin_11 : decode cX1_begin 11 = .ok (.iload_n 2, 1) := by decide +kernel
theorem dX1_begin_12 : decode cX1_begin 12 = .ok (.ifCond .ne 7, 3) := by decide +kernel
theorem dX1_begin_15 : decode cX1_begin 15 = .ok (.iconst 0, 1) := by decide +kernel
theorem dX1_begin_16 : decode cX1_begin 16 = .ok (.goto 8, 3) := by decide +kernel
theorem dX1_begin_19 : decode cX1_begin 19 = .ok (.iconst 0, 1) := by decide +kernel
theorem dX1_begin_20 : decode cX1_begin 20 = .ok (.iload_n 1, 1) := by decide +kernel
theorem dX1_begin_21 : decode cX1_begin 21 = .ok (.invokestatic 24, 3) := by decide +kernel
theorem dX1_begin_24 : decode cX1_begin 24 = .ok (.putfield 18, 3) := by decide +kernel
theorem dX1_begin_27 : decode cX1_begin 27 = .ok (.aload_n 0, 1) := by decide +kernel
theorem dX1_begin_28 : decode cX1_begin 28 = .ok (.iconst 0, 1) := by decide +kernel
theorem dX1_begin_29 : decode cX1_begin 29 = .ok (.putfield 21, 3) := by decide +kernel
theorem dX1_begin_32 : decode cX1_begin 32 = .ok (.return_, 1) := by decide +kernel
theorem dX1_next_0 : decode cX1_next 0 = .ok (.iconst 0, 1) := by decide +kernel
theorem dX1_next_1 : decode cX1_next 1 = .ok (.istore_n 1, 1) := by decide +kernel
theorem dX1_next_2 : decode cX1_next 2 = .ok (.iload_n 1, 1) := by decide +kernel
theorem dX1_next_3 : decode cX1_next 3 = .ok (.bipush 64, 2) := by decide +kernel
theorem dX1_next_5 : decode cX1_next 5 = .ok (.if_icmp .ge 75, 3) := by decide +kernel
theorem dX1_next_8 : decode cX1_next 8 = .ok (.aload_n 0, 1) := by decide +kernel
theorem dX1_next_9 : decode cX1_next 9 = .ok (.getfield 18, 3) := by decide +kernel
theorem dX1_next_12 : decode cX1_next 12 = .ok (.ifCond .eq 68, 3) := by decide +kernel
theorem dX1_next_15 : decode cX1_next 15 = .ok (.aload_n 0, 1) := by decide +kernel
theorem dX1_next_16 : decode cX1_next 16 = .ok (.aload_n 0, 1) := by decide +kernel
theorem dX1_next_17 : decode cX1_next 17 = .ok (.getfield 21, 3) := by decide +kernel
theorem dX1_next_20 : decode cX1_next 20 = .ok (.aload_n 0, 1) := by decide +kernel
theorem dX1_next_21 : decode cX1_next 21 = .ok (.getfield 15, 3) := by decide +kernel
theorem dX1_next_24 : decode cX1_next 24 = .ok (.invokestatic 24, 3) := by decide +kernel
theorem dX1_next_27 : decode cX1_next 27 = .ok (.putfield 21, 3) := by decide +kernel
theorem dX1_next_30 : decode cX1_next 30 = .ok (.aload_n 0, 1) := by decide +kernel
theorem dX1_next_31 : decode cX1_next 31 = .ok (.getfield 21, 3) := by decide +kernel
theorem dX1_next_34 : decode cX1_next 34 = .ok (.ifCond .ne 21, 3) := by decide +kernel
theorem dX1_next_37 : decode cX1_next 37 = .ok (.aload_n 0, 1) := by decide +kernel
theorem dX1_next_38 : decode cX1_next 38 = .ok (.aload_n 0, 1) := by decide +kernel
theorem dX1_next_39 : decode cX1_next 39 = .ok (.getfield 18, 3) := by decide +kernel
theorem dX1_next_42 : decode cX1_next 42 = .ok (.aload_n 0, 1) := by decide +kernel
theorem dX1_next_43 : decode cX1_next 43 = .ok (.getfield 9, 3) := by decide +kernel
theorem dX1_next_46 : decode cX1_next 46 = .ok (.invokestatic 24, 3) := by decide +kernel
theorem dX1_next_49 : decode cX1_next 49 = .ok (.putfield 18, 3) := by decide +kernel
theorem dX1_next_52 : decode cX1_next 52 = .ok (.goto 22, 3) := by decide +kernel
theorem dX1_next_55 : decode cX1_next 55 = .ok (.aload_n 0, 1) := by decide +kernel
theorem dX1_next_56 : decode cX1_next 56 = .ok (.getfield 21, 3) := by decide +kernel
theorem dX1_next_59 : decode cX1_next 59 = .ok (.invokestatic 28, 3) := by decide +kernel
theorem dX1_next_62 : decode cX1_next 62 = .ok (.aload_n 0, 1) := by decide +kernel
theorem dX1_next_63 : decode cX1_next 63 = .ok (.getfield 18, 3) := by decide +kernel
theorem dX1_next_66 : decode cX1_next 66 = .ok (.invokestatic 28, 3) := by decide +kernel
theorem dX1_next_69 : decode cX1_next 69 = .ok (.if_icmp .ne 5, 3) := by decide +kernel
theorem dX1_next_72 : decode cX1_next 72 = .ok (.iconst 1, 1) := by decide +kernel
theorem dX1_next_73 : decode cX1_next 73 = .ok (.ireturn, 1) := by decide +kernel
theorem dX1_next_74 : decode cX1_next 74 = .ok (.iinc 1 1, 3) := by decide +kernel
theorem dX1_next_77 : decode cX1_next 77 = .ok (.goto (-75), 3) := by decide +kernel
theorem dX1_next_80 : decode cX1_next 80 = .ok (.iconst 0, 1) := by decide +kernel
theorem dX1_next_81 : decode cX1_next 81 = .ok (.ireturn, 1) := by decide +kernel
theorem dX1_nextSet_0 : decode cX1_nextSet 0 = .ok (.iload_n 0, 1) := by decide +kernel
theorem dX1_nextSet_1 : decode cX1_nextSet 1 = .ok (.iload_n 1, 1) := by decide +kernel
theorem dX1_nextSet_2 : decode cX1_nextSet 2 = .ok (.isub, 1) := by decide +kernel
theorem dX1_nextSet_3 : decode cX1_nextSet 3 = .ok (.iload_n 1, 1) := by decide +kernel
theorem dX1_nextSet_4 : decode cX1_nextSet 4 = .ok (.iand, 1) := by decide +kernel
theorem dX1_nextSet_5 : decode cX1_nextSet 5 = .ok (.ireturn, 1) := by decide +kernel
theorem dX2_of_0 : decode cX2_of 0 = .ok (.iload_n 0, 1) := by decide +kernel
theorem dX2_of_1 : decode cX2_of 1 = .ok (.bipush 12, 2) := by decide +kernel
theorem dX2_of_3 : decode cX2_of 3 = .ok (.ishl, 1) := by decide +kernel
theorem dX2_of_4 : decode cX2_of 4 = .ok (.iload_n 1, 1) := by decide +kernel
theorem dX2_of_5 : decode cX2_of 5 = .ok (.bipush 6, 2) := by decide +kernel
theorem dX2_of_7 : decode cX2_of 7 = .ok (.ishl, 1) := by decide +kernel
theorem dX2_of_8 : decode cX2_of 8 = .ok (.ior, 1) := by decide +kernel
theorem dX2_of_9 : decode cX2_of 9 = .ok (.iload_n 2, 1) := by decide +kernel
theorem dX2_of_10 : decode cX2_of 10 = .ok (.ior, 1) := by decide +kernel
theorem dX2_of_11 : decode cX2_of 11 = .ok (.ireturn, 1) := by decide +kernel
theorem dX2_tells_0 : decode cX2_tells 0 = .ok (.iload_n 0, 1) := by decide +kernel
theorem dX2_tells_1 : decode cX2_tells 1 = .ok (.ifCond .lt 12, 3) := by decide +kernel
theorem dX2_tells_4 : decode cX2_tells 4 = .ok (.iload_n 0, 1) := by decide +kernel
theorem dX2_tells_5 : decode cX2_tells 5 = .ok (.iconst 2, 1) := by decide +kernel
theorem dX2_tells_6 : decode cX2_tells 6 = .ok (.if_icmp .gt 7, 3) := by decide +kernel
theorem dX2_tells_9 : decode cX2_tells 9 = .ok (.iconst 1, 1) := by decide +kernel
theorem dX2_tells_10 : decode cX2_tells 10 = .ok (.goto 4, 3) := by decide +kernel
theorem dX2_tells_13 : decode cX2_tells 13 = .ok (.iconst 0, 1) := by decide +kernel
theorem dX2_tells_14 : decode cX2_tells 14 = .ok (.ireturn, 1) := by decide +kernel
theorem dX2_told_0 : decode cX2_told 0 = .ok (.iload_n 1, 1) := by decide +kernel
theorem dX2_told_1 : decode cX2_told 1 = .ok (.lookupswitch 40 #[(0, 27), (1, 32)], 27) := by decide +kernel
theorem dX2_told_28 : decode cX2_told 28 = .ok (.iload_n 0, 1) := by decide +kernel
theorem dX2_told_29 : decode cX2_told 29 = .ok (.bipush 12, 2) := by decide +kernel
theorem dX2_told_31 : decode cX2_told 31 = .ok (.ishr, 1) := by decide +kernel
theorem dX2_told_32 : decode cX2_told 32 = .ok (.ireturn, 1) := by decide +kernel
theorem dX2_told_33 : decode cX2_told 33 = .ok (.iload_n 0, 1) := by decide +kernel
theorem dX2_told_34 : decode cX2_told 34 = .ok (.bipush 6, 2) := by decide +kernel
theorem dX2_told_36 : decode cX2_told 36 = .ok (.ishr, 1) := by decide +kernel
theorem dX2_told_37 : decode cX2_told 37 = .ok (.bipush 63, 2) := by decide +kernel
theorem dX2_told_39 : decode cX2_told 39 = .ok (.iand, 1) := by decide +kernel
theorem dX2_told_40 : decode cX2_told 40 = .ok (.ireturn, 1) := by decide +kernel
theorem dX2_told_41 : decode cX2_told 41 = .ok (.iload_n 0, 1) := by decide +kernel
theorem dX2_told_42 : decode cX2_told 42 = .ok (.bipush 63, 2) := by decide +kernel
theorem dX2_told_44 : decode cX2_told 44 = .ok (.iand, 1) := by decide +kernel
theorem dX2_told_45 : decode cX2_told 45 = .ok (.ireturn, 1) := by decide +kernel
theorem dX2_floorOf_0 : decode cX2_floorOf 0 = .ok (.iload_n 0, 1) := by decide +kernel
theorem dX2_floorOf_1 : decode cX2_floorOf 1 = .ok (.iconst 0, 1) := by decide +kernel
theorem dX2_floorOf_2 : decode cX2_floorOf 2 = .ok (.invokestatic 11, 3) := by decide +kernel
theorem dX2_floorOf_5 : decode cX2_floorOf 5 = .ok (.ireturn, 1) := by decide +kernel
theorem dX3_init_0 : decode cX3_init 0 = .ok (.aload_n 0, 1) := by decide +kernel
theorem dX3_init_1 : decode cX3_init 1 = .ok (.invokespecial 3, 3) := by decide +kernel
theorem dX3_init_4 : decode cX3_init 4 = .ok (.aload_n 0, 1) := by decide +kernel
theorem dX3_init_5 : decode cX3_init 5 = .ok (.iconst 2, 1) := by decide +kernel
theorem dX3_init_6 : decode cX3_init 6 = .ok (.putfield 9, 3) := by decide +kernel
theorem dX3_init_9 : decode cX3_init 9 = .ok (.aload_n 0, 1) := by decide +kernel
theorem dX3_init_10 : decode cX3_init 10 = .ok (.iconst 0, 1) := by decide +kernel
theorem dX3_init_11 : decode cX3_init 11 = .ok (.putfield 15, 3) := by decide +kernel
theorem dX3_init_14 : decode cX3_init 14 = .ok (.aload_n 0, 1) := by decide +kernel
theorem dX3_init_15 : decode cX3_init 15 = .ok (.iconst 0, 1) := by decide +kernel
theorem dX3_init_16 : decode cX3_init 16 = .ok (.putfield 18, 3) := by decide +kernel
theorem dX3_init_19 : decode cX3_init 19 = .ok (.aload_n 0, 1) := by decide +kernel
theorem dX3_init_20 : decode cX3_init 20 = .ok (.iconst 4, 1) := by decide +kernel
theorem dX3_init_21 : decode cX3_init 21 = .ok (.newarray .int, 2) := by decide +kernel
theorem dX3_init_23 : decode cX3_init 23 = .ok (.putfield 21, 3) := by decide +kernel
theorem dX3_init_26 : decode cX3_init 26 = .ok (.aload_n 0, 1) := by decide +kernel
theorem dX3_init_27 : decode cX3_init 27 = .ok (.iconst 4, 1) := by decide +kernel
theorem dX3_init_28 : decode cX3_init 28 = .ok (.newarray .int, 2) := by decide +kernel
theorem dX3_init_30 : decode cX3_init 30 = .ok (.putfield 25, 3) := by decide +kernel
theorem dX3_init_33 : decode cX3_init 33 = .ok (.aload_n 0, 1) := by decide +kernel
theorem dX3_init_34 : decode cX3_init 34 = .ok (.bipush 6, 2) := by decide +kernel
theorem dX3_init_36 : decode cX3_init 36 = .ok (.newarray .int, 2) := by decide +kernel
theorem dX3_init_38 : decode cX3_init 38 = .ok (.putfield 28, 3) := by decide +kernel
theorem dX3_init_41 : decode cX3_init 41 = .ok (.aload_n 0, 1) := by decide +kernel
theorem dX3_init_42 : decode cX3_init 42 = .ok (.bipush 6, 2) := by decide +kernel
theorem dX3_init_44 : decode cX3_init 44 = .ok (.newarray .int, 2) := by decide +kernel
theorem dX3_init_46 : decode cX3_init 46 = .ok (.putfield 31, 3) := by decide +kernel
theorem dX3_init_49 : decode cX3_init 49 = .ok (.return_, 1) := by decide +kernel
theorem dX3_empty_0 : decode cX3_empty 0 = .ok (.aload_n 0, 1) := by decide +kernel
theorem dX3_empty_1 : decode cX3_empty 1 = .ok (.iload_n 1, 1) := by decide +kernel
theorem dX3_empty_2 : decode cX3_empty 2 = .ok (.putfield 9, 3) := by decide +kernel
theorem dX3_empty_5 : decode cX3_empty 5 = .ok (.aload_n 0, 1) := by decide +kernel
theorem dX3_empty_6 : decode cX3_empty 6 = .ok (.iconst 0, 1) := by decide +kernel
theorem dX3_empty_7 : decode cX3_empty 7 = .ok (.putfield 15, 3) := by decide +kernel
theorem dX3_empty_10 : decode cX3_empty 10 = .ok (.aload_n 0, 1) := by decide +kernel
theorem dX3_empty_11 : decode cX3_empty 11 = .ok (.iconst 0, 1) := by decide +kernel
theorem dX3_empty_12 : decode cX3_empty 12 = .ok (.putfield 18, 3) := by decide +kernel
theorem dX3_empty_15 : decode cX3_empty 15 = .ok (.aload_n 0, 1) := by decide +kernel
theorem dX3_empty_16 : decode cX3_empty 16 = .ok (.getfield 28, 3) := by decide +kernel
theorem dX3_empty_19 : decode cX3_empty 19 = .ok (.iconst 0, 1) := by decide +kernel
theorem dX3_empty_20 : decode cX3_empty 20 = .ok (.invokestatic 34, 3) := by decide +kernel
theorem dX3_empty_23 : decode cX3_empty 23 = .ok (.aload_n 0, 1) := by decide +kernel
theorem dX3_empty_24 : decode cX3_empty 24 = .ok (.getfield 31, 3) := by decide +kernel
theorem dX3_empty_27 : decode cX3_empty 27 = .ok (.iconst 0, 1) := by decide +kernel
theorem dX3_empty_28 : decode cX3_empty 28 = .ok (.invokestatic 34, 3) := by decide +kernel
theorem dX3_empty_31 : decode cX3_empty 31 = .ok (.return_, 1) := by decide +kernel
theorem dX3_copyFrom_0 : decode cX3_copyFrom 0 = .ok (.aload_n 0, 1) := by decide +kernel
theorem dX3_copyFrom_1 : decode cX3_copyFrom 1 = .ok (.aload_n 1, 1) := by decide +kernel
theorem dX3_copyFrom_2 : decode cX3_copyFrom 2 = .ok (.getfield 9, 3) := by decide +kernel
theorem dX3_copyFrom_5 : decode cX3_copyFrom 5 = .ok (.putfield 9, 3) := by decide +kernel
theorem dX3_copyFrom_8 : decode cX3_copyFrom 8 = .ok (.aload_n 0, 1) := by decide +kernel
theorem dX3_copyFrom_9 : decode cX3_copyFrom 9 = .ok (.aload_n 1, 1) := by decide +kernel
theorem dX3_copyFrom_10 : decode cX3_copyFrom 10 = .ok (.getfield 15, 3) := by decide +kernel
theorem dX3_copyFrom_13 : decode cX3_copyFrom 13 = .ok (.putfield 15, 3) := by decide +kernel
theorem dX3_copyFrom_16 : decode cX3_copyFrom 16 = .ok (.aload_n 0, 1) := by decide +kernel
theorem dX3_copyFrom_17 : decode cX3_copyFrom 17 = .ok (.aload_n 1, 1) := by decide +kernel
theorem dX3_copyFrom_18 : decode cX3_copyFrom 18 = .ok (.getfield 18, 3) := by decide +kernel
theorem dX3_copyFrom_21 : decode cX3_copyFrom 21 = .ok (.putfield 18, 3) := by decide +kernel
theorem dX3_copyFrom_24 : decode cX3_copyFrom 24 = .ok (.aload_n 1, 1) := by decide +kernel
theorem dX3_copyFrom_25 : decode cX3_copyFrom 25 = .ok (.getfield 21, 3) := by decide +kernel
theorem dX3_copyFrom_28 : decode cX3_copyFrom 28 = .ok (.aload_n 0, 1) := by decide +kernel
theorem dX3_copyFrom_29 : decode cX3_copyFrom 29 = .ok (.getfield 21, 3) := by decide +kernel
theorem dX3_copyFrom_32 : decode cX3_copyFrom 32 = .ok (.invokestatic 40, 3) := by decide +kernel
theorem dX3_copyFrom_35 : decode cX3_copyFrom 35 = .ok (.aload_n 1, 1) := by decide +kernel
theorem dX3_copyFrom_36 : decode cX3_copyFrom 36 = .ok (.getfield 25, 3) := by decide +kernel
theorem dX3_copyFrom_39 : decode cX3_copyFrom 39 = .ok (.aload_n 0, 1) := by decide +kernel
theorem dX3_copyFrom_40 : decode cX3_copyFrom 40 = .ok (.getfield 25, 3) := by decide +kernel
theorem dX3_copyFrom_43 : decode cX3_copyFrom 43 = .ok (.invokestatic 40, 3) := by decide +kernel
theorem dX3_copyFrom_46 : decode cX3_copyFrom 46 = .ok (.aload_n 1, 1) := by decide +kernel
theorem dX3_copyFrom_47 : decode cX3_copyFrom 47 = .ok (.getfield 28, 3) := by decide +kernel
theorem dX3_copyFrom_50 : decode cX3_copyFrom 50 = .ok (.aload_n 0, 1) := by decide +kernel
theorem dX3_copyFrom_51 : decode cX3_copyFrom 51 = .ok (.getfield 28, 3) := by decide +kernel
theorem dX3_copyFrom_54 : decode cX3_copyFrom 54 = .ok (.invokestatic 40, 3) := by decide +kernel
theorem dX3_copyFrom_57 : decode cX3_copyFrom 57 = .ok (.aload_n 1, 1) := by decide +kernel
theorem dX3_copyFrom_58 : decode cX3_copyFrom 58 = .ok (.getfield 31, 3) := by decide +kernel
theorem dX3_copyFrom_61 : decode cX3_copyFrom 61 = .ok (.aload_n 0, 1) := by decide +kernel
theorem dX3_copyFrom_62 : decode cX3_copyFrom 62 = .ok (.getfield 31, 3) := by decide +kernel
theorem dX3_copyFrom_65 : decode cX3_copyFrom 65 = .ok (.invokestatic 40, 3) := by decide +kernel
theorem dX3_copyFrom_68 : decode cX3_copyFrom 68 = .ok (.return_, 1) := by decide +kernel
theorem dX3_hasRoomForRider_0 : decode cX3_hasRoomForRider 0 = .ok (.aload_n 0, 1) := by decide +kernel
theorem dX3_hasRoomForRider_1 : decode cX3_hasRoomForRider 1 = .ok (.getfield 15, 3) := by decide +kernel
theorem dX3_hasRoomForRider_4 : decode cX3_hasRoomForRider 4 = .ok (.iconst 4, 1) := by decide +kernel
theorem dX3_hasRoomForRider_5 : decode cX3_hasRoomForRider 5 = .ok (.if_icmp .ge 7, 3) := by decide +kernel
theorem dX3_hasRoomForRider_8 : decode cX3_hasRoomForRider 8 = .ok (.iconst 1, 1) := by decide +kernel
theorem dX3_hasRoomForRider_9 : decode cX3_hasRoomForRider 9 = .ok (.goto 4, 3) := by decide +kernel
theorem dX3_hasRoomForRider_12 : decode cX3_hasRoomForRider 12 = .ok (.iconst 0, 1) := by decide +kernel
theorem dX3_hasRoomForRider_13 : decode cX3_hasRoomForRider 13 = .ok (.ireturn, 1) := by decide +kernel
theorem dX3_hasRoomForStranger_0 : decode cX3_hasRoomForStranger 0 = .ok (.aload_n 0, 1) := by decide +kernel
theorem dX3_hasRoomForStranger_1 : decode cX3_hasRoomForStranger 1 = .ok (.getfield 18, 3) := by decide +kernel
theorem dX3_hasRoomForStranger_4 : decode cX3_hasRoomForStranger 4 = .ok (.iconst 2, 1) := by decide +kernel
theorem dX3_hasRoomForStranger_5 : decode cX3_hasRoomForStranger 5 = .ok (.if_icmp .ge 7, 3) := by decide +kernel
theorem dX3_hasRoomForStranger_8 : decode cX3_hasRoomForStranger 8 = .ok (.iconst 1, 1) := by decide +kernel
theorem dX3_hasRoomForStranger_9 : decode cX3_hasRoomForStranger 9 = .ok (.goto 4, 3) := by decide +kernel
theorem dX3_hasRoomForStranger_12 : decode cX3_hasRoomForStranger 12 = .ok (.iconst 0, 1) := by decide +kernel
theorem dX3_hasRoomForStranger_13 : decode cX3_hasRoomForStranger 13 = .ok (.ireturn, 1) := by decide +kernel
theorem dX3_addRider_0 : decode cX3_addRider 0 = .ok (.aload_n 0, 1) := by decide +kernel
theorem dX3_addRider_1 : decode cX3_addRider 1 = .ok (.getfield 21, 3) := by decide +kernel
theorem dX3_addRider_4 : decode cX3_addRider 4 = .ok (.aload_n 0, 1) := by decide +kernel
theorem dX3_addRider_5 : decode cX3_addRider 5 = .ok (.getfield 15, 3) := by decide +kernel
theorem dX3_addRider_8 : decode cX3_addRider 8 = .ok (.iload_n 2, 1) := by decide +kernel
theorem dX3_addRider_9 : decode cX3_addRider 9 = .ok (.invokestatic 44, 3) := by decide +kernel
theorem dX3_addRider_12 : decode cX3_addRider 12 = .ok (.aload_n 0, 1) := by decide +kernel
theorem dX3_addRider_13 : decode cX3_addRider 13 = .ok (.getfield 28, 3) := by decide +kernel
theorem dX3_addRider_16 : decode cX3_addRider 16 = .ok (.iload_n 2, 1) := by decide +kernel
theorem dX3_addRider_17 : decode cX3_addRider 17 = .ok (.aload_n 0, 1) := by decide +kernel
theorem dX3_addRider_18 : decode cX3_addRider 18 = .ok (.getfield 28, 3) := by decide +kernel
theorem dX3_addRider_21 : decode cX3_addRider 21 = .ok (.iload_n 2, 1) := by decide +kernel
theorem dX3_addRider_22 : decode cX3_addRider 22 = .ok (.invokestatic 48, 3) := by decide +kernel
theorem dX3_addRider_25 : decode cX3_addRider 25 = .ok (.iconst 1, 1) := by decide +kernel
theorem dX3_addRider_26 : decode cX3_addRider 26 = .ok (.aload_n 0, 1) := by decide +kernel
theorem dX3_addRider_27 : decode cX3_addRider 27 = .ok (.getfield 15, 3) := by decide +kernel
theorem dX3_addRider_30 : decode cX3_addRider 30 = .ok (.ishl, 1) := by decide +kernel
theorem dX3_addRider_31 : decode cX3_addRider 31 = .ok (.ior, 1) := by decide +kernel
theorem dX3_addRider_32 : decode cX3_addRider 32 = .ok (.invokestatic 44, 3) := by decide +kernel
theorem dX3_addRider_35 : decode cX3_addRider 35 = .ok (.aload_n 0, 1) := by decide +kernel
theorem dX3_addRider_36 : decode cX3_addRider 36 = .ok (.getfield 25, 3) := by decide +kernel
theorem dX3_addRider_39 : decode cX3_addRider 39 = .ok (.aload_n 0, 1) := by decide +kernel
theorem dX3_addRider_40 : decode cX3_addRider 40 = .ok (.getfield 15, 3) := by decide +kernel
theorem dX3_addRider_43 : decode cX3_addRider 43 = .ok (.iload_n 1, 1) := by decide +kernel
theorem dX3_addRider_44 : decode cX3_addRider 44 = .ok (.invokestatic 44, 3) := by decide +kernel
theorem dX3_addRider_47 : decode cX3_addRider 47 = .ok (.aload_n 0, 1) := by decide +kernel
theorem dX3_addRider_48 : decode cX3_addRider 48 = .ok (.getfield 31, 3) := by decide +kernel
theorem dX3_addRider_51 : decode cX3_addRider 51 = .ok (.iload_n 1, 1) := by decide +kernel
theorem dX3_addRider_52 : decode cX3_addRider 52 = .ok (.aload_n 0, 1) := by decide +kernel
theorem dX3_addRider_53 : decode cX3_addRider 53 = .ok (.getfield 31, 3) := by decide +kernel
theorem dX3_addRider_56 : decode cX3_addRider 56 = .ok (.iload_n 1, 1) := by decide +kernel
theorem dX3_addRider_57 : decode cX3_addRider 57 = .ok (.invokestatic 48, 3) := by decide +kernel
theorem dX3_addRider_60 : decode cX3_addRider 60 = .ok (.iconst 1, 1) := by decide +kernel
theorem dX3_addRider_61 : decode cX3_addRider 61 = .ok (.aload_n 0, 1) := by decide +kernel
theorem dX3_addRider_62 : decode cX3_addRider 62 = .ok (.getfield 15, 3) := by decide +kernel
theorem dX3_addRider_65 : decode cX3_addRider 65 = .ok (.ishl, 1) := by decide +kernel
theorem dX3_addRider_66 : decode cX3_addRider 66 = .ok (.ior, 1) := by decide +kernel
theorem dX3_addRider_67 : decode cX3_addRider 67 = .ok (.invokestatic 44, 3) := by decide +kernel
theorem dX3_addRider_70 : decode cX3_addRider 70 = .ok (.aload_n 0, 1) := by decide +kernel
theorem dX3_addRider_71 : decode cX3_addRider 71 = .ok (.dup, 1) := by decide +kernel
theorem dX3_addRider_72 : decode cX3_addRider 72 = .ok (.getfield 15, 3) := by decide +kernel
theorem dX3_addRider_75 : decode cX3_addRider 75 = .ok (.iconst 1, 1) := by decide +kernel
theorem dX3_addRider_76 : decode cX3_addRider 76 = .ok (.iadd, 1) := by decide +kernel
theorem dX3_addRider_77 : decode cX3_addRider 77 = .ok (.putfield 15, 3) := by decide +kernel
theorem dX3_addRider_80 : decode cX3_addRider 80 = .ok (.return_, 1) := by decide +kernel
theorem dX3_addStranger_0 : decode cX3_addStranger 0 = .ok (.aload_n 0, 1) := by decide +kernel
theorem dX3_addStranger_1 : decode cX3_addStranger 1 = .ok (.dup, 1) := by decide +kernel
theorem dX3_addStranger_2 : decode cX3_addStranger 2 = .ok (.getfield 18, 3) := by decide +kernel
theorem dX3_addStranger_5 : decode cX3_addStranger 5 = .ok (.iconst 1, 1) := by decide +kernel
theorem dX3_addStranger_6 : decode cX3_addStranger 6 = .ok (.iadd, 1) := by decide +kernel
theorem dX3_addStranger_7 : decode cX3_addStranger 7 = .ok (.putfield 18, 3) := by decide +kernel
theorem dX3_addStranger_10 : decode cX3_addStranger 10 = .ok (.return_, 1) := by decide +kernel
theorem dX3_settle_0 : decode cX3_settle 0 = .ok (.aload_n 0, 1) := by decide +kernel
theorem dX3_settle_1 : decode cX3_settle 1 = .ok (.iload_n 1, 1) := by decide +kernel
theorem dX3_settle_2 : decode cX3_settle 2 = .ok (.invokevirtual 52, 3) := by decide +kernel
theorem dX3_settle_5 : decode cX3_settle 5 = .ok (.istore_n 3, 1) := by decide +kernel
theorem dX3_settle_6 : decode cX3_settle 6 = .ok (.aload_n 0, 1) := by decide +kernel
theorem dX3_settle_7 : decode cX3_settle 7 = .ok (.getfield 31, 3) := by decide +kernel
theorem dX3_settle_10 : decode cX3_settle 10 = .ok (.iload_n 3, 1) := by decide +kernel
theorem dX3_settle_11 : decode cX3_settle 11 = .ok (.aload_n 0, 1) := by decide +kernel
theorem dX3_settle_12 : decode cX3_settle 12 = .ok (.getfield 31, 3) := by decide +kernel
theorem dX3_settle_15 : decode cX3_settle 15 = .ok (.iload_n 3, 1) := by decide +kernel
theorem dX3_settle_16 : decode cX3_settle 16 = .ok (.invokestatic 48, 3) := by decide +kernel
theorem dX3_settle_19 : decode cX3_settle 19 = .ok (.iconst 1, 1) := by decide +kernel
theorem dX3_settle_20 : decode cX3_settle 20 = .ok (.iload_n 1, 1) := by decide +kernel
theorem dX3_settle_21 : decode cX3_settle 21 = .ok (.ishl, 1) := by decide +kernel
theorem dX3_settle_22 : decode cX3_settle 22 = .ok (.iconst (-1), 1) := by decide +kernel
theorem dX3_settle_23 : decode cX3_settle 23 = .ok (.ixor, 1) := by decide +kernel
theorem dX3_settle_24 : decode cX3_settle 24 = .ok (.iand, 1) := by decide +kernel
theorem dX3_settle_25 : decode cX3_settle 25 = .ok (.invokestatic 44, 3) := by decide +kernel
theorem dX3_settle_28 : decode cX3_settle 28 = .ok (.aload_n 0, 1) := by decide +kernel
theorem dX3_settle_29 : decode cX3_settle 29 = .ok (.getfield 25, 3) := by decide +kernel
theorem dX3_settle_32 : decode cX3_settle 32 = .ok (.iload_n 1, 1) := by decide +kernel
theorem dX3_settle_33 : decode cX3_settle 33 = .ok (.iload_n 2, 1) := by decide +kernel
theorem dX3_settle_34 : decode cX3_settle 34 = .ok (.invokestatic 44, 3) := by decide +kernel
theorem dX3_settle_37 : decode cX3_settle 37 = .ok (.aload_n 0, 1) := by decide +kernel
theorem dX3_settle_38 : decode cX3_settle 38 = .ok (.getfield 31, 3) := by decide +kernel
theorem dX3_settle_41 : decode cX3_settle 41 = .ok (.iload_n 2, 1) := by decide +kernel
theorem dX3_settle_42 : decode cX3_settle 42 = .ok (.aload_n 0, 1) := by decide +kernel
theorem dX3_settle_43 : decode cX3_settle 43 = .ok (.getfield 31, 3) := by decide +kernel
theorem dX3_settle_46 : decode cX3_settle 46 = .ok (.iload_n 2, 1) := by decide +kernel
theorem dX3_settle_47 : decode cX3_settle 47 = .ok (.invokestatic 48, 3) := by decide +kernel
theorem dX3_settle_50 : decode cX3_settle 50 = .ok (.iconst 1, 1) := by decide +kernel
theorem dX3_settle_51 : decode cX3_settle 51 = .ok (.iload_n 1, 1) := by decide +kernel
theorem dX3_settle_52 : decode cX3_settle 52 = .ok (.ishl, 1) := by decide +kernel
theorem dX3_settle_53 : decode cX3_settle 53 = .ok (.ior, 1) := by decide +kernel
theorem dX3_settle_54 : decode cX3_settle 54 = .ok (.invokestatic 44, 3) := by decide +kernel
theorem dX3_settle_57 : decode cX3_settle 57 = .ok (.return_, 1) := by decide +kernel
theorem dX3_hasFloor_0 : decode cX3_hasFloor 0 = .ok (.iload_n 1, 1) := by decide +kernel
theorem dX3_hasFloor_1 : decode cX3_hasFloor 1 = .ok (.ifCond .lt 15, 3) := by decide +kernel
theorem dX3_hasFloor_4 : decode cX3_hasFloor 4 = .ok (.iload_n 1, 1) := by decide +kernel
theorem dX3_hasFloor_5 : decode cX3_hasFloor 5 = .ok (.aload_n 0, 1) := by decide +kernel
theorem dX3_hasFloor_6 : decode cX3_hasFloor 6 = .ok (.getfield 9, 3) := by decide +kernel
theorem dX3_hasFloor_9 : decode cX3_hasFloor 9 = .ok (.if_icmp .ge 7, 3) := by decide +kernel
theorem dX3_hasFloor_12 : decode cX3_hasFloor 12 = .ok (.iconst 1, 1) := by decide +kernel
theorem dX3_hasFloor_13 : decode cX3_hasFloor 13 = .ok (.goto 4, 3) := by decide +kernel
theorem dX3_hasFloor_16 : decode cX3_hasFloor 16 = .ok (.iconst 0, 1) := by decide +kernel
theorem dX3_hasFloor_17 : decode cX3_hasFloor 17 = .ok (.ireturn, 1) := by decide +kernel
theorem dX3_hasPerson_0 : decode cX3_hasPerson 0 = .ok (.iload_n 1, 1) := by decide +kernel
theorem dX3_hasPerson_1 : decode cX3_hasPerson 1 = .ok (.ifCond .lt 11, 3) := by decide +kernel
theorem dX3_hasPerson_4 : decode cX3_hasPerson 4 = .ok (.iload_n 1, 1) := by decide +kernel
theorem dX3_hasPerson_5 : decode cX3_hasPerson 5 = .ok (.aload_n 0, 1) := by decide +kernel
theorem dX3_hasPerson_6 : decode cX3_hasPerson 6 = .ok (.getfield 15, 3) := by decide +kernel
theorem dX3_hasPerson_9 : decode cX3_hasPerson 9 = .ok (.if_icmp .lt 18, 3) := by decide +kernel
theorem dX3_hasPerson_12 : decode cX3_hasPerson 12 = .ok (.iload_n 1, 1) := by decide +kernel
theorem dX3_hasPerson_13 : decode cX3_hasPerson 13 = .ok (.iconst 4, 1) := by decide +kernel
theorem dX3_hasPerson_14 : decode cX3_hasPerson 14 = .ok (.if_icmp .lt 17, 3) := by decide +kernel
theorem dX3_hasPerson_17 : decode cX3_hasPerson 17 = .ok (.iload_n 1, 1) := by decide +kernel
theorem dX3_hasPerson_18 : decode cX3_hasPerson 18 = .ok (.iconst 4, 1) := by decide +kernel
theorem dX3_hasPerson_19 : decode cX3_hasPerson 19 = .ok (.aload_n 0, 1) := by decide +kernel
theorem dX3_hasPerson_20 : decode cX3_hasPerson 20 = .ok (.getfield 18, 3) := by decide +kernel
theorem dX3_hasPerson_23 : decode cX3_hasPerson 23 = .ok (.iadd, 1) := by decide +kernel
theorem dX3_hasPerson_24 : decode cX3_hasPerson 24 = .ok (.if_icmp .ge 7, 3) := by decide +kernel
theorem dX3_hasPerson_27 : decode cX3_hasPerson 27 = .ok (.iconst 1, 1) := by decide +kernel
theorem dX3_hasPerson_28 : decode cX3_hasPerson 28 = .ok (.goto 4, 3) := by decide +kernel
theorem dX3_hasPerson_31 : decode cX3_hasPerson 31 = .ok (.iconst 0, 1) := by decide +kernel
theorem dX3_hasPerson_32 : decode cX3_hasPerson 32 = .ok (.ireturn, 1) := by decide +kernel
theorem dX3_hasRiders_0 : decode cX3_hasRiders 0 = .ok (.iload_n 1, 1) := by decide +kernel
theorem dX3_hasRiders_1 : decode cX3_hasRiders 1 = .ok (.aload_n 0, 1) := by decide +kernel
theorem dX3_hasRiders_2 : decode cX3_hasRiders 2 = .ok (.invokevirtual 56, 3) := by decide +kernel
theorem dX3_hasRiders_5 : decode cX3_hasRiders 5 = .ok (.iconst (-1), 1) := by decide +kernel
theorem dX3_hasRiders_6 : decode cX3_hasRiders 6 = .ok (.ixor, 1) := by decide +kernel
theorem dX3_hasRiders_7 : decode cX3_hasRiders 7 = .ok (.iand, 1) := by decide +kernel
theorem dX3_hasRiders_8 : decode cX3_hasRiders 8 = .ok (.ifCond .ne 7, 3) := by decide +kernel
theorem dX3_hasRiders_11 : decode cX3_hasRiders 11 = .ok (.iconst 1, 1) := by decide +kernel
theorem dX3_hasRiders_12 : decode cX3_hasRiders 12 = .ok (.goto 4, 3) := by decide +kernel
theorem dX3_hasRiders_15 : decode cX3_hasRiders 15 = .ok (.iconst 0, 1) := by decide +kernel
theorem dX3_hasRiders_16 : decode cX3_hasRiders 16 = .ok (.ireturn, 1) := by decide +kernel
theorem dX3_riderBits_0 : decode cX3_riderBits 0 = .ok (.iconst 1, 1) := by decide +kernel
theorem dX3_riderBits_1 : decode cX3_riderBits 1 = .ok (.aload_n 0, 1) := by decide +kernel
theorem dX3_riderBits_2 : decode cX3_riderBits 2 = .ok (.getfield 15, 3) := by decide +kernel
theorem dX3_riderBits_5 : decode cX3_riderBits 5 = .ok (.ishl, 1) := by decide +kernel
theorem dX3_riderBits_6 : decode cX3_riderBits 6 = .ok (.iconst 1, 1) := by decide +kernel
theorem dX3_riderBits_7 : decode cX3_riderBits 7 = .ok (.isub, 1) := by decide +kernel
theorem dX3_riderBits_8 : decode cX3_riderBits 8 = .ok (.ireturn, 1) := by decide +kernel
theorem dX3_people_0 : decode cX3_people 0 = .ok (.aload_n 0, 1) := by decide +kernel
theorem dX3_people_1 : decode cX3_people 1 = .ok (.getfield 15, 3) := by decide +kernel
theorem dX3_people_4 : decode cX3_people 4 = .ok (.aload_n 0, 1) := by decide +kernel
theorem dX3_people_5 : decode cX3_people 5 = .ok (.getfield 18, 3) := by decide +kernel
theorem dX3_people_8 : decode cX3_people 8 = .ok (.iadd, 1) := by decide +kernel
theorem dX3_people_9 : decode cX3_people 9 = .ok (.ireturn, 1) := by decide +kernel
theorem dX3_wantOf_0 : decode cX3_wantOf 0 = .ok (.aload_n 0, 1) := by decide +kernel
theorem dX3_wantOf_1 : decode cX3_wantOf 1 = .ok (.getfield 21, 3) := by decide +kernel
theorem dX3_wantOf_4 : decode cX3_wantOf 4 = .ok (.iload_n 1, 1) := by decide +kernel
theorem dX3_wantOf_5 : decode cX3_wantOf 5 = .ok (.invokestatic 48, 3) := by decide +kernel
theorem dX3_wantOf_8 : decode cX3_wantOf 8 = .ok (.ireturn, 1) := by decide +kernel
theorem dX3_standOf_0 : decode cX3_standOf 0 = .ok (.aload_n 0, 1) := by decide +kernel
theorem dX3_standOf_1 : decode cX3_standOf 1 = .ok (.getfield 25, 3) := by decide +kernel
theorem dX3_standOf_4 : decode cX3_standOf 4 = .ok (.iload_n 1, 1) := by decide +kernel
theorem dX3_standOf_5 : decode cX3_standOf 5 = .ok (.invokestatic 48, 3) := by decide +kernel
theorem dX3_standOf_8 : decode cX3_standOf 8 = .ok (.ireturn, 1) := by decide +kernel
theorem dX3_mayLeave_0 : decode cX3_mayLeave 0 = .ok (.iload_n 1, 1) := by decide +kernel
theorem dX3_mayLeave_1 : decode cX3_mayLeave 1 = .ok (.aload_n 0, 1) := by decide +kernel
theorem dX3_mayLeave_2 : decode cX3_mayLeave 2 = .ok (.getfield 28, 3) := by decide +kernel
theorem dX3_mayLeave_5 : decode cX3_mayLeave 5 = .ok (.iload_n 2, 1) := by decide +kernel
theorem dX3_mayLeave_6 : decode cX3_mayLeave 6 = .ok (.invokestatic 48, 3) := by decide +kernel
theorem dX3_mayLeave_9 : decode cX3_mayLeave 9 = .ok (.iand, 1) := by decide +kernel
theorem dX3_mayLeave_10 : decode cX3_mayLeave 10 = .ok (.iload_n 1, 1) := by decide +kernel
theorem dX3_mayLeave_11 : decode cX3_mayLeave 11 = .ok (.bipush 7, 2) := by decide +kernel
theorem dX3_mayLeave_13 : decode cX3_mayLeave 13 = .ok (.invokestatic 62, 3) := by decide +kernel
theorem dX3_mayLeave_16 : decode cX3_mayLeave 16 = .ok (.ior, 1) := by decide +kernel
theorem dX3_mayLeave_17 : decode cX3_mayLeave 17 = .ok (.ireturn, 1) := by decide +kernel
theorem dX3_mayEnter_0 : decode cX3_mayEnter 0 = .ok (.aload_n 0, 1) := by decide +kernel
theorem dX3_mayEnter_1 : decode cX3_mayEnter 1 = .ok (.getfield 31, 3) := by decide +kernel
theorem dX3_mayEnter_4 : decode cX3_mayEnter 4 = .ok (.iload_n 2, 1) := by decide +kernel
theorem dX3_mayEnter_5 : decode cX3_mayEnter 5 = .ok (.invokestatic 48, 3) := by decide +kernel
theorem dX3_mayEnter_8 : decode cX3_mayEnter 8 = .ok (.iload_n 1, 1) := by decide +kernel
theorem dX3_mayEnter_9 : decode cX3_mayEnter 9 = .ok (.invokestatic 66, 3) := by decide +kernel
theorem dX3_mayEnter_12 : decode cX3_mayEnter 12 = .ok (.iconst (-1), 1) := by decide +kernel
theorem dX3_mayEnter_13 : decode cX3_mayEnter 13 = .ok (.ixor, 1) := by decide +kernel
theorem dX3_mayEnter_14 : decode cX3_mayEnter 14 = .ok (.iand, 1) := by decide +kernel
theorem dX3_mayEnter_15 : decode cX3_mayEnter 15 = .ok (.iload_n 1, 1) := by decide +kernel
theorem dX3_mayEnter_16 : decode cX3_mayEnter 16 = .ok (.iload_n 2, 1) := by decide +kernel
theorem dX3_mayEnter_17 : decode cX3_mayEnter 17 = .ok (.invokestatic 62, 3) := by decide +kernel
theorem dX3_mayEnter_20 : decode cX3_mayEnter 20 = .ok (.ior, 1) := by decide +kernel
theorem dX3_mayEnter_21 : decode cX3_mayEnter 21 = .ok (.ireturn, 1) := by decide +kernel
theorem dX4_init_0 : decode cX4_init 0 = .ok (.aload_n 0, 1) := by decide +kernel
theorem dX4_init_1 : decode cX4_init 1 = .ok (.invokespecial 3, 3) := by decide +kernel
theorem dX4_init_4 : decode cX4_init 4 = .ok (.aload_n 0, 1) := by decide +kernel
theorem dX4_init_5 : decode cX4_init 5 = .ok (.iconst 0, 1) := by decide +kernel
theorem dX4_init_6 : decode cX4_init 6 = .ok (.putfield 9, 3) := by decide +kernel
theorem dX4_init_9 : decode cX4_init 9 = .ok (.return_, 1) := by decide +kernel
theorem dX4_read_0 : decode cX4_read 0 = .ok (.aload_n 0, 1) := by decide +kernel
theorem dX4_read_1 : decode cX4_read 1 = .ok (.iconst 0, 1) := by decide +kernel
theorem dX4_read_2 : decode cX4_read 2 = .ok (.putfield 9, 3) := by decide +kernel
theorem dX4_read_5 : decode cX4_read 5 = .ok (.aload_n 1, 1) := by decide +kernel
theorem dX4_read_6 : decode cX4_read 6 = .ok (.aload_n 0, 1) := by decide +kernel
theorem dX4_read_7 : decode cX4_read 7 = .ok (.getfield 9, 3) := by decide +kernel
theorem dX4_read_10 : decode cX4_read 10 = .ok (.invokevirtual 15, 3) := by decide +kernel
theorem dX4_read_13 : decode cX4_read 13 = .ok (.bipush 78, 2) := by decide +kernel
theorem dX4_read_15 : decode cX4_read 15 = .ok (.if_icmp .eq 8, 3) := by decide +kernel
theorem dX4_read_18 : decode cX4_read 18 = .ok (.aload_n 0, 1) := by decide +kernel
theorem dX4_read_19 : decode cX4_read 19 = .ok (.getfield 9, 3) := by decide +kernel
theorem dX4_read_22 : decode cX4_read 22 = .ok (.ireturn, 1) := by decide +kernel
theorem dX4_read_23 : decode cX4_read 23 = .ok (.aload_n 0, 1) := by decide +kernel
theorem dX4_read_24 : decode cX4_read 24 = .ok (.dup, 1) := by decide +kernel
theorem dX4_read_25 : decode cX4_read 25 = .ok (.getfield 9, 3) := by decide +kernel
theorem dX4_read_28 : decode cX4_read 28 = .ok (.iconst 1, 1) := by decide +kernel
theorem dX4_read_29 : decode cX4_read 29 = .ok (.iadd, 1) := by decide +kernel
theorem dX4_read_30 : decode cX4_read 30 = .ok (.putfield 9, 3) := by decide +kernel
theorem dX4_read_33 : decode cX4_read 33 = .ok (.aload_n 1, 1) := by decide +kernel
theorem dX4_read_34 : decode cX4_read 34 = .ok (.aload_n 0, 1) := by decide +kernel
theorem dX4_read_35 : decode cX4_read 35 = .ok (.getfield 9, 3) := by decide +kernel
theorem dX4_read_38 : decode cX4_read 38 = .ok (.invokevirtual 15, 3) := by decide +kernel
theorem dX4_read_41 : decode cX4_read 41 = .ok (.bipush 48, 2) := by decide +kernel
theorem dX4_read_43 : decode cX4_read 43 = .ok (.isub, 1) := by decide +kernel
theorem dX4_read_44 : decode cX4_read 44 = .ok (.istore_n 3, 1) := by decide +kernel
theorem dX4_read_45 : decode cX4_read 45 = .ok (.iload_n 3, 1) := by decide +kernel
theorem dX4_read_46 : decode cX4_read 46 = .ok (.iconst 2, 1) := by decide +kernel
theorem dX4_read_47 : decode cX4_read 47 = .ok (.if_icmp .lt 9, 3) := by decide +kernel
theorem dX4_read_50 : decode cX4_read 50 = .ok (.iload_n 3, 1) := by decide +kernel
theorem dX4_read_51 : decode cX4_read 51 = .ok (.bipush 6, 2) := by decide +kernel
theorem dX4_read_53 : decode cX4_read 53 = .ok (.if_icmp .le 8, 3) := by decide +kernel
theorem dX4_read_56 : decode cX4_read 56 = .ok (.aload_n 0, 1) := by decide +kernel
theorem dX4_read_57 : decode cX4_read 57 = .ok (.getfield 9, 3) := by decide +kernel
theorem dX4_read_60 : decode cX4_read 60 = .ok (.ireturn, 1) := by decide +kernel
theorem dX4_read_61 : decode cX4_read 61 = .ok (.aload_n 0, 1) := by decide +kernel
theorem dX4_read_62 : decode cX4_read 62 = .ok (.dup, 1) := by decide +kernel
theorem dX4_read_63 : decode cX4_read 63 = .ok (.getfield 9, 3) := by decide +kernel
theorem dX4_read_66 : decode cX4_read 66 = .ok (.iconst 1, 1) := by decide +kernel
theorem dX4_read_67 : decode cX4_read 67 = .ok (.iadd, 1) := by decide +kernel
theorem dX4_read_68 : decode cX4_read 68 = .ok (.putfield 9, 3) := by decide +kernel
theorem dX4_read_71 : decode cX4_read 71 = .ok (.aload_n 2, 1) := by decide +kernel
theorem dX4_read_72 : decode cX4_read 72 = .ok (.iload_n 3, 1) := by decide +kernel
theorem dX4_read_73 : decode cX4_read 73 = .ok (.invokevirtual 21, 3) := by decide +kernel
theorem dX4_read_76 : decode cX4_read 76 = .ok (.iconst 0, 1) := by decide +kernel
theorem dX4_read_77 : decode cX4_read 77 = .ok (.istore 4, 2) := by decide +kernel
theorem dX4_read_79 : decode cX4_read 79 = .ok (.iload 4, 2) := by decide +kernel
theorem dX4_read_81 : decode cX4_read 81 = .ok (.bipush 40, 2) := by decide +kernel
theorem dX4_read_83 : decode cX4_read 83 = .ok (.if_icmp .ge 34, 3) := by decide +kernel
theorem dX4_read_86 : decode cX4_read 86 = .ok (.aload_n 0, 1) := by decide +kernel
theorem dX4_read_87 : decode cX4_read 87 = .ok (.getfield 9, 3) := by decide +kernel
theorem dX4_read_90 : decode cX4_read 90 = .ok (.aload_n 1, 1) := by decide +kernel
theorem dX4_read_91 : decode cX4_read 91 = .ok (.invokevirtual 27, 3) := by decide +kernel
theorem dX4_read_94 : decode cX4_read 94 = .ok (.if_icmp .ge 23, 3) := by decide +kernel
theorem dX4_read_97 : decode cX4_read 97 = .ok (.aload_n 0, 1) := by decide +kernel
theorem dX4_read_98 : decode cX4_read 98 = .ok (.aload_n 1, 1) := by decide +kernel
theorem dX4_read_99 : decode cX4_read 99 = .ok (.aload_n 2, 1) := by decide +kernel
theorem dX4_read_100 : decode cX4_read 100 = .ok (.invokevirtual 31, 3) := by decide +kernel
theorem dX4_read_103 : decode cX4_read 103 = .ok (.ifCond .ne 8, 3) := by decide +kernel
theorem dX4_read_106 : decode cX4_read 106 = .ok (.aload_n 0, 1) := by decide +kernel
theorem dX4_read_107 : decode cX4_read 107 = .ok (.getfield 9, 3) := by decide +kernel
theorem dX4_read_110 : decode cX4_read 110 = .ok (.ireturn, 1) := by decide +kernel
theorem dX4_read_111 : decode cX4_read 111 = .ok (.iinc 4 1, 3) := by decide +kernel
theorem dX4_read_114 : decode cX4_read 114 = .ok (.goto (-35), 3) := by decide +kernel
theorem dX4_read_117 : decode cX4_read 117 = .ok (.bipush (-9), 2) := by decide +kernel
theorem dX4_read_119 : decode cX4_read 119 = .ok (.ireturn, 1) := by decide +kernel
theorem dX4_readPart_0 : decode cX4_readPart 0 = .ok (.aload_n 1, 1) := by decide +kernel
theorem dX4_readPart_1 : decode cX4_readPart 1 = .ok (.aload_n 0, 1) := by decide +kernel
theorem dX4_readPart_2 : decode cX4_readPart 2 = .ok (.getfield 9, 3) := by decide +kernel
theorem dX4_readPart_5 : decode cX4_readPart 5 = .ok (.invokevirtual 15, 3) := by decide +kernel
theorem dX4_readPart_8 : decode cX4_readPart 8 = .ok (.lookupswitch 148 #[(65, 70), (73, 44), (83, 96), (84, 122)], 44) := by decide +kernel
theorem dX4_readPart_52 : decode cX4_readPart 52 = .ok (.aload_n 2, 1) := by decide +kernel
theorem dX4_readPart_53 : decode cX4_readPart 53 = .ok (.getfield 35, 3) := by decide +kernel
theorem dX4_readPart_56 : decode cX4_readPart 56 = .ok (.invokevirtual 39, 3) := by decide +kernel
theorem dX4_readPart_59 : decode cX4_readPart 59 = .ok (.ifCond .eq 17, 3) := by decide +kernel
theorem dX4_readPart_62 : decode cX4_readPart 62 = .ok (.aload_n 0, 1) := by decide +kernel
theorem dX4_readPart_63 : decode cX4_readPart 63 = .ok (.aload_n 1, 1) := by decide +kernel
theorem dX4_readPart_64 : decode cX4_readPart 64 = .ok (.aload_n 2, 1) := by decide +kernel
theorem dX4_readPart_65 : decode cX4_readPart 65 = .ok (.iconst 0, 1) := by decide +kernel
theorem dX4_readPart_66 : decode cX4_readPart 66 = .ok (.invokevirtual 45, 3) := by decide +kernel
theorem dX4_readPart_69 : decode cX4_readPart 69 = .ok (.ifCond .eq 7, 3) := by decide +kernel
theorem dX4_readPart_72 : decode cX4_readPart 72 = .ok (.iconst 1, 1) := by decide +kernel
theorem dX4_readPart_73 : decode cX4_readPart 73 = .ok (.goto 4, 3) := by decide +kernel
theorem dX4_readPart_76 : decode cX4_readPart 76 = .ok (.iconst 0, 1) := by decide +kernel
theorem dX4_readPart_77 : decode cX4_readPart 77 = .ok (.ireturn, 1) := by decide +kernel
theorem dX4_readPart_78 : decode cX4_readPart 78 = .ok (.aload_n 2, 1) := by decide +kernel
theorem dX4_readPart_79 : decode cX4_readPart 79 = .ok (.getfield 35, 3) := by decide +kernel
theorem dX4_readPart_82 : decode cX4_readPart 82 = .ok (.invokevirtual 39, 3) := by decide +kernel
theorem dX4_readPart_85 : decode cX4_readPart 85 = .ok (.ifCond .eq 17, 3) := by decide +kernel
theorem dX4_readPart_88 : decode cX4_readPart 88 = .ok (.aload_n 0, 1) := by decide +kernel
theorem dX4_readPart_89 : decode cX4_readPart 89 = .ok (.aload_n 1, 1) := by decide +kernel
theorem dX4_readPart_90 : decode cX4_readPart 90 = .ok (.aload_n 2, 1) := by decide +kernel
theorem dX4_readPart_91 : decode cX4_readPart 91 = .ok (.iconst 1, 1) := by decide +kernel
theorem dX4_readPart_92 : decode cX4_readPart 92 = .ok (.invokevirtual 45, 3) := by decide +kernel
theorem dX4_readPart_95 : decode cX4_readPart 95 = .ok (.ifCond .eq 7, 3) := by decide +kernel
theorem dX4_readPart_98 : decode cX4_readPart 98 = .ok (.iconst 1, 1) := by decide +kernel
theorem dX4_readPart_99 : decode cX4_readPart 99 = .ok (.goto 4, 3) := by decide +kernel
theorem dX4_readPart_102 : decode cX4_readPart 102 = .ok (.iconst 0, 1) := by decide +kernel
theorem dX4_readPart_103 : decode cX4_readPart 103 = .ok (.ireturn, 1) := by decide +kernel
theorem dX4_readPart_104 : decode cX4_readPart 104 = .ok (.aload_n 2, 1) := by decide +kernel
theorem dX4_readPart_105 : decode cX4_readPart 105 = .ok (.getfield 35, 3) := by decide +kernel
theorem dX4_readPart_108 : decode cX4_readPart 108 = .ok (.invokevirtual 49, 3) := by decide +kernel
theorem dX4_readPart_111 : decode cX4_readPart 111 = .ok (.ifCond .eq 17, 3) := by decide +kernel
theorem dX4_readPart_114 : decode cX4_readPart 114 = .ok (.aload_n 0, 1) := by decide +kernel
theorem dX4_readPart_115 : decode cX4_readPart 115 = .ok (.aload_n 1, 1) := by decide +kernel
theorem dX4_readPart_116 : decode cX4_readPart 116 = .ok (.aload_n 2, 1) := by decide +kernel
theorem dX4_readPart_117 : decode cX4_readPart 117 = .ok (.iconst 1, 1) := by decide +kernel
theorem dX4_readPart_118 : decode cX4_readPart 118 = .ok (.invokevirtual 52, 3) := by decide +kernel
theorem dX4_readPart_121 : decode cX4_readPart 121 = .ok (.ifCond .eq 7, 3) := by decide +kernel
theorem dX4_readPart_124 : decode cX4_readPart 124 = .ok (.iconst 1, 1) := by decide +kernel
theorem dX4_readPart_125 : decode cX4_readPart 125 = .ok (.goto 4, 3) := by decide +kernel
theorem dX4_readPart_128 : decode cX4_readPart 128 = .ok (.iconst 0, 1) := by decide +kernel
theorem dX4_readPart_129 : decode cX4_readPart 129 = .ok (.ireturn, 1) := by decide +kernel
theorem dX4_readPart_130 : decode cX4_readPart 130 = .ok (.aload_n 2, 1) := by decide +kernel
theorem dX4_readPart_131 : decode cX4_readPart 131 = .ok (.getfield 35, 3) := by decide +kernel
theorem dX4_readPart_134 : decode cX4_readPart 134 = .ok (.invokevirtual 49, 3) := by decide +kernel
theorem dX4_readPart_137 : decode cX4_readPart 137 = .ok (.ifCond .eq 17, 3) := by decide +kernel
theorem dX4_readPart_140 : decode cX4_readPart 140 = .ok (.aload_n 0, 1) := by decide +kernel
theorem dX4_readPart_141 : decode cX4_readPart 141 = .ok (.aload_n 1, 1) := by decide +kernel
theorem dX4_readPart_142 : decode cX4_readPart 142 = .ok (.aload_n 2, 1) := by decide +kernel
theorem dX4_readPart_143 : decode cX4_readPart 143 = .ok (.iconst 0, 1) := by decide +kernel
theorem dX4_readPart_144 : decode cX4_readPart 144 = .ok (.invokevirtual 52, 3) := by decide +kernel
theorem dX4_readPart_147 : decode cX4_readPart 147 = .ok (.ifCond .eq 7, 3) := by decide +kernel
theorem dX4_readPart_150 : decode cX4_readPart 150 = .ok (.iconst 1, 1) := by decide +kernel
theorem dX4_readPart_151 : decode cX4_readPart 151 = .ok (.goto 4, 3) := by decide +kernel
theorem dX4_readPart_154 : decode cX4_readPart 154 = .ok (.iconst 0, 1) := by decide +kernel
theorem dX4_readPart_155 : decode cX4_readPart 155 = .ok (.ireturn, 1) := by decide +kernel
theorem dX4_readPart_156 : decode cX4_readPart 156 = .ok (.iconst 0, 1) := by decide +kernel
theorem dX4_readPart_157 : decode cX4_readPart 157 = .ok (.ireturn, 1) := by decide +kernel
theorem dX4_readRider_0 : decode cX4_readRider 0 = .ok (.aload_n 0, 1) := by decide +kernel
theorem dX4_readRider_1 : decode cX4_readRider 1 = .ok (.dup, 1) := by decide +kernel
theorem dX4_readRider_2 : decode cX4_readRider 2 = .ok (.getfield 9, 3) := by decide +kernel
theorem dX4_readRider_5 : decode cX4_readRider 5 = .ok (.iconst 1, 1) := by decide +kernel
theorem dX4_readRider_6 : decode cX4_readRider 6 = .ok (.iadd, 1) := by decide +kernel
theorem dX4_readRider_7 : decode cX4_readRider 7 = .ok (.putfield 9, 3) := by decide +kernel
theorem dX4_readRider_10 : decode cX4_readRider 10 = .ok (.iload_n 3, 1) := by decide +kernel
theorem dX4_readRider_11 : decode cX4_readRider 11 = .ok (.ifCond .eq 17, 3) := by decide +kernel
theorem dX4_readRider_14 : decode cX4_readRider 14 = .ok (.aload_n 0, 1) := by decide +kernel
theorem dX4_readRider_15 : decode cX4_readRider 15 = .ok (.aload_n 1, 1) := by decide +kernel
theorem dX4_readRider_16 : decode cX4_readRider 16 = .ok (.aload_n 2, 1) := by decide +kernel
theorem dX4_readRider_17 : decode cX4_readRider 17 = .ok (.getfield 35, 3) := by decide +kernel
theorem dX4_readRider_20 : decode cX4_readRider 20 = .ok (.bipush (-9), 2) := by decide +kernel
theorem dX4_readRider_22 : decode cX4_readRider 22 = .ok (.invokevirtual 55, 3) := by decide +kernel
theorem dX4_readRider_25 : decode cX4_readRider 25 = .ok (.goto 5, 3) := by decide +kernel
theorem dX4_readRider_28 : decode cX4_readRider 28 = .ok (.bipush (-9), 2) := by decide +kernel
theorem dX4_readRider_30 : decode cX4_readRider 30 = .ok (.istore 4, 2) := by decide +kernel
theorem dX4_readRider_32 : decode cX4_readRider 32 = .ok (.iload_n 3, 1) := by decide +kernel
theorem dX4_readRider_33 : decode cX4_readRider 33 = .ok (.ifCond .eq 12, 3) := by decide +kernel
theorem dX4_readRider_36 : decode cX4_readRider 36 = .ok (.iload 4, 2) := by decide +kernel
theorem dX4_readRider_38 : decode cX4_readRider 38 = .ok (.bipush (-9), 2) := by decide +kernel
theorem dX4_readRider_40 : decode cX4_readRider 40 = .ok (.if_icmp .ne 5, 3) := by decide +kernel
theorem dX4_readRider_43 : decode cX4_readRider 43 = .ok (.iconst 0, 1) := by decide +kernel
theorem dX4_readRider_44 : decode cX4_readRider 44 = .ok (.ireturn, 1) := by decide +kernel
theorem dX4_readRider_45 : decode cX4_readRider 45 = .ok (.aload_n 0, 1) := by decide +kernel
theorem dX4_readRider_46 : decode cX4_readRider 46 = .ok (.aload_n 1, 1) := by decide +kernel
theorem dX4_readRider_47 : decode cX4_readRider 47 = .ok (.aload_n 2, 1) := by decide +kernel
theorem dX4_readRider_48 : decode cX4_readRider 48 = .ok (.getfield 35, 3) := by decide +kernel
theorem dX4_readRider_51 : decode cX4_readRider 51 = .ok (.iload 4, 2) := by decide +kernel
theorem dX4_readRider_53 : decode cX4_readRider 53 = .ok (.invokevirtual 55, 3) := by decide +kernel
theorem dX4_readRider_56 : decode cX4_readRider 56 = .ok (.istore 5, 2) := by decide +kernel
theorem dX4_readRider_58 : decode cX4_readRider 58 = .ok (.iload 5, 2) := by decide +kernel
theorem dX4_readRider_60 : decode cX4_readRider 60 = .ok (.bipush (-9), 2) := by decide +kernel
theorem dX4_readRider_62 : decode cX4_readRider 62 = .ok (.if_icmp .ne 5, 3) := by decide +kernel
theorem dX4_readRider_65 : decode cX4_readRider 65 = .ok (.iconst 0, 1) := by decide +kernel
theorem dX4_readRider_66 : decode cX4_readRider 66 = .ok (.ireturn, 1) := by decide +kernel
theorem dX4_readRider_67 : decode cX4_readRider 67 = .ok (.aload_n 2, 1) := by decide +kernel
theorem dX4_readRider_68 : decode cX4_readRider 68 = .ok (.iload 4, 2) := by decide +kernel
theorem dX4_readRider_70 : decode cX4_readRider 70 = .ok (.iload 5, 2) := by decide +kernel
theorem dX4_readRider_72 : decode cX4_readRider 72 = .ok (.invokevirtual 59, 3) := by decide +kernel
theorem dX4_readRider_75 : decode cX4_readRider 75 = .ok (.iconst 1, 1) := by decide +kernel
theorem dX4_readRider_76 : decode cX4_readRider 76 = .ok (.ireturn, 1) := by decide +kernel
theorem dX4_readStranger_0 : decode cX4_readStranger 0 = .ok (.aload_n 0, 1) := by decide +kernel
theorem dX4_readStranger_1 : decode cX4_readStranger 1 = .ok (.dup, 1) := by decide +kernel
theorem dX4_readStranger_2 : decode cX4_readStranger 2 = .ok (.getfield 9, 3) := by decide +kernel
theorem dX4_readStranger_5 : decode cX4_readStranger 5 = .ok (.iconst 1, 1) := by decide +kernel
theorem dX4_readStranger_6 : decode cX4_readStranger 6 = .ok (.iadd, 1) := by decide +kernel
theorem dX4_readStranger_7 : decode cX4_readStranger 7 = .ok (.putfield 9, 3) := by decide +kernel
theorem dX4_readStranger_10 : decode cX4_readStranger 10 = .ok (.iload_n 3, 1) := by decide +kernel
theorem dX4_readStranger_11 : decode cX4_readStranger 11 = .ok (.ifCond .eq 17, 3) := by decide +kernel
theorem dX4_readStranger_14 : decode cX4_readStranger 14 = .ok (.aload_n 0, 1) := by decide +kernel
theorem dX4_readStranger_15 : decode cX4_readStranger 15 = .ok (.aload_n 1, 1) := by decide +kernel
theorem dX4_readStranger_16 : decode cX4_readStranger 16 = .ok (.aload_n 2, 1) := by decide +kernel
theorem dX4_readStranger_17 : decode cX4_readStranger 17 = .ok (.getfield 35, 3) := by decide +kernel
theorem dX4_readStranger_20 : decode cX4_readStranger 20 = .ok (.bipush (-9), 2) := by decide +kernel
theorem dX4_readStranger_22 : decode cX4_readStranger 22 = .ok (.invokevirtual 55, 3) := by decide +kernel
theorem dX4_readStranger_25 : decode cX4_readStranger 25 = .ok (.goto 5, 3) := by decide +kernel
theorem dX4_readStranger_28 : decode cX4_readStranger 28 = .ok (.bipush 7, 2) := by decide +kernel
theorem dX4_readStranger_30 : decode cX4_readStranger 30 = .ok (.istore 4, 2) := by decide +kernel
theorem dX4_readStranger_32 : decode cX4_readStranger 32 = .ok (.iload 4, 2) := by decide +kernel
theorem dX4_readStranger_34 : decode cX4_readStranger 34 = .ok (.bipush (-9), 2) := by decide +kernel
theorem dX4_readStranger_36 : decode cX4_readStranger 36 = .ok (.if_icmp .ne 5, 3) := by decide +kernel
theorem dX4_readStranger_39 : decode cX4_readStranger 39 = .ok (.iconst 0, 1) := by decide +kernel
theorem dX4_readStranger_40 : decode cX4_readStranger 40 = .ok (.ireturn, 1) := by decide +kernel
theorem dX4_readStranger_41 : decode cX4_readStranger 41 = .ok (.aload_n 2, 1) := by decide +kernel
theorem dX4_readStranger_42 : decode cX4_readStranger 42 = .ok (.iload 4, 2) := by decide +kernel
theorem dX4_readStranger_44 : decode cX4_readStranger 44 = .ok (.invokevirtual 65, 3) := by decide +kernel
theorem dX4_readStranger_47 : decode cX4_readStranger 47 = .ok (.iconst 1, 1) := by decide +kernel
theorem dX4_readStranger_48 : decode cX4_readStranger 48 = .ok (.ireturn, 1) := by decide +kernel
theorem dX4_readFloor_0 : decode cX4_readFloor 0 = .ok (.aload_n 1, 1) := by decide +kernel
theorem dX4_readFloor_1 : decode cX4_readFloor 1 = .ok (.aload_n 0, 1) := by decide +kernel
theorem dX4_readFloor_2 : decode cX4_readFloor 2 = .ok (.getfield 9, 3) := by decide +kernel
theorem dX4_readFloor_5 : decode cX4_readFloor 5 = .ok (.invokevirtual 15, 3) := by decide +kernel
theorem dX4_readFloor_8 : decode cX4_readFloor 8 = .ok (.bipush 48, 2) := by decide +kernel
theorem dX4_readFloor_10 : decode cX4_readFloor 10 = .ok (.isub, 1) := by decide +kernel
theorem dX4_readFloor_11 : decode cX4_readFloor 11 = .ok (.istore 4, 2) := by decide +kernel
theorem dX4_readFloor_13 : decode cX4_readFloor 13 = .ok (.aload_n 2, 1) := by decide +kernel
theorem dX4_readFloor_14 : decode cX4_readFloor 14 = .ok (.iload 4, 2) := by decide +kernel
theorem dX4_readFloor_16 : decode cX4_readFloor 16 = .ok (.invokevirtual 68, 3) := by decide +kernel
theorem dX4_readFloor_19 : decode cX4_readFloor 19 = .ok (.ifCond .eq 9, 3) := by decide +kernel
theorem dX4_readFloor_22 : decode cX4_readFloor 22 = .ok (.iload 4, 2) := by decide +kernel
theorem dX4_readFloor_24 : decode cX4_readFloor 24 = .ok (.iload_n 3, 1) := by decide +kernel
theorem dX4_readFloor_25 : decode cX4_readFloor 25 = .ok (.if_icmp .ne 6, 3) := by decide +kernel
theorem dX4_readFloor_28 : decode cX4_readFloor 28 = .ok (.bipush (-9), 2) := by decide +kernel
theorem dX4_readFloor_30 : decode cX4_readFloor 30 = .ok (.ireturn, 1) := by decide +kernel
theorem dX4_readFloor_31 : decode cX4_readFloor 31 = .ok (.aload_n 0, 1) := by decide +kernel
theorem dX4_readFloor_32 : decode cX4_readFloor 32 = .ok (.dup, 1) := by decide +kernel
theorem dX4_readFloor_33 : decode cX4_readFloor 33 = .ok (.getfield 9, 3) := by decide +kernel
theorem dX4_readFloor_36 : decode cX4_readFloor 36 = .ok (.iconst 1, 1) := by decide +kernel
theorem dX4_readFloor_37 : decode cX4_readFloor 37 = .ok (.iadd, 1) := by decide +kernel
theorem dX4_readFloor_38 : decode cX4_readFloor 38 = .ok (.putfield 9, 3) := by decide +kernel
theorem dX4_readFloor_41 : decode cX4_readFloor 41 = .ok (.iload 4, 2) := by decide +kernel
theorem dX4_readFloor_43 : decode cX4_readFloor 43 = .ok (.ireturn, 1) := by decide +kernel
theorem dX5_init_0 : decode cX5_init 0 = .ok (.aload_n 0, 1) := by decide +kernel
theorem dX5_init_1 : decode cX5_init 1 = .ok (.invokespecial 3, 3) := by decide +kernel
theorem dX5_init_4 : decode cX5_init 4 = .ok (.aload_n 0, 1) := by decide +kernel
theorem dX5_init_5 : decode cX5_init 5 = .ok (.new 9, 3) := by decide +kernel
theorem dX5_init_8 : decode cX5_init 8 = .ok (.dup, 1) := by decide +kernel
theorem dX5_init_9 : decode cX5_init 9 = .ok (.invokespecial 11, 3) := by decide +kernel
theorem dX5_init_12 : decode cX5_init 12 = .ok (.putfield 12, 3) := by decide +kernel
theorem dX5_init_15 : decode cX5_init 15 = .ok (.aload_n 0, 1) := by decide +kernel
theorem dX5_init_16 : decode cX5_init 16 = .ok (.sipush 13824, 3) := by decide +kernel
theorem dX5_init_19 : decode cX5_init 19 = .ok (.putfield 20, 3) := by decide +kernel
theorem dX5_init_22 : decode cX5_init 22 = .ok (.aload_n 0, 1) := by decide +kernel
theorem dX5_init_23 : decode cX5_init 23 = .ok (.bipush 24, 2) := by decide +kernel
theorem dX5_init_25 : decode cX5_init 25 = .ok (.newarray .int, 2) := by decide +kernel
theorem dX5_init_27 : decode cX5_init 27 = .ok (.putfield 24, 3) := by decide +kernel
theorem dX5_init_30 : decode cX5_init 30 = .ok (.aload_n 0, 1) := by decide +kernel
theorem dX5_init_31 : decode cX5_init 31 = .ok (.iconst 0, 1) := by decide +kernel
theorem dX5_init_32 : decode cX5_init 32 = .ok (.putfield 28, 3) := by decide +kernel
theorem dX5_init_35 : decode cX5_init 35 = .ok (.return_, 1) := by decide +kernel
theorem dX5_empty_0 : decode cX5_empty 0 = .ok (.aload_n 0, 1) := by decide +kernel
theorem dX5_empty_1 : decode cX5_empty 1 = .ok (.getfield 12, 3) := by decide +kernel
theorem dX5_empty_4 : decode cX5_empty 4 = .ok (.iload_n 1, 1) := by decide +kernel
theorem dX5_empty_5 : decode cX5_empty 5 = .ok (.invokevirtual 31, 3) := by decide +kernel
theorem dX5_empty_8 : decode cX5_empty 8 = .ok (.aload_n 0, 1) := by decide +kernel
theorem dX5_empty_9 : decode cX5_empty 9 = .ok (.sipush 13824, 3) := by decide +kernel
theorem dX5_empty_12 : decode cX5_empty 12 = .ok (.putfield 20, 3) := by decide +kernel
theorem dX5_empty_15 : decode cX5_empty 15 = .ok (.aload_n 0, 1) := by decide +kernel
theorem dX5_empty_16 : decode cX5_empty 16 = .ok (.iconst 0, 1) := by decide +kernel
theorem dX5_empty_17 : decode cX5_empty 17 = .ok (.putfield 28, 3) := by decide +kernel
theorem dX5_empty_20 : decode cX5_empty 20 = .ok (.return_, 1) := by decide +kernel
theorem dX5_copyFrom_0 : decode cX5_copyFrom 0 = .ok (.aload_n 0, 1) := by decide +kernel
theorem dX5_copyFrom_1 : decode cX5_copyFrom 1 = .ok (.getfield 12, 3) := by decide +kernel
theorem dX5_copyFrom_4 : decode cX5_copyFrom 4 = .ok (.aload_n 1, 1) := by decide +kernel
theorem dX5_copyFrom_5 : decode cX5_copyFrom 5 = .ok (.getfield 12, 3) := by decide +kernel
theorem dX5_copyFrom_8 : decode cX5_copyFrom 8 = .ok (.invokevirtual 35, 3) := by decide +kernel
theorem dX5_copyFrom_11 : decode cX5_copyFrom 11 = .ok (.aload_n 0, 1) := by decide +kernel
theorem dX5_copyFrom_12 : decode cX5_copyFrom 12 = .ok (.aload_n 1, 1) := by decide +kernel
theorem dX5_copyFrom_13 : decode cX5_copyFrom 13 = .ok (.getfield 20, 3) := by decide +kernel
theorem dX5_copyFrom_16 : decode cX5_copyFrom 16 = .ok (.putfield 20, 3) := by decide +kernel
theorem dX5_copyFrom_19 : decode cX5_copyFrom 19 = .ok (.aload_n 1, 1) := by decide +kernel
theorem dX5_copyFrom_20 : decode cX5_copyFrom 20 = .ok (.getfield 24, 3) := by decide +kernel
theorem dX5_copyFrom_23 : decode cX5_copyFrom 23 = .ok (.aload_n 0, 1) := by decide +kernel
theorem dX5_copyFrom_24 : decode cX5_copyFrom 24 = .ok (.getfield 24, 3) := by decide +kernel
theorem dX5_copyFrom_27 : decode cX5_copyFrom 27 = .ok (.invokestatic 39, 3) := by decide +kernel
theorem dX5_copyFrom_30 : decode cX5_copyFrom 30 = .ok (.aload_n 0, 1) := by decide +kernel
theorem dX5_copyFrom_31 : decode cX5_copyFrom 31 = .ok (.aload_n 1, 1) := by decide +kernel
theorem dX5_copyFrom_32 : decode cX5_copyFrom 32 = .ok (.getfield 28, 3) := by decide +kernel
theorem dX5_copyFrom_35 : decode cX5_copyFrom 35 = .ok (.putfield 28, 3) := by decide +kernel
theorem dX5_copyFrom_38 : decode cX5_copyFrom 38 = .ok (.return_, 1) := by decide +kernel
theorem dX5_addRider_0 : decode cX5_addRider 0 = .ok (.iload_n 1, 1) := by decide +kernel
theorem dX5_addRider_1 : decode cX5_addRider 1 = .ok (.bipush (-9), 2) := by decide +kernel
theorem dX5_addRider_3 : decode cX5_addRider 3 = .ok (.if_icmp .ne 21, 3) := by decide +kernel
theorem dX5_addRider_6 : decode cX5_addRider 6 = .ok (.aload_n 0, 1) := by decide +kernel
theorem dX5_addRider_7 : decode cX5_addRider 7 = .ok (.aload_n 0, 1) := by decide +kernel
theorem dX5_addRider_8 : decode cX5_addRider 8 = .ok (.getfield 20, 3) := by decide +kernel
theorem dX5_addRider_11 : decode cX5_addRider 11 = .ok (.aload_n 0, 1) := by decide +kernel
theorem dX5_addRider_12 : decode cX5_addRider 12 = .ok (.getfield 12, 3) := by decide +kernel
theorem dX5_addRider_15 : decode cX5_addRider 15 = .ok (.getfield 43, 3) := by decide +kernel
theorem dX5_addRider_18 : decode cX5_addRider 18 = .ok (.invokestatic 46, 3) := by decide +kernel
theorem dX5_addRider_21 : decode cX5_addRider 21 = .ok (.putfield 20, 3) := by decide +kernel
theorem dX5_addRider_24 : decode cX5_addRider 24 = .ok (.aload_n 0, 1) := by decide +kernel
theorem dX5_addRider_25 : decode cX5_addRider 25 = .ok (.getfield 12, 3) := by decide +kernel
theorem dX5_addRider_28 : decode cX5_addRider 28 = .ok (.iload_n 1, 1) := by decide +kernel
theorem dX5_addRider_29 : decode cX5_addRider 29 = .ok (.iload_n 2, 1) := by decide +kernel
theorem dX5_addRider_30 : decode cX5_addRider 30 = .ok (.invokevirtual 50, 3) := by decide +kernel
theorem dX5_addRider_33 : decode cX5_addRider 33 = .ok (.return_, 1) := by decide +kernel
theorem dX5_addStranger_0 : decode cX5_addStranger 0 = .ok (.aload_n 0, 1) := by decide +kernel
theorem dX5_addStranger_1 : decode cX5_addStranger 1 = .ok (.aload_n 0, 1) := by decide +kernel
theorem dX5_addStranger_2 : decode cX5_addStranger 2 = .ok (.getfield 20, 3) := by decide +kernel
theorem dX5_addStranger_5 : decode cX5_addStranger 5 = .ok (.iconst 1, 1) := by decide +kernel
theorem dX5_addStranger_6 : decode cX5_addStranger 6 = .ok (.iconst 4, 1) := by decide +kernel
theorem dX5_addStranger_7 : decode cX5_addStranger 7 = .ok (.aload_n 0, 1) := by decide +kernel
theorem dX5_addStranger_8 : decode cX5_addStranger 8 = .ok (.getfield 12, 3) := by decide +kernel
theorem dX5_addStranger_11 : decode cX5_addStranger 11 = .ok (.getfield 54, 3) := by decide +kernel
theorem dX5_addStranger_14 : decode cX5_addStranger 14 = .ok (.iadd, 1) := by decide +kernel
theorem dX5_addStranger_15 : decode cX5_addStranger 15 = .ok (.ishl, 1) := by decide +kernel
theorem dX5_addStranger_16 : decode cX5_addStranger 16 = .ok (.iload_n 1, 1) := by decide +kernel
theorem dX5_addStranger_17 : decode cX5_addStranger 17 = .ok (.invokestatic 57, 3) := by decide +kernel
theorem dX5_addStranger_20 : decode cX5_addStranger 20 = .ok (.putfield 20, 3) := by decide +kernel
theorem dX5_addStranger_23 : decode cX5_addStranger 23 = .ok (.aload_n 0, 1) := by decide +kernel
theorem dX5_addStranger_24 : decode cX5_addStranger 24 = .ok (.getfield 12, 3) := by decide +kernel
theorem dX5_addStranger_27 : decode cX5_addStranger 27 = .ok (.invokevirtual 61, 3) := by decide +kernel
theorem dX5_addStranger_30 : decode cX5_addStranger 30 = .ok (.return_, 1) := by decide +kernel
theorem dX5_placeOf_0 : decode cX5_placeOf 0 = .ok (.aload_n 0, 1) := by decide +kernel
theorem dX5_placeOf_1 : decode cX5_placeOf 1 = .ok (.getfield 20, 3) := by decide +kernel
theorem dX5_placeOf_4 : decode cX5_placeOf 4 = .ok (.invokestatic 64, 3) := by decide +kernel
theorem dX5_placeOf_7 : decode cX5_placeOf 7 = .ok (.iconst 1, 1) := by decide +kernel
theorem dX5_placeOf_8 : decode cX5_placeOf 8 = .ok (.iload_n 1, 1) := by decide +kernel
theorem dX5_placeOf_9 : decode cX5_placeOf 9 = .ok (.ishl, 1) := by decide +kernel
theorem dX5_placeOf_10 : decode cX5_placeOf 10 = .ok (.iand, 1) := by decide +kernel
theorem dX5_placeOf_11 : decode cX5_placeOf 11 = .ok (.ifCond .eq 6, 3) := by decide +kernel
theorem dX5_placeOf_14 : decode cX5_placeOf 14 = .ok (.bipush 100, 2) := by decide +kernel
theorem dX5_placeOf_16 : decode cX5_placeOf 16 = .ok (.ireturn, 1) := by decide +kernel
theorem dX5_placeOf_17 : decode cX5_placeOf 17 = .ok (.aload_n 0, 1) := by decide +kernel
theorem dX5_placeOf_18 : decode cX5_placeOf 18 = .ok (.getfield 20, 3) := by decide +kernel
theorem dX5_placeOf_21 : decode cX5_placeOf 21 = .ok (.invokestatic 68, 3) := by decide +kernel
theorem dX5_placeOf_24 : decode cX5_placeOf 24 = .ok (.iconst 1, 1) := by decide +kernel
theorem dX5_placeOf_25 : decode cX5_placeOf 25 = .ok (.iload_n 1, 1) := by decide +kernel
theorem dX5_placeOf_26 : decode cX5_placeOf 26 = .ok (.ishl, 1) := by decide +kernel
theorem dX5_placeOf_27 : decode cX5_placeOf 27 = .ok (.iand, 1) := by decide +kernel
theorem dX5_placeOf_28 : decode cX5_placeOf 28 = .ok (.ifCond .eq 7, 3) := by decide +kernel
theorem dX5_placeOf_31 : decode cX5_placeOf 31 = .ok (.sipush 200, 3) := by decide +kernel
theorem dX5_placeOf_34 : decode cX5_placeOf 34 = .ok (.ireturn, 1) := by decide +kernel
theorem dX5_placeOf_35 : decode cX5_placeOf 35 = .ok (.iload_n 1, 1) := by decide +kernel
theorem dX5_placeOf_36 : decode cX5_placeOf 36 = .ok (.iconst 4, 1) := by decide +kernel
theorem dX5_placeOf_37 : decode cX5_placeOf 37 = .ok (.if_icmp .ge 14, 3) := by decide +kernel
theorem dX5_placeOf_40 : decode cX5_placeOf 40 = .ok (.aload_n 0, 1) := by decide +kernel
theorem dX5_placeOf_41 : decode cX5_placeOf 41 = .ok (.getfield 12, 3) := by decide +kernel
theorem dX5_placeOf_44 : decode cX5_placeOf 44 = .ok (.iload_n 1, 1) := by decide +kernel
theorem dX5_placeOf_45 : decode cX5_placeOf 45 = .ok (.invokevirtual 71, 3) := by decide +kernel
theorem dX5_placeOf_48 : decode cX5_placeOf 48 = .ok (.goto 11, 3) := by decide +kernel
theorem dX5_placeOf_51 : decode cX5_placeOf 51 = .ok (.aload_n 0, 1) := by decide +kernel
theorem dX5_placeOf_52 : decode cX5_placeOf 52 = .ok (.getfield 20, 3) := by decide +kernel
theorem dX5_placeOf_55 : decode cX5_placeOf 55 = .ok (.iload_n 1, 1) := by decide +kernel
theorem dX5_placeOf_56 : decode cX5_placeOf 56 = .ok (.invokestatic 74, 3) := by decide +kernel
theorem dX5_placeOf_59 : decode cX5_placeOf 59 = .ok (.ireturn, 1) := by decide +kernel
theorem dX5_mayLeave_0 : decode cX5_mayLeave 0 = .ok (.aload_n 0, 1) := by decide +kernel
theorem dX5_mayLeave_1 : decode cX5_mayLeave 1 = .ok (.getfield 12, 3) := by decide +kernel
theorem dX5_mayLeave_4 : decode cX5_mayLeave 4 = .ok (.aload_n 0, 1) := by decide +kernel
theorem dX5_mayLeave_5 : decode cX5_mayLeave 5 = .ok (.getfield 20, 3) := by decide +kernel
theorem dX5_mayLeave_8 : decode cX5_mayLeave 8 = .ok (.iload_n 1, 1) := by decide +kernel
theorem dX5_mayLeave_9 : decode cX5_mayLeave 9 = .ok (.invokevirtual 77, 3) := by decide +kernel
theorem dX5_mayLeave_12 : decode cX5_mayLeave 12 = .ok (.ireturn, 1) := by decide +kernel
theorem dX5_mayEnter_0 : decode cX5_mayEnter 0 = .ok (.aload_n 0, 1) := by decide +kernel
theorem dX5_mayEnter_1 : decode cX5_mayEnter 1 = .ok (.getfield 12, 3) := by decide +kernel
theorem dX5_mayEnter_4 : decode cX5_mayEnter 4 = .ok (.aload_n 0, 1) := by decide +kernel
theorem dX5_mayEnter_5 : decode cX5_mayEnter 5 = .ok (.getfield 20, 3) := by decide +kernel
theorem dX5_mayEnter_8 : decode cX5_mayEnter 8 = .ok (.iload_n 1, 1) := by decide +kernel
theorem dX5_mayEnter_9 : decode cX5_mayEnter 9 = .ok (.invokevirtual 80, 3) := by decide +kernel
theorem dX5_mayEnter_12 : decode cX5_mayEnter 12 = .ok (.ireturn, 1) := by decide +kernel
theorem dX5_mostAt_0 : decode cX5_mostAt 0 = .ok (.aload_n 0, 1) := by decide +kernel
theorem dX5_mostAt_1 : decode cX5_mostAt 1 = .ok (.iload_n 1, 1) := by decide +kernel
theorem dX5_mostAt_2 : decode cX5_mostAt 2 = .ok (.invokevirtual 83, 3) := by decide +kernel
theorem dX5_mostAt_5 : decode cX5_mostAt 5 = .ok (.invokestatic 85, 3) := by decide +kernel
theorem dX5_mostAt_8 : decode cX5_mostAt 8 = .ok (.aload_n 0, 1) := by decide +kernel
theorem dX5_mostAt_9 : decode cX5_mostAt 9 = .ok (.iload_n 1, 1) := by decide +kernel
theorem dX5_mostAt_10 : decode cX5_mostAt 10 = .ok (.invokevirtual 90, 3) := by decide +kernel
theorem dX5_mostAt_13 : decode cX5_mostAt 13 = .ok (.invokestatic 85, 3) := by decide +kernel
theorem dX5_mostAt_16 : decode cX5_mostAt 16 = .ok (.invokestatic 92, 3) := by decide +kernel
theorem dX5_mostAt_19 : decode cX5_mostAt 19 = .ok (.ireturn, 1) := by decide +kernel
theorem dX5_allows_0 : decode cX5_allows 0 = .ok (.iload_n 2, 1) := by decide +kernel
theorem dX5_allows_1 : decode cX5_allows 1 = .ok (.ifCond .eq 42, 3) := by decide +kernel
theorem dX5_allows_4 : decode cX5_allows 4 = .ok (.iload_n 2, 1) := by decide +kernel
theorem dX5_allows_5 : decode cX5_allows 5 = .ok (.invokestatic 85, 3) := by decide +kernel
theorem dX5_allows_8 : decode cX5_allows 8 = .ok (.iload_n 3, 1) := by decide +kernel
theorem dX5_allows_9 : decode cX5_allows 9 = .ok (.invokestatic 85, 3) := by decide +kernel
theorem dX5_allows_12 : decode cX5_allows 12 = .ok (.if_icmp .ne 31, 3) := by decide +kernel
theorem dX5_allows_15 : decode cX5_allows 15 = .ok (.iload_n 2, 1) := by decide +kernel
theorem dX5_allows_16 : decode cX5_allows 16 = .ok (.aload_n 0, 1) := by decide +kernel
theorem dX5_allows_17 : decode cX5_allows 17 = .ok (.iload_n 1, 1) := by decide +kernel
theorem dX5_allows_18 : decode cX5_allows 18 = .ok (.invokevirtual 83, 3) := by decide +kernel
theorem dX5_allows_21 : decode cX5_allows 21 = .ok (.iconst (-1), 1) := by decide +kernel
theorem dX5_allows_22 : decode cX5_allows 22 = .ok (.ixor, 1) := by decide +kernel
theorem dX5_allows_23 : decode cX5_allows 23 = .ok (.iand, 1) := by decide +kernel
theorem dX5_allows_24 : decode cX5_allows 24 = .ok (.ifCond .ne 19, 3) := by decide +kernel
theorem dX5_allows_27 : decode cX5_allows 27 = .ok (.iload_n 3, 1) := by decide +kernel
theorem dX5_allows_28 : decode cX5_allows 28 = .ok (.aload_n 0, 1) := by decide +kernel
theorem dX5_allows_29 : decode cX5_allows 29 = .ok (.iload_n 1, 1) := by decide +kernel
theorem dX5_allows_30 : decode cX5_allows 30 = .ok (.invokevirtual 90, 3) := by decide +kernel
theorem dX5_allows_33 : decode cX5_allows 33 = .ok (.iconst (-1), 1) := by decide +kernel
theorem dX5_allows_34 : decode cX5_allows 34 = .ok (.ixor, 1) := by decide +kernel
theorem dX5_allows_35 : decode cX5_allows 35 = .ok (.iand, 1) := by decide +kernel
theorem dX5_allows_36 : decode cX5_allows 36 = .ok (.ifCond .ne 7, 3) := by decide +kernel
theorem dX5_allows_39 : decode cX5_allows 39 = .ok (.iconst 1, 1) := by decide +kernel
theorem dX5_allows_40 : decode cX5_allows 40 = .ok (.goto 4, 3) := by decide +kernel
theorem dX5_allows_43 : decode cX5_allows 43 = .ok (.iconst 0, 1) := by decide +kernel
theorem dX5_allows_44 : decode cX5_allows 44 = .ok (.ireturn, 1) := by decide +kernel
theorem dX5_size_0 : decode cX5_size 0 = .ok (.aload_n 0, 1) := by decide +kernel
theorem dX5_size_1 : decode cX5_size 1 = .ok (.getfield 28, 3) := by decide +kernel
theorem dX5_size_4 : decode cX5_size 4 = .ok (.ireturn, 1) := by decide +kernel
theorem dX5_isFull_0 : decode cX5_isFull 0 = .ok (.aload_n 0, 1) := by decide +kernel
theorem dX5_isFull_1 : decode cX5_isFull 1 = .ok (.getfield 28, 3) := by decide +kernel
theorem dX5_isFull_4 : decode cX5_isFull 4 = .ok (.bipush 24, 2) := by decide +kernel
theorem dX5_isFull_6 : decode cX5_isFull 6 = .ok (.if_icmp .lt 7, 3) := by decide +kernel
theorem dX5_isFull_9 : decode cX5_isFull 9 = .ok (.iconst 1, 1) := by decide +kernel
theorem dX5_isFull_10 : decode cX5_isFull 10 = .ok (.goto 4, 3) := by decide +kernel
theorem dX5_isFull_13 : decode cX5_isFull 13 = .ok (.iconst 0, 1) := by decide +kernel
theorem dX5_isFull_14 : decode cX5_isFull 14 = .ok (.ireturn, 1) := by decide +kernel
theorem dX5_haltAt_0 : decode cX5_haltAt 0 = .ok (.aload_n 0, 1) := by decide +kernel
theorem dX5_haltAt_1 : decode cX5_haltAt 1 = .ok (.getfield 24, 3) := by decide +kernel
theorem dX5_haltAt_4 : decode cX5_haltAt 4 = .ok (.iload_n 1, 1) := by decide +kernel
theorem dX5_haltAt_5 : decode cX5_haltAt 5 = .ok (.invokestatic 97, 3) := by decide +kernel
theorem dX5_haltAt_8 : decode cX5_haltAt 8 = .ok (.ireturn, 1) := by decide +kernel
theorem dX5_add_0 : decode cX5_add 0 = .ok (.aload_n 0, 1) := by decide +kernel
theorem dX5_add_1 : decode cX5_add 1 = .ok (.getfield 28, 3) := by decide +kernel
theorem dX5_add_4 : decode cX5_add 4 = .ok (.bipush 24, 2) := by decide +kernel
theorem dX5_add_6 : decode cX5_add 6 = .ok (.if_icmp .ge 44, 3) := by decide +kernel
theorem dX5_add_9 : decode cX5_add 9 = .ok (.aload_n 0, 1) := by decide +kernel
theorem dX5_add_10 : decode cX5_add 10 = .ok (.aload_n 0, 1) := by decide +kernel
theorem dX5_add_11 : decode cX5_add 11 = .ok (.getfield 20, 3) := by decide +kernel
theorem dX5_add_14 : decode cX5_add 14 = .ok (.iload_n 1, 1) := by decide +kernel
theorem dX5_add_15 : decode cX5_add 15 = .ok (.iload_n 2, 1) := by decide +kernel
theorem dX5_add_16 : decode cX5_add 16 = .ok (.iload_n 3, 1) := by decide +kernel
theorem dX5_add_17 : decode cX5_add 17 = .ok (.invokestatic 101, 3) := by decide +kernel
theorem dX5_add_20 : decode cX5_add 20 = .ok (.putfield 20, 3) := by decide +kernel
theorem dX5_add_23 : decode cX5_add 23 = .ok (.aload_n 0, 1) := by decide +kernel
theorem dX5_add_24 : decode cX5_add 24 = .ok (.getfield 24, 3) := by decide +kernel
theorem dX5_add_27 : decode cX5_add 27 = .ok (.aload_n 0, 1) := by decide +kernel
theorem dX5_add_28 : decode cX5_add 28 = .ok (.getfield 28, 3) := by decide +kernel
theorem dX5_add_31 : decode cX5_add 31 = .ok (.iload_n 1, 1) := by decide +kernel
theorem dX5_add_32 : decode cX5_add 32 = .ok (.iload_n 2, 1) := by decide +kernel
theorem dX5_add_33 : decode cX5_add 33 = .ok (.iload_n 3, 1) := by decide +kernel
theorem dX5_add_34 : decode cX5_add 34 = .ok (.invokestatic 105, 3) := by decide +kernel
theorem dX5_add_37 : decode cX5_add 37 = .ok (.invokestatic 110, 3) := by decide +kernel
theorem dX5_add_40 : decode cX5_add 40 = .ok (.aload_n 0, 1) := by decide +kernel
theorem dX5_add_41 : decode cX5_add 41 = .ok (.dup, 1) := by decide +kernel
theorem dX5_add_42 : decode cX5_add 42 = .ok (.getfield 28, 3) := by decide +kernel
theorem dX5_add_45 : decode cX5_add 45 = .ok (.iconst 1, 1) := by decide +kernel
theorem dX5_add_46 : decode cX5_add 46 = .ok (.iadd, 1) := by decide +kernel
theorem dX5_add_47 : decode cX5_add 47 = .ok (.putfield 28, 3) := by decide +kernel
theorem dX5_add_50 : decode cX5_add 50 = .ok (.return_, 1) := by decide +kernel
theorem dX5_takeBack_0 : decode cX5_takeBack 0 = .ok (.aload_n 0, 1) := by decide +kernel
theorem dX5_takeBack_1 : decode cX5_takeBack 1 = .ok (.getfield 28, 3) := by decide +kernel
theorem dX5_takeBack_4 : decode cX5_takeBack 4 = .ok (.ifCond .le 47, 3) := by decide +kernel
theorem dX5_takeBack_7 : decode cX5_takeBack 7 = .ok (.aload_n 0, 1) := by decide +kernel
theorem dX5_takeBack_8 : decode cX5_takeBack 8 = .ok (.dup, 1) := by decide +kernel
theorem dX5_takeBack_9 : decode cX5_takeBack 9 = .ok (.getfield 28, 3) := by decide +kernel
theorem dX5_takeBack_12 : decode cX5_takeBack 12 = .ok (.iconst 1, 1) := by decide +kernel
theorem dX5_takeBack_13 : decode cX5_takeBack 13 = .ok (.isub, 1) := by decide +kernel
theorem dX5_takeBack_14 : decode cX5_takeBack 14 = .ok (.putfield 28, 3) := by decide +kernel
theorem dX5_takeBack_17 : decode cX5_takeBack 17 = .ok (.aload_n 0, 1) := by decide +kernel
theorem dX5_takeBack_18 : decode cX5_takeBack 18 = .ok (.aload_n 0, 1) := by decide +kernel
theorem dX5_takeBack_19 : decode cX5_takeBack 19 = .ok (.getfield 28, 3) := by decide +kernel
theorem dX5_takeBack_22 : decode cX5_takeBack 22 = .ok (.invokevirtual 114, 3) := by decide +kernel
theorem dX5_takeBack_25 : decode cX5_takeBack 25 = .ok (.istore_n 1, 1) := by decide +kernel
theorem dX5_takeBack_26 : decode cX5_takeBack 26 = .ok (.aload_n 0, 1) := by decide +kernel
theorem dX5_takeBack_27 : decode cX5_takeBack 27 = .ok (.aload_n 0, 1) := by decide +kernel
theorem dX5_takeBack_28 : decode cX5_takeBack 28 = .ok (.getfield 20, 3) := by decide +kernel
theorem dX5_takeBack_31 : decode cX5_takeBack 31 = .ok (.iload_n 1, 1) := by decide +kernel
theorem dX5_takeBack_32 : decode cX5_takeBack 32 = .ok (.invokestatic 117, 3) := by decide +kernel
theorem dX5_takeBack_35 : decode cX5_takeBack 35 = .ok (.iload_n 1, 1) := by decide +kernel
theorem dX5_takeBack_36 : decode cX5_takeBack 36 = .ok (.iconst 1, 1) := by decide +kernel
theorem dX5_takeBack_37 : decode cX5_takeBack 37 = .ok (.invokestatic 120, 3) := by decide +kernel
theorem dX5_takeBack_40 : decode cX5_takeBack 40 = .ok (.iload_n 1, 1) := by decide +kernel
theorem dX5_takeBack_41 : decode cX5_takeBack 41 = .ok (.iconst 2, 1) := by decide +kernel
theorem dX5_takeBack_42 : decode cX5_takeBack 42 = .ok (.invokestatic 120, 3) := by decide +kernel
theorem dX5_takeBack_45 : decode cX5_takeBack 45 = .ok (.invokestatic 123, 3) := by decide +kernel
theorem dX5_takeBack_48 : decode cX5_takeBack 48 = .ok (.putfield 20, 3) := by decide +kernel
theorem dX5_takeBack_51 : decode cX5_takeBack 51 = .ok (.return_, 1) := by decide +kernel
theorem dX5_hoist_0 : decode cX5_hoist 0 = .ok (.aload_n 0, 1) := by decide +kernel
theorem dX5_hoist_1 : decode cX5_hoist 1 = .ok (.getfield 28, 3) := by decide +kernel
theorem dX5_hoist_4 : decode cX5_hoist 4 = .ok (.ifCond .ne 7, 3) := by decide +kernel
theorem dX5_hoist_7 : decode cX5_hoist 7 = .ok (.iconst 0, 1) := by decide +kernel
theorem dX5_hoist_8 : decode cX5_hoist 8 = .ok (.goto 16, 3) := by decide +kernel
theorem dX5_hoist_11 : decode cX5_hoist 11 = .ok (.aload_n 0, 1) := by decide +kernel
theorem dX5_hoist_12 : decode cX5_hoist 12 = .ok (.aload_n 0, 1) := by decide +kernel
theorem dX5_hoist_13 : decode cX5_hoist 13 = .ok (.getfield 28, 3) := by decide +kernel
theorem dX5_hoist_16 : decode cX5_hoist 16 = .ok (.iconst 1, 1) := by decide +kernel
theorem dX5_hoist_17 : decode cX5_hoist 17 = .ok (.isub, 1) := by decide +kernel
theorem dX5_hoist_18 : decode cX5_hoist 18 = .ok (.invokevirtual 114, 3) := by decide +kernel
theorem dX5_hoist_21 : decode cX5_hoist 21 = .ok (.invokestatic 117, 3) := by decide +kernel
theorem dX5_hoist_24 : decode cX5_hoist 24 = .ok (.ireturn, 1) := by decide +kernel
theorem dX5_flights_0 : decode cX5_flights 0 = .ok (.iconst 0, 1) := by decide +kernel
theorem dX5_flights_1 : decode cX5_flights 1 = .ok (.istore_n 1, 1) := by decide +kernel
theorem dX5_flights_2 : decode cX5_flights 2 = .ok (.iconst 0, 1) := by decide +kernel
theorem dX5_flights_3 : decode cX5_flights 3 = .ok (.istore_n 2, 1) := by decide +kernel
theorem dX5_flights_4 : decode cX5_flights 4 = .ok (.iconst 0, 1) := by decide +kernel
theorem dX5_flights_5 : decode cX5_flights 5 = .ok (.istore_n 3, 1) := by decide +kernel
theorem dX5_flights_6 : decode cX5_flights 6 = .ok (.iload_n 3, 1) := by decide +kernel
theorem dX5_flights_7 : decode cX5_flights 7 = .ok (.aload_n 0, 1) := by decide +kernel
theorem dX5_flights_8 : decode cX5_flights 8 = .ok (.getfield 28, 3) := by decide +kernel
theorem dX5_flights_11 : decode cX5_flights 11 = .ok (.if_icmp .ge 32, 3) := by decide +kernel
theorem dX5_flights_14 : decode cX5_flights 14 = .ok (.aload_n 0, 1) := by decide +kernel
theorem dX5_flights_15 : decode cX5_flights 15 = .ok (.iload_n 3, 1) := by decide +kernel
theorem dX5_flights_16 : decode cX5_flights 16 = .ok (.invokevirtual 114, 3) := by decide +kernel
theorem dX5_flights_19 : decode cX5_flights 19 = .ok (.invokestatic 117, 3) := by decide +kernel
theorem dX5_flights_22 : decode cX5_flights 22 = .ok (.istore 4, 2) := by decide +kernel
theorem dX5_flights_24 : decode cX5_flights 24 = .ok (.iload_n 1, 1) := by decide +kernel
theorem dX5_flights_25 : decode cX5_flights 25 = .ok (.iload 4, 2) := by decide +kernel
theorem dX5_flights_27 : decode cX5_flights 27 = .ok (.iload_n 2, 1) := by decide +kernel
theorem dX5_flights_28 : decode cX5_flights 28 = .ok (.isub, 1) := by decide +kernel
theorem dX5_flights_29 : decode cX5_flights 29 = .ok (.invokestatic 126, 3) := by decide +kernel
theorem dX5_flights_32 : decode cX5_flights 32 = .ok (.iadd, 1) := by decide +kernel
theorem dX5_flights_33 : decode cX5_flights 33 = .ok (.istore_n 1, 1) := by decide +kernel
theorem dX5_flights_34 : decode cX5_flights 34 = .ok (.iload 4, 2) := by decide +kernel
theorem dX5_flights_36 : decode cX5_flights 36 = .ok (.istore_n 2, 1) := by decide +kernel
theorem dX5_flights_37 : decode cX5_flights 37 = .ok (.iinc 3 1, 3) := by decide +kernel
theorem dX5_flights_40 : decode cX5_flights 40 = .ok (.goto (-34), 3) := by decide +kernel
theorem dX5_flights_43 : decode cX5_flights 43 = .ok (.iload_n 1, 1) := by decide +kernel
theorem dX5_flights_44 : decode cX5_flights 44 = .ok (.ireturn, 1) := by decide +kernel
theorem dX6_init_0 : decode cX6_init 0 = .ok (.aload_n 0, 1) := by decide +kernel
theorem dX6_init_1 : decode cX6_init 1 = .ok (.invokespecial 3, 3) := by decide +kernel
theorem dX6_init_4 : decode cX6_init 4 = .ok (.aload_n 0, 1) := by decide +kernel
theorem dX6_init_5 : decode cX6_init 5 = .ok (.sipush 128, 3) := by decide +kernel
theorem dX6_init_8 : decode cX6_init 8 = .ok (.newarray .int, 2) := by decide +kernel
theorem dX6_init_10 : decode cX6_init 10 = .ok (.putfield 11, 3) := by decide +kernel
theorem dX6_init_13 : decode cX6_init 13 = .ok (.aload_n 0, 1) := by decide +kernel
theorem dX6_init_14 : decode cX6_init 14 = .ok (.sipush 128, 3) := by decide +kernel
theorem dX6_init_17 : decode cX6_init 17 = .ok (.newarray .int, 2) := by decide +kernel
theorem dX6_init_19 : decode cX6_init 19 = .ok (.putfield 15, 3) := by decide +kernel
theorem dX6_init_22 : decode cX6_init 22 = .ok (.aload_n 0, 1) := by decide +kernel
theorem dX6_init_23 : decode cX6_init 23 = .ok (.sipush 128, 3) := by decide +kernel
theorem dX6_init_26 : decode cX6_init 26 = .ok (.newarray .int, 2) := by decide +kernel
theorem dX6_init_28 : decode cX6_init 28 = .ok (.putfield 18, 3) := by decide +kernel
theorem dX6_init_31 : decode cX6_init 31 = .ok (.aload_n 0, 1) := by decide +kernel
theorem dX6_init_32 : decode cX6_init 32 = .ok (.new 21, 3) := by decide +kernel
theorem dX6_init_35 : decode cX6_init 35 = .ok (.dup, 1) := by decide +kernel
theorem dX6_init_36 : decode cX6_init 36 = .ok (.invokespecial 23, 3) := by decide +kernel
theorem dX6_init_39 : decode cX6_init 39 = .ok (.putfield 24, 3) := by decide +kernel
theorem dX6_init_42 : decode cX6_init 42 = .ok (.aload_n 0, 1) := by decide +kernel
theorem dX6_init_43 : decode cX6_init 43 = .ok (.iconst 0, 1) := by decide +kernel
theorem dX6_init_44 : decode cX6_init 44 = .ok (.putfield 28, 3) := by decide +kernel
theorem dX6_init_47 : decode cX6_init 47 = .ok (.aload_n 0, 1) := by decide +kernel
theorem dX6_init_48 : decode cX6_init 48 = .ok (.iconst 0, 1) := by decide +kernel
theorem dX6_init_49 : decode cX6_init 49 = .ok (.putfield 32, 3) := by decide +kernel
theorem dX6_init_52 : decode cX6_init 52 = .ok (.return_, 1) := by decide +kernel
theorem dX6_size_0 : decode cX6_size 0 = .ok (.aload_n 0, 1) := by decide +kernel
theorem dX6_size_1 : decode cX6_size 1 = .ok (.getfield 28, 3) := by decide +kernel
theorem dX6_size_4 : decode cX6_size 4 = .ok (.ireturn, 1) := by decide +kernel
theorem dX6_stateAt_0 : decode cX6_stateAt 0 = .ok (.aload_n 0, 1) := by decide +kernel
theorem dX6_stateAt_1 : decode cX6_stateAt 1 = .ok (.getfield 11, 3) := by decide +kernel
theorem dX6_stateAt_4 : decode cX6_stateAt 4 = .ok (.iload_n 1, 1) := by decide +kernel
theorem dX6_stateAt_5 : decode cX6_stateAt 5 = .ok (.invokestatic 36, 3) := by decide +kernel
theorem dX6_stateAt_8 : decode cX6_stateAt 8 = .ok (.ireturn, 1) := by decide +kernel
theorem dX6_indexOf_0 : decode cX6_indexOf 0 = .ok (.iconst 0, 1) := by decide +kernel
theorem dX6_indexOf_1 : decode cX6_indexOf 1 = .ok (.istore_n 2, 1) := by decide +kernel
theorem dX6_indexOf_2 : decode cX6_indexOf 2 = .ok (.iload_n 2, 1) := by decide +kernel
theorem dX6_indexOf_3 : decode cX6_indexOf 3 = .ok (.aload_n 0, 1) := by decide +kernel
theorem dX6_indexOf_4 : decode cX6_indexOf 4 = .ok (.getfield 28, 3) := by decide +kernel
theorem dX6_indexOf_7 : decode cX6_indexOf 7 = .ok (.if_icmp .ge 30, 3) := by decide +kernel
theorem dX6_indexOf_10 : decode cX6_indexOf 10 = .ok (.iload_n 2, 1) := by decide +kernel
theorem dX6_indexOf_11 : decode cX6_indexOf 11 = .ok (.aload_n 0, 1) := by decide +kernel
theorem dX6_indexOf_12 : decode cX6_indexOf 12 = .ok (.getfield 11, 3) := by decide +kernel
theorem dX6_indexOf_15 : decode cX6_indexOf 15 = .ok (.arraylength, 1) := by decide +kernel
theorem dX6_indexOf_16 : decode cX6_indexOf 16 = .ok (.if_icmp .ge 21, 3) := by decide +kernel
theorem dX6_indexOf_19 : decode cX6_indexOf 19 = .ok (.aload_n 0, 1) := by decide +kernel
theorem dX6_indexOf_20 : decode cX6_indexOf 20 = .ok (.getfield 11, 3) := by decide +kernel
theorem dX6_indexOf_23 : decode cX6_indexOf 23 = .ok (.iload_n 2, 1) := by decide +kernel
theorem dX6_indexOf_24 : decode cX6_indexOf 24 = .ok (.iaload, 1) := by decide +kernel
theorem dX6_indexOf_25 : decode cX6_indexOf 25 = .ok (.iload_n 1, 1) := by decide +kernel
theorem dX6_indexOf_26 : decode cX6_indexOf 26 = .ok (.if_icmp .ne 5, 3) := by decide +kernel
theorem dX6_indexOf_29 : decode cX6_indexOf 29 = .ok (.iload_n 2, 1) := by decide +kernel
theorem dX6_indexOf_30 : decode cX6_indexOf 30 = .ok (.ireturn, 1) := by decide +kernel
theorem dX6_indexOf_31 : decode cX6_indexOf 31 = .ok (.iinc 2 1, 3) := by decide +kernel
theorem dX6_indexOf_34 : decode cX6_indexOf 34 = .ok (.goto (-32), 3) := by decide +kernel
theorem dX6_indexOf_37 : decode cX6_indexOf 37 = .ok (.bipush (-9), 2) := by decide +kernel
theorem dX6_indexOf_39 : decode cX6_indexOf 39 = .ok (.ireturn, 1) := by decide +kernel
theorem dX6_explore_0 : decode cX6_explore 0 = .ok (.aload_n 0, 1) := by decide +kernel
theorem dX6_explore_1 : decode cX6_explore 1 = .ok (.iconst 0, 1) := by decide +kernel
theorem dX6_explore_2 : decode cX6_explore 2 = .ok (.putfield 28, 3) := by decide +kernel
theorem dX6_explore_5 : decode cX6_explore 5 = .ok (.aload_n 0, 1) := by decide +kernel
theorem dX6_explore_6 : decode cX6_explore 6 = .ok (.iconst 0, 1) := by decide +kernel
theorem dX6_explore_7 : decode cX6_explore 7 = .ok (.putfield 32, 3) := by decide +kernel
theorem dX6_explore_10 : decode cX6_explore 10 = .ok (.aload_n 0, 1) := by decide +kernel
theorem dX6_explore_11 : decode cX6_explore 11 = .ok (.iload_n 2, 1) := by decide +kernel
theorem dX6_explore_12 : decode cX6_explore 12 = .ok (.bipush (-9), 2) := by decide +kernel
theorem dX6_explore_14 : decode cX6_explore 14 = .ok (.bipush (-9), 2) := by decide +kernel
theorem dX6_explore_16 : decode cX6_explore 16 = .ok (.iload_n 3, 1) := by decide +kernel
theorem dX6_explore_17 : decode cX6_explore 17 = .ok (.invokevirtual 40, 3) := by decide +kernel
theorem dX6_explore_20 : decode cX6_explore 20 = .ok (.iconst 0, 1) := by decide +kernel
theorem dX6_explore_21 : decode cX6_explore 21 = .ok (.istore 4, 2) := by decide +kernel
theorem dX6_explore_23 : decode cX6_explore 23 = .ok (.iload 4, 2) := by decide +kernel
theorem dX6_explore_25 : decode cX6_explore 25 = .ok (.sipush 128, 3) := by decide +kernel
theorem dX6_explore_28 : decode cX6_explore 28 = .ok (.if_icmp .ge 53, 3) := by decide +kernel
theorem dX6_explore_31 : decode cX6_explore 31 = .ok (.iload 4, 2) := by decide +kernel
theorem dX6_explore_33 : decode cX6_explore 33 = .ok (.aload_n 0, 1) := by decide +kernel
theorem dX6_explore_34 : decode cX6_explore 34 = .ok (.getfield 28, 3) := by decide +kernel
theorem dX6_explore_37 : decode cX6_explore 37 = .ok (.if_icmp .ge 44, 3) := by decide +kernel
theorem dX6_explore_40 : decode cX6_explore 40 = .ok (.aload_n 0, 1) := by decide +kernel
theorem dX6_explore_41 : decode cX6_explore 41 = .ok (.getfield 32, 3) := by decide +kernel
theorem dX6_explore_44 : decode cX6_explore 44 = .ok (.ifCond .ne 37, 3) := by decide +kernel
theorem dX6_explore_47 : decode cX6_explore 47 = .ok (.iconst 0, 1) := by decide +kernel
theorem dX6_explore_48 : decode cX6_explore 48 = .ok (.istore 5, 2) := by decide +kernel
theorem dX6_explore_50 : decode cX6_explore 50 = .ok (.iload 5, 2) := by decide +kernel
theorem dX6_explore_52 : decode cX6_explore 52 = .ok (.aload_n 1, 1) := by decide +kernel
theorem dX6_explore_53 : decode cX6_explore 53 = .ok (.getfield 44, 3) := by decide +kernel
theorem dX6_explore_56 : decode cX6_explore 56 = .ok (.if_icmp .ge 19, 3) := by decide +kernel
theorem dX6_explore_59 : decode cX6_explore 59 = .ok (.aload_n 0, 1) := by decide +kernel
theorem dX6_explore_60 : decode cX6_explore 60 = .ok (.aload_n 1, 1) := by decide +kernel
theorem dX6_explore_61 : decode cX6_explore 61 = .ok (.iload 4, 2) := by decide +kernel
theorem dX6_explore_63 : decode cX6_explore 63 = .ok (.iload 5, 2) := by decide +kernel
theorem dX6_explore_65 : decode cX6_explore 65 = .ok (.iload_n 3, 1) := by decide +kernel
theorem dX6_explore_66 : decode cX6_explore 66 = .ok (.invokevirtual 49, 3) := by decide +kernel
theorem dX6_explore_69 : decode cX6_explore 69 = .ok (.iinc 5 1, 3) := by decide +kernel
theorem dX6_explore_72 : decode cX6_explore 72 = .ok (.goto (-22), 3) := by decide +kernel
theorem dX6_explore_75 : decode cX6_explore 75 = .ok (.iinc 4 1, 3) := by decide +kernel
theorem dX6_explore_78 : decode cX6_explore 78 = .ok (.goto (-55), 3) := by decide +kernel
theorem dX6_explore_81 : decode cX6_explore 81 = .ok (.return_, 1) := by decide +kernel
theorem dX6_spread_0 : decode cX6_spread 0 = .ok (.aload_n 0, 1) := by decide +kernel
theorem dX6_spread_1 : decode cX6_spread 1 = .ok (.getfield 11, 3) := by decide +kernel
theorem dX6_spread_4 : decode cX6_spread 4 = .ok (.iload_n 2, 1) := by decide +kernel
theorem dX6_spread_5 : decode cX6_spread 5 = .ok (.invokestatic 36, 3) := by decide +kernel
theorem dX6_spread_8 : decode cX6_spread 8 = .ok (.istore 5, 2) := by decide +kernel
theorem dX6_spread_10 : decode cX6_spread 10 = .ok (.aload_n 0, 1) := by decide +kernel
theorem dX6_spread_11 : decode cX6_spread 11 = .ok (.getfield 24, 3) := by decide +kernel
theorem dX6_spread_14 : decode cX6_spread 14 = .ok (.aload_n 1, 1) := by decide +kernel
theorem dX6_spread_15 : decode cX6_spread 15 = .ok (.iload 5, 2) := by decide +kernel
theorem dX6_spread_17 : decode cX6_spread 17 = .ok (.iload_n 3, 1) := by decide +kernel
theorem dX6_spread_18 : decode cX6_spread 18 = .ok (.invokevirtual 53, 3) := by decide +kernel
theorem dX6_spread_21 : decode cX6_spread 21 = .ok (.aload_n 1, 1) := by decide +kernel
theorem dX6_spread_22 : decode cX6_spread 22 = .ok (.iload 5, 2) := by decide +kernel
theorem dX6_spread_24 : decode cX6_spread 24 = .ok (.iload_n 3, 1) := by decide +kernel
theorem dX6_spread_25 : decode cX6_spread 25 = .ok (.invokevirtual 57, 3) := by decide +kernel
theorem dX6_spread_28 : decode cX6_spread 28 = .ok (.invokevirtual 60, 3) := by decide +kernel
theorem dX6_spread_31 : decode cX6_spread 31 = .ok (.iconst 0, 1) := by decide +kernel
theorem dX6_spread_32 : decode cX6_spread 32 = .ok (.istore 6, 2) := by decide +kernel
theorem dX6_spread_34 : decode cX6_spread 34 = .ok (.iload 6, 2) := by decide +kernel
theorem dX6_spread_36 : decode cX6_spread 36 = .ok (.bipush 64, 2) := by decide +kernel
theorem dX6_spread_38 : decode cX6_spread 38 = .ok (.if_icmp .ge 68, 3) := by decide +kernel
theorem dX6_spread_41 : decode cX6_spread 41 = .ok (.aload_n 0, 1) := by decide +kernel
theorem dX6_spread_42 : decode cX6_spread 42 = .ok (.getfield 24, 3) := by decide +kernel
theorem dX6_spread_45 : decode cX6_spread 45 = .ok (.invokevirtual 64, 3) := by decide +kernel
theorem dX6_spread_48 : decode cX6_spread 48 = .ok (.ifCond .eq 58, 3) := by decide +kernel
theorem dX6_spread_51 : decode cX6_spread 51 = .ok (.iload 5, 2) := by decide +kernel
theorem dX6_spread_53 : decode cX6_spread 53 = .ok (.iload_n 3, 1) := by decide +kernel
theorem dX6_spread_54 : decode cX6_spread 54 = .ok (.aload_n 0, 1) := by decide +kernel
theorem dX6_spread_55 : decode cX6_spread 55 = .ok (.getfield 24, 3) := by decide +kernel
theorem dX6_spread_58 : decode cX6_spread 58 = .ok (.getfield 68, 3) := by decide +kernel
theorem dX6_spread_61 : decode cX6_spread 61 = .ok (.aload_n 0, 1) := by decide +kernel
theorem dX6_spread_62 : decode cX6_spread 62 = .ok (.getfield 24, 3) := by decide +kernel
theorem dX6_spread_65 : decode cX6_spread 65 = .ok (.getfield 71, 3) := by decide +kernel
theorem dX6_spread_68 : decode cX6_spread 68 = .ok (.invokestatic 74, 3) := by decide +kernel
theorem dX6_spread_71 : decode cX6_spread 71 = .ok (.istore 7, 2) := by decide +kernel
theorem dX6_spread_73 : decode cX6_spread 73 = .ok (.aload_n 0, 1) := by decide +kernel
theorem dX6_spread_74 : decode cX6_spread 74 = .ok (.iload 7, 2) := by decide +kernel
theorem dX6_spread_76 : decode cX6_spread 76 = .ok (.iload_n 2, 1) := by decide +kernel
theorem dX6_spread_77 : decode cX6_spread 77 = .ok (.iload_n 3, 1) := by decide +kernel
theorem dX6_spread_78 : decode cX6_spread 78 = .ok (.aload_n 0, 1) := by decide +kernel
theorem dX6_spread_79 : decode cX6_spread 79 = .ok (.getfield 24, 3) := by decide +kernel
theorem dX6_spread_82 : decode cX6_spread 82 = .ok (.getfield 68, 3) := by decide +kernel
theorem dX6_spread_85 : decode cX6_spread 85 = .ok (.aload_n 0, 1) := by decide +kernel
theorem dX6_spread_86 : decode cX6_spread 86 = .ok (.getfield 24, 3) := by decide +kernel
theorem dX6_spread_89 : decode cX6_spread 89 = .ok (.getfield 71, 3) := by decide +kernel
theorem dX6_spread_92 : decode cX6_spread 92 = .ok (.invokestatic 80, 3) := by decide +kernel
theorem dX6_spread_95 : decode cX6_spread 95 = .ok (.iload 4, 2) := by decide +kernel
theorem dX6_spread_97 : decode cX6_spread 97 = .ok (.invokevirtual 40, 3) := by decide +kernel
theorem dX6_spread_100 : decode cX6_spread 100 = .ok (.iinc 6 1, 3) := by decide +kernel
theorem dX6_spread_103 : decode cX6_spread 103 = .ok (.goto (-69), 3) := by decide +kernel
theorem dX6_spread_106 : decode cX6_spread 106 = .ok (.return_, 1) := by decide +kernel
theorem dX6_meet_0 : decode cX6_meet 0 = .ok (.aload_n 0, 1) := by decide +kernel
theorem dX6_meet_1 : decode cX6_meet 1 = .ok (.getfield 28, 3) := by decide +kernel
theorem dX6_meet_4 : decode cX6_meet 4 = .ok (.sipush 128, 3) := by decide +kernel
theorem dX6_meet_7 : decode cX6_meet 7 = .ok (.if_icmp .ge 13, 3) := by decide +kernel
theorem dX6_meet_10 : decode cX6_meet 10 = .ok (.aload_n 0, 1) := by decide +kernel
theorem dX6_meet_11 : decode cX6_meet 11 = .ok (.iload_n 1, 1) := by decide +kernel
theorem dX6_meet_12 : decode cX6_meet 12 = .ok (.invokevirtual 86, 3) := by decide +kernel
theorem dX6_meet_15 : decode cX6_meet 15 = .ok (.bipush (-9), 2) := by decide +kernel
theorem dX6_meet_17 : decode cX6_meet 17 = .ok (.if_icmp .eq 4, 3) := by decide +kernel
theorem dX6_meet_20 : decode cX6_meet 20 = .ok (.return_, 1) := by decide +kernel
theorem dX6_meet_21 : decode cX6_meet 21 = .ok (.aload_n 0, 1) := by decide +kernel
theorem dX6_meet_22 : decode cX6_meet 22 = .ok (.getfield 11, 3) := by decide +kernel
theorem dX6_meet_25 : decode cX6_meet 25 = .ok (.aload_n 0, 1) := by decide +kernel
theorem dX6_meet_26 : decode cX6_meet 26 = .ok (.getfield 28, 3) := by decide +kernel
theorem dX6_meet_29 : decode cX6_meet 29 = .ok (.iload_n 1, 1) := by decide +kernel
theorem dX6_meet_30 : decode cX6_meet 30 = .ok (.invokestatic 90, 3) := by decide +kernel
theorem dX6_meet_33 : decode cX6_meet 33 = .ok (.aload_n 0, 1) := by decide +kernel
theorem dX6_meet_34 : decode cX6_meet 34 = .ok (.getfield 15, 3) := by decide +kernel
theorem dX6_meet_37 : decode cX6_meet 37 = .ok (.aload_n 0, 1) := by decide +kernel
theorem dX6_meet_38 : decode cX6_meet 38 = .ok (.getfield 28, 3) := by decide +kernel
theorem dX6_meet_41 : decode cX6_meet 41 = .ok (.iload_n 2, 1) := by decide +kernel
theorem dX6_meet_42 : decode cX6_meet 42 = .ok (.invokestatic 90, 3) := by decide +kernel
theorem dX6_meet_45 : decode cX6_meet 45 = .ok (.aload_n 0, 1) := by decide +kernel
theorem dX6_meet_46 : decode cX6_meet 46 = .ok (.getfield 18, 3) := by decide +kernel
theorem dX6_meet_49 : decode cX6_meet 49 = .ok (.aload_n 0, 1) := by decide +kernel
theorem dX6_meet_50 : decode cX6_meet 50 = .ok (.getfield 28, 3) := by decide +kernel
theorem dX6_meet_53 : decode cX6_meet 53 = .ok (.iload_n 3, 1) := by decide +kernel
theorem dX6_meet_54 : decode cX6_meet 54 = .ok (.invokestatic 90, 3) := by decide +kernel
theorem dX6_meet_57 : decode cX6_meet 57 = .ok (.aload_n 0, 1) := by decide +kernel
theorem dX6_meet_58 : decode cX6_meet 58 = .ok (.dup, 1) := by decide +kernel
theorem dX6_meet_59 : decode cX6_meet 59 = .ok (.getfield 28, 3) := by decide +kernel
theorem dX6_meet_62 : decode cX6_meet 62 = .ok (.iconst 1, 1) := by decide +kernel
theorem dX6_meet_63 : decode cX6_meet 63 = .ok (.iadd, 1) := by decide +kernel
theorem dX6_meet_64 : decode cX6_meet 64 = .ok (.putfield 28, 3) := by decide +kernel
theorem dX6_meet_67 : decode cX6_meet 67 = .ok (.aload_n 0, 1) := by decide +kernel
theorem dX6_meet_68 : decode cX6_meet 68 = .ok (.aload_n 0, 1) := by decide +kernel
theorem dX6_meet_69 : decode cX6_meet 69 = .ok (.getfield 32, 3) := by decide +kernel
theorem dX6_meet_72 : decode cX6_meet 72 = .ok (.ifCond .ne 15, 3) := by decide +kernel
theorem dX6_meet_75 : decode cX6_meet 75 = .ok (.iload_n 1, 1) := by decide +kernel
theorem dX6_meet_76 : decode cX6_meet 76 = .ok (.invokestatic 94, 3) := by decide +kernel
theorem dX6_meet_79 : decode cX6_meet 79 = .ok (.iload 4, 2) := by decide +kernel
theorem dX6_meet_81 : decode cX6_meet 81 = .ok (.iand, 1) := by decide +kernel
theorem dX6_meet_82 : decode cX6_meet 82 = .ok (.iload 4, 2) := by decide +kernel
theorem dX6_meet_84 : decode cX6_meet 84 = .ok (.if_icmp .ne 7, 3) := by decide +kernel
theorem dX6_meet_87 : decode cX6_meet 87 = .ok (.iconst 1, 1) := by decide +kernel
theorem dX6_meet_88 : decode cX6_meet 88 = .ok (.goto 4, 3) := by decide +kernel
theorem dX6_meet_91 : decode cX6_meet 91 = .ok (.iconst 0, 1) := by decide +kernel
theorem dX6_meet_92 : decode cX6_meet 92 = .ok (.putfield 32, 3) := by decide +kernel
theorem dX6_meet_95 : decode cX6_meet 95 = .ok (.return_, 1) := by decide +kernel
theorem dX6_firstWith_0 : decode cX6_firstWith 0 = .ok (.iconst 0, 1) := by decide +kernel
theorem dX6_firstWith_1 : decode cX6_firstWith 1 = .ok (.istore_n 2, 1) := by decide +kernel
theorem dX6_firstWith_2 : decode cX6_firstWith 2 = .ok (.iload_n 2, 1) := by decide +kernel
theorem dX6_firstWith_3 : decode cX6_firstWith 3 = .ok (.aload_n 0, 1) := by decide +kernel
theorem dX6_firstWith_4 : decode cX6_firstWith 4 = .ok (.getfield 28, 3) := by decide +kernel
theorem dX6_firstWith_7 : decode cX6_firstWith 7 = .ok (.if_icmp .ge 28, 3) := by decide +kernel
theorem dX6_firstWith_10 : decode cX6_firstWith 10 = .ok (.aload_n 0, 1) := by decide +kernel
theorem dX6_firstWith_11 : decode cX6_firstWith 11 = .ok (.getfield 11, 3) := by decide +kernel
theorem dX6_firstWith_14 : decode cX6_firstWith 14 = .ok (.iload_n 2, 1) := by decide +kernel
theorem dX6_firstWith_15 : decode cX6_firstWith 15 = .ok (.invokestatic 36, 3) := by decide +kernel
theorem dX6_firstWith_18 : decode cX6_firstWith 18 = .ok (.invokestatic 94, 3) := by decide +kernel
theorem dX6_firstWith_21 : decode cX6_firstWith 21 = .ok (.iload_n 1, 1) := by decide +kernel
theorem dX6_firstWith_22 : decode cX6_firstWith 22 = .ok (.iand, 1) := by decide +kernel
theorem dX6_firstWith_23 : decode cX6_firstWith 23 = .ok (.iload_n 1, 1) := by decide +kernel
theorem dX6_firstWith_24 : decode cX6_firstWith 24 = .ok (.if_icmp .ne 5, 3) := by decide +kernel
theorem dX6_firstWith_27 : decode cX6_firstWith 27 = .ok (.iload_n 2, 1) := by decide +kernel
theorem dX6_firstWith_28 : decode cX6_firstWith 28 = .ok (.ireturn, 1) := by decide +kernel
theorem dX6_firstWith_29 : decode cX6_firstWith 29 = .ok (.iinc 2 1, 3) := by decide +kernel
theorem dX6_firstWith_32 : decode cX6_firstWith 32 = .ok (.goto (-30), 3) := by decide +kernel
theorem dX6_firstWith_35 : decode cX6_firstWith 35 = .ok (.bipush (-9), 2) := by decide +kernel
theorem dX6_firstWith_37 : decode cX6_firstWith 37 = .ok (.ireturn, 1) := by decide +kernel
theorem dX6_haltsTo_0 : decode cX6_haltsTo 0 = .ok (.iload_n 1, 1) := by decide +kernel
theorem dX6_haltsTo_1 : decode cX6_haltsTo 1 = .ok (.bipush (-9), 2) := by decide +kernel
theorem dX6_haltsTo_3 : decode cX6_haltsTo 3 = .ok (.if_icmp .ne 6, 3) := by decide +kernel
theorem dX6_haltsTo_6 : decode cX6_haltsTo 6 = .ok (.bipush (-9), 2) := by decide +kernel
theorem dX6_haltsTo_8 : decode cX6_haltsTo 8 = .ok (.ireturn, 1) := by decide +kernel
theorem dX6_haltsTo_9 : decode cX6_haltsTo 9 = .ok (.iconst 0, 1) := by decide +kernel
theorem dX6_haltsTo_10 : decode cX6_haltsTo 10 = .ok (.istore_n 2, 1) := by decide +kernel
theorem dX6_haltsTo_11 : decode cX6_haltsTo 11 = .ok (.iload_n 1, 1) := by decide +kernel
theorem dX6_haltsTo_12 : decode cX6_haltsTo 12 = .ok (.istore_n 3, 1) := by decide +kernel
theorem dX6_haltsTo_13 : decode cX6_haltsTo 13 = .ok (.iload_n 3, 1) := by decide +kernel
theorem dX6_haltsTo_14 : decode cX6_haltsTo 14 = .ok (.ifCond .le 26, 3) := by decide +kernel
theorem dX6_haltsTo_17 : decode cX6_haltsTo 17 = .ok (.iload_n 2, 1) := by decide +kernel
theorem dX6_haltsTo_18 : decode cX6_haltsTo 18 = .ok (.aload_n 0, 1) := by decide +kernel
theorem dX6_haltsTo_19 : decode cX6_haltsTo 19 = .ok (.getfield 28, 3) := by decide +kernel
theorem dX6_haltsTo_22 : decode cX6_haltsTo 22 = .ok (.if_icmp .ge 18, 3) := by decide +kernel
theorem dX6_haltsTo_25 : decode cX6_haltsTo 25 = .ok (.iinc 2 1, 3) := by decide +kernel
theorem dX6_haltsTo_28 : decode cX6_haltsTo 28 = .ok (.aload_n 0, 1) := by decide +kernel
theorem dX6_haltsTo_29 : decode cX6_haltsTo 29 = .ok (.getfield 15, 3) := by decide +kernel
theorem dX6_haltsTo_32 : decode cX6_haltsTo 32 = .ok (.iload_n 3, 1) := by decide +kernel
theorem dX6_haltsTo_33 : decode cX6_haltsTo 33 = .ok (.invokestatic 36, 3) := by decide +kernel
theorem dX6_haltsTo_36 : decode cX6_haltsTo 36 = .ok (.istore_n 3, 1) := by decide +kernel
theorem dX6_haltsTo_37 : decode cX6_haltsTo 37 = .ok (.goto (-24), 3) := by decide +kernel
theorem dX6_haltsTo_40 : decode cX6_haltsTo 40 = .ok (.iload_n 2, 1) := by decide +kernel
theorem dX6_haltsTo_41 : decode cX6_haltsTo 41 = .ok (.ireturn, 1) := by decide +kernel
theorem dX6_haltOnWay_0 : decode cX6_haltOnWay 0 = .ok (.aload_n 0, 1) := by decide +kernel
theorem dX6_haltOnWay_1 : decode cX6_haltOnWay 1 = .ok (.iload_n 1, 1) := by decide +kernel
theorem dX6_haltOnWay_2 : decode cX6_haltOnWay 2 = .ok (.invokevirtual 97, 3) := by decide +kernel
theorem dX6_haltOnWay_5 : decode cX6_haltOnWay 5 = .ok (.istore_n 3, 1) := by decide +kernel
theorem dX6_haltOnWay_6 : decode cX6_haltOnWay 6 = .ok (.iload_n 2, 1) := by decide +kernel
theorem dX6_haltOnWay_7 : decode cX6_haltOnWay 7 = .ok (.ifCond .lt 8, 3) := by decide +kernel
theorem dX6_haltOnWay_10 : decode cX6_haltOnWay 10 = .ok (.iload_n 2, 1) := by decide +kernel
theorem dX6_haltOnWay_11 : decode cX6_haltOnWay 11 = .ok (.iload_n 3, 1) := by decide +kernel
theorem dX6_haltOnWay_12 : decode cX6_haltOnWay 12 = .ok (.if_icmp .lt 6, 3) := by decide +kernel
theorem dX6_haltOnWay_15 : decode cX6_haltOnWay 15 = .ok (.bipush (-9), 2) := by decide +kernel
theorem dX6_haltOnWay_17 : decode cX6_haltOnWay 17 = .ok (.ireturn, 1) := by decide +kernel
theorem dX6_haltOnWay_18 : decode cX6_haltOnWay 18 = .ok (.iload_n 1, 1) := by decide +kernel
theorem dX6_haltOnWay_19 : decode cX6_haltOnWay 19 = .ok (.istore 4, 2) := by decide +kernel
theorem dX6_haltOnWay_21 : decode cX6_haltOnWay 21 = .ok (.iload_n 3, 1) := by decide +kernel
theorem dX6_haltOnWay_22 : decode cX6_haltOnWay 22 = .ok (.iconst 1, 1) := by decide +kernel
theorem dX6_haltOnWay_23 : decode cX6_haltOnWay 23 = .ok (.isub, 1) := by decide +kernel
theorem dX6_haltOnWay_24 : decode cX6_haltOnWay 24 = .ok (.istore 5, 2) := by decide +kernel
theorem dX6_haltOnWay_26 : decode cX6_haltOnWay 26 = .ok (.iload 5, 2) := by decide +kernel
theorem dX6_haltOnWay_28 : decode cX6_haltOnWay 28 = .ok (.iload_n 2, 1) := by decide +kernel
theorem dX6_haltOnWay_29 : decode cX6_haltOnWay 29 = .ok (.if_icmp .le 20, 3) := by decide +kernel
theorem dX6_haltOnWay_32 : decode cX6_haltOnWay 32 = .ok (.aload_n 0, 1) := by decide +kernel
theorem dX6_haltOnWay_33 : decode cX6_haltOnWay 33 = .ok (.getfield 15, 3) := by decide +kernel
theorem dX6_haltOnWay_36 : decode cX6_haltOnWay 36 = .ok (.iload 4, 2) := by decide +kernel
theorem dX6_haltOnWay_38 : decode cX6_haltOnWay 38 = .ok (.invokestatic 36, 3) := by decide +kernel
theorem dX6_haltOnWay_41 : decode cX6_haltOnWay 41 = .ok (.istore 4, 2) := by decide +kernel
theorem dX6_haltOnWay_43 : decode cX6_haltOnWay 43 = .ok (.iinc 5 (-1), 3) := by decide +kernel
theorem dX6_haltOnWay_46 : decode cX6_haltOnWay 46 = .ok (.goto (-20), 3) := by decide +kernel
theorem dX6_haltOnWay_49 : decode cX6_haltOnWay 49 = .ok (.aload_n 0, 1) := by decide +kernel
theorem dX6_haltOnWay_50 : decode cX6_haltOnWay 50 = .ok (.getfield 18, 3) := by decide +kernel
theorem dX6_haltOnWay_53 : decode cX6_haltOnWay 53 = .ok (.iload 4, 2) := by decide +kernel
theorem dX6_haltOnWay_55 : decode cX6_haltOnWay 55 = .ok (.invokestatic 36, 3) := by decide +kernel
theorem dX6_haltOnWay_58 : decode cX6_haltOnWay 58 = .ok (.ireturn, 1) := by decide +kernel
theorem dX6_everDone_0 : decode cX6_everDone 0 = .ok (.iconst 0, 1) := by decide +kernel
theorem dX6_everDone_1 : decode cX6_everDone 1 = .ok (.istore_n 1, 1) := by decide +kernel
theorem dX6_everDone_2 : decode cX6_everDone 2 = .ok (.iconst 0, 1) := by decide +kernel
theorem dX6_everDone_3 : decode cX6_everDone 3 = .ok (.istore_n 2, 1) := by decide +kernel
theorem dX6_everDone_4 : decode cX6_everDone 4 = .ok (.iload_n 2, 1) := by decide +kernel
theorem dX6_everDone_5 : decode cX6_everDone 5 = .ok (.aload_n 0, 1) := by decide +kernel
theorem dX6_everDone_6 : decode cX6_everDone 6 = .ok (.getfield 28, 3) := by decide +kernel
theorem dX6_everDone_9 : decode cX6_everDone 9 = .ok (.if_icmp .ge 23, 3) := by decide +kernel
theorem dX6_everDone_12 : decode cX6_everDone 12 = .ok (.iload_n 1, 1) := by decide +kernel
theorem dX6_everDone_13 : decode cX6_everDone 13 = .ok (.aload_n 0, 1) := by decide +kernel
theorem dX6_everDone_14 : decode cX6_everDone 14 = .ok (.getfield 11, 3) := by decide +kernel
theorem dX6_everDone_17 : decode cX6_everDone 17 = .ok (.iload_n 2, 1) := by decide +kernel
theorem dX6_everDone_18 : decode cX6_everDone 18 = .ok (.invokestatic 36, 3) := by decide +kernel
theorem dX6_everDone_21 : decode cX6_everDone 21 = .ok (.invokestatic 94, 3) := by decide +kernel
theorem dX6_everDone_24 : decode cX6_everDone 24 = .ok (.ior, 1) := by decide +kernel
theorem dX6_everDone_25 : decode cX6_everDone 25 = .ok (.istore_n 1, 1) := by decide +kernel
theorem dX6_everDone_26 : decode cX6_everDone 26 = .ok (.iinc 2 1, 3) := by decide +kernel
theorem dX6_everDone_29 : decode cX6_everDone 29 = .ok (.goto (-25), 3) := by decide +kernel
theorem dX6_everDone_32 : decode cX6_everDone 32 = .ok (.iload_n 1, 1) := by decide +kernel
theorem dX6_everDone_33 : decode cX6_everDone 33 = .ok (.ireturn, 1) := by decide +kernel
theorem dX7_init_0 : decode cX7_init 0 = .ok (.aload_n 0, 1) := by decide +kernel
theorem dX7_init_1 : decode cX7_init 1 = .ok (.invokespecial 1, 3) := by decide +kernel
theorem dX7_init_4 : decode cX7_init 4 = .ok (.aload_n 0, 1) := by decide +kernel
theorem dX7_init_5 : decode cX7_init 5 = .ok (.bipush 8, 2) := by decide +kernel
theorem dX7_init_7 : decode cX7_init 7 = .ok (.newarray .int, 2) := by decide +kernel
theorem dX7_init_9 : decode cX7_init 9 = .ok (.putfield 9, 3) := by decide +kernel
theorem dX7_init_12 : decode cX7_init 12 = .ok (.aload_n 0, 1) := by decide +kernel
theorem dX7_init_13 : decode cX7_init 13 = .ok (.bipush 8, 2) := by decide +kernel
theorem dX7_init_15 : decode cX7_init 15 = .ok (.newarray .int, 2) := by decide +kernel
theorem dX7_init_17 : decode cX7_init 17 = .ok (.putfield 13, 3) := by decide +kernel
theorem dX7_init_20 : decode cX7_init 20 = .ok (.aload_n 0, 1) := by decide +kernel
theorem dX7_init_21 : decode cX7_init 21 = .ok (.iconst 0, 1) := by decide +kernel
theorem dX7_init_22 : decode cX7_init 22 = .ok (.putfield 16, 3) := by decide +kernel
theorem dX7_init_25 : decode cX7_init 25 = .ok (.aload_n 0, 1) := by decide +kernel
theorem dX7_init_26 : decode cX7_init 26 = .ok (.sipush 128, 3) := by decide +kernel
theorem dX7_init_29 : decode cX7_init 29 = .ok (.newarray .long, 2) := by decide +kernel
theorem dX7_init_31 : decode cX7_init 31 = .ok (.putfield 22, 3) := by decide +kernel
theorem dX7_init_34 : decode cX7_init 34 = .ok (.aload_n 0, 1) := by decide +kernel
theorem dX7_init_35 : decode cX7_init 35 = .ok (.sipush 128, 3) := by decide +kernel
theorem dX7_init_38 : decode cX7_init 38 = .ok (.newarray .long, 2) := by decide +kernel
theorem dX7_init_40 : decode cX7_init 40 = .ok (.putfield 26, 3) := by decide +kernel
theorem dX7_init_43 : decode cX7_init 43 = .ok (.aload_n 0, 1) := by decide +kernel
theorem dX7_init_44 : decode cX7_init 44 = .ok (.new 29, 3) := by decide +kernel
theorem dX7_init_47 : decode cX7_init 47 = .ok (.dup, 1) := by decide +kernel
theorem dX7_init_48 : decode cX7_init 48 = .ok (.invokespecial 31, 3) := by decide +kernel
theorem dX7_init_51 : decode cX7_init 51 = .ok (.putfield 32, 3) := by decide +kernel
theorem dX7_init_54 : decode cX7_init 54 = .ok (.return_, 1) := by decide +kernel
theorem dX7_size_0 : decode cX7_size 0 = .ok (.aload_n 0, 1) := by decide +kernel
theorem dX7_size_1 : decode cX7_size 1 = .ok (.getfield 16, 3) := by decide +kernel
theorem dX7_size_4 : decode cX7_size 4 = .ok (.ireturn, 1) := by decide +kernel
theorem dX7_isFull_0 : decode cX7_isFull 0 = .ok (.aload_n 0, 1) := by decide +kernel
theorem dX7_isFull_1 : decode cX7_isFull 1 = .ok (.getfield 16, 3) := by decide +kernel
theorem dX7_isFull_4 : decode cX7_isFull 4 = .ok (.bipush 8, 2) := by decide +kernel
theorem dX7_isFull_6 : decode cX7_isFull 6 = .ok (.if_icmp .lt 7, 3) := by decide +kernel
theorem dX7_isFull_9 : decode cX7_isFull 9 = .ok (.iconst 1, 1) := by decide +kernel
theorem dX7_isFull_10 : decode cX7_isFull 10 = .ok (.goto 4, 3) := by decide +kernel
theorem dX7_isFull_13 : decode cX7_isFull 13 = .ok (.iconst 0, 1) := by decide +kernel
theorem dX7_isFull_14 : decode cX7_isFull 14 = .ok (.ireturn, 1) := by decide +kernel
theorem dX7_add_0 : decode cX7_add 0 = .ok (.aload_n 0, 1) := by decide +kernel
theorem dX7_add_1 : decode cX7_add 1 = .ok (.getfield 16, 3) := by decide +kernel
theorem dX7_add_4 : decode cX7_add 4 = .ok (.bipush 8, 2) := by decide +kernel
theorem dX7_add_6 : decode cX7_add 6 = .ok (.if_icmp .ge 37, 3) := by decide +kernel
theorem dX7_add_9 : decode cX7_add 9 = .ok (.aload_n 0, 1) := by decide +kernel
theorem dX7_add_10 : decode cX7_add 10 = .ok (.getfield 9, 3) := by decide +kernel
theorem dX7_add_13 : decode cX7_add 13 = .ok (.aload_n 0, 1) := by decide +kernel
theorem dX7_add_14 : decode cX7_add 14 = .ok (.getfield 16, 3) := by decide +kernel
theorem dX7_add_17 : decode cX7_add 17 = .ok (.iload_n 1, 1) := by decide +kernel
theorem dX7_add_18 : decode cX7_add 18 = .ok (.invokestatic 36, 3) := by decide +kernel
theorem dX7_add_21 : decode cX7_add 21 = .ok (.aload_n 0, 1) := by decide +kernel
theorem dX7_add_22 : decode cX7_add 22 = .ok (.getfield 13, 3) := by decide +kernel
theorem dX7_add_25 : decode cX7_add 25 = .ok (.aload_n 0, 1) := by decide +kernel
theorem dX7_add_26 : decode cX7_add 26 = .ok (.getfield 16, 3) := by decide +kernel
theorem dX7_add_29 : decode cX7_add 29 = .ok (.iload_n 2, 1) := by decide +kernel
theorem dX7_add_30 : decode cX7_add 30 = .ok (.invokestatic 36, 3) := by decide +kernel
theorem dX7_add_33 : decode cX7_add 33 = .ok (.aload_n 0, 1) := by decide +kernel
theorem dX7_add_34 : decode cX7_add 34 = .ok (.dup, 1) := by decide +kernel
theorem dX7_add_35 : decode cX7_add 35 = .ok (.getfield 16, 3) := by decide +kernel
theorem dX7_add_38 : decode cX7_add 38 = .ok (.iconst 1, 1) := by decide +kernel
theorem dX7_add_39 : decode cX7_add 39 = .ok (.iadd, 1) := by decide +kernel
theorem dX7_add_40 : decode cX7_add 40 = .ok (.putfield 16, 3) := by decide +kernel
theorem dX7_add_43 : decode cX7_add 43 = .ok (.return_, 1) := by decide +kernel
theorem dX7_clear_0 : decode cX7_clear 0 = .ok (.aload_n 0, 1) := by decide +kernel
theorem dX7_clear_1 : decode cX7_clear 1 = .ok (.iconst 0, 1) := by decide +kernel
theorem dX7_clear_2 : decode cX7_clear 2 = .ok (.putfield 16, 3) := by decide +kernel
theorem dX7_clear_5 : decode cX7_clear 5 = .ok (.return_, 1) := by decide +kernel
theorem dX7_count_0 : decode cX7_count 0 = .ok (.aload_n 0, 1) := by decide +kernel
theorem dX7_count_1 : decode cX7_count 1 = .ok (.getfield 22, 3) := by decide +kernel
theorem dX7_count_4 : decode cX7_count 4 = .ok (.lconst 0, 1) := by decide +kernel
theorem dX7_count_5 : decode cX7_count 5 = .ok (.invokestatic 42, 3) := by decide +kernel
theorem dX7_count_8 : decode cX7_count 8 = .ok (.aload_n 0, 1) := by decide +kernel
theorem dX7_count_9 : decode cX7_count 9 = .ok (.getfield 22, 3) := by decide +kernel
theorem dX7_count_12 : decode cX7_count 12 = .ok (.iconst 0, 1) := by decide +kernel
theorem dX7_count_13 : decode cX7_count 13 = .ok (.lconst 1, 1) := by decide +kernel
theorem dX7_count_14 : decode cX7_count 14 = .ok (.invokestatic 48, 3) := by decide +kernel
theorem dX7_count_17 : decode cX7_count 17 = .ok (.iconst 0, 1) := by decide +kernel
theorem dX7_count_18 : decode cX7_count 18 = .ok (.istore_n 3, 1) := by decide +kernel
theorem dX7_count_19 : decode cX7_count 19 = .ok (.iload_n 3, 1) := by decide +kernel
theorem dX7_count_20 : decode cX7_count 20 = .ok (.aload_n 0, 1) := by decide +kernel
theorem dX7_count_21 : decode cX7_count 21 = .ok (.getfield 16, 3) := by decide +kernel
theorem dX7_count_24 : decode cX7_count 24 = .ok (.if_icmp .ge 84, 3) := by decide +kernel
theorem dX7_count_27 : decode cX7_count 27 = .ok (.aload_n 0, 1) := by decide +kernel
theorem dX7_count_28 : decode cX7_count 28 = .ok (.getfield 26, 3) := by decide +kernel
theorem dX7_count_31 : decode cX7_count 31 = .ok (.lconst 0, 1) := by decide +kernel
theorem dX7_count_32 : decode cX7_count 32 = .ok (.invokestatic 42, 3) := by decide +kernel
theorem dX7_count_35 : decode cX7_count 35 = .ok (.iconst 0, 1) := by decide +kernel
theorem dX7_count_36 : decode cX7_count 36 = .ok (.istore 4, 2) := by decide +kernel
theorem dX7_count_38 : decode cX7_count 38 = .ok (.iload 4, 2) := by decide +kernel
theorem dX7_count_40 : decode cX7_count 40 = .ok (.aload_n 2, 1) := by decide +kernel
theorem dX7_count_41 : decode cX7_count 41 = .ok (.invokevirtual 51, 3) := by decide +kernel
theorem dX7_count_44 : decode cX7_count 44 = .ok (.if_icmp .ge 32, 3) := by decide +kernel
theorem dX7_count_47 : decode cX7_count 47 = .ok (.aload_n 0, 1) := by decide +kernel
theorem dX7_count_48 : decode cX7_count 48 = .ok (.getfield 22, 3) := by decide +kernel
theorem dX7_count_51 : decode cX7_count 51 = .ok (.iload 4, 2) := by decide +kernel
theorem dX7_count_53 : decode cX7_count 53 = .ok (.invokestatic 54, 3) := by decide +kernel
theorem dX7_count_56 : decode cX7_count 56 = .ok (.lconst 0, 1) := by decide +kernel
theorem dX7_count_57 : decode cX7_count 57 = .ok (.lcmp, 1) := by decide +kernel
theorem dX7_count_58 : decode cX7_count 58 = .ok (.ifCond .eq 12, 3) := by decide +kernel
theorem dX7_count_61 : decode cX7_count 61 = .ok (.aload_n 0, 1) := by decide +kernel
theorem dX7_count_62 : decode cX7_count 62 = .ok (.aload_n 1, 1) := by decide +kernel
theorem dX7_count_63 : decode cX7_count 63 = .ok (.aload_n 2, 1) := by decide +kernel
theorem dX7_count_64 : decode cX7_count 64 = .ok (.iload 4, 2) := by decide +kernel
theorem dX7_count_66 : decode cX7_count 66 = .ok (.iload_n 3, 1) := by decide +kernel
theorem dX7_count_67 : decode cX7_count 67 = .ok (.invokevirtual 58, 3) := by decide +kernel
theorem dX7_count_70 : decode cX7_count 70 = .ok (.iinc 4 1, 3) := by decide +kernel
theorem dX7_count_73 : decode cX7_count 73 = .ok (.goto (-35), 3) := by decide +kernel
theorem dX7_count_76 : decode cX7_count 76 = .ok (.aload_n 0, 1) := by decide +kernel
theorem dX7_count_77 : decode cX7_count 77 = .ok (.getfield 26, 3) := by decide +kernel
theorem dX7_count_80 : decode cX7_count 80 = .ok (.iconst 0, 1) := by decide +kernel
theorem dX7_count_81 : decode cX7_count 81 = .ok (.aload_n 0, 1) := by decide +kernel
theorem dX7_count_82 : decode cX7_count 82 = .ok (.getfield 22, 3) := by decide +kernel
theorem dX7_count_85 : decode cX7_count 85 = .ok (.iconst 0, 1) := by decide +kernel
theorem dX7_count_86 : decode cX7_count 86 = .ok (.aload_n 0, 1) := by decide +kernel
theorem dX7_count_87 : decode cX7_count 87 = .ok (.getfield 26, 3) := by decide +kernel
theorem dX7_count_90 : decode cX7_count 90 = .ok (.arraylength, 1) := by decide +kernel
theorem dX7_count_91 : decode cX7_count 91 = .ok (.aload_n 0, 1) := by decide +kernel
theorem dX7_count_92 : decode cX7_count 92 = .ok (.getfield 22, 3) := by decide +kernel
theorem dX7_count_95 : decode cX7_count 95 = .ok (.arraylength, 1) := by decide +kernel
theorem dX7_count_96 : decode cX7_count 96 = .ok (.invokestatic 62, 3) := by decide +kernel
theorem dX7_count_99 : decode cX7_count 99 = .ok (.invokestatic 68, 3) := by decide +kernel
theorem dX7_count_102 : decode cX7_count 102 = .ok (.iinc 3 1, 3) := by decide +kernel
theorem dX7_count_105 : decode cX7_count 105 = .ok (.goto (-86), 3) := by decide +kernel
theorem dX7_count_108 : decode cX7_count 108 = .ok (.return_, 1) := by decide +kernel
theorem dX7_spread_0 : decode cX7_spread 0 = .ok (.aload_n 2, 1) := by decide +kernel
theorem dX7_spread_1 : decode cX7_spread 1 = .ok (.iload_n 3, 1) := by decide +kernel
theorem dX7_spread_2 : decode cX7_spread 2 = .ok (.invokevirtual 74, 3) := by decide +kernel
theorem dX7_spread_5 : decode cX7_spread 5 = .ok (.istore 5, 2) := by decide +kernel
theorem dX7_spread_7 : decode cX7_spread 7 = .ok (.aload_n 0, 1) := by decide +kernel
theorem dX7_spread_8 : decode cX7_spread 8 = .ok (.getfield 9, 3) := by decide +kernel
theorem dX7_spread_11 : decode cX7_spread 11 = .ok (.iload 4, 2) := by decide +kernel
theorem dX7_spread_13 : decode cX7_spread 13 = .ok (.invokestatic 78, 3) := by decide +kernel
theorem dX7_spread_16 : decode cX7_spread 16 = .ok (.istore 6, 2) := by decide +kernel
theorem dX7_spread_18 : decode cX7_spread 18 = .ok (.aload_n 0, 1) := by decide +kernel
theorem dX7_spread_19 : decode cX7_spread 19 = .ok (.getfield 32, 3) := by decide +kernel
theorem dX7_spread_22 : decode cX7_spread 22 = .ok (.aload_n 1, 1) := by decide +kernel
theorem dX7_spread_23 : decode cX7_spread 23 = .ok (.iload 5, 2) := by decide +kernel
theorem dX7_spread_25 : decode cX7_spread 25 = .ok (.iload 6, 2) := by decide +kernel
theorem dX7_spread_27 : decode cX7_spread 27 = .ok (.invokevirtual 81, 3) := by decide +kernel
theorem dX7_spread_30 : decode cX7_spread 30 = .ok (.aload_n 1, 1) := by decide +kernel
theorem dX7_spread_31 : decode cX7_spread 31 = .ok (.iload 5, 2) := by decide +kernel
theorem dX7_spread_33 : decode cX7_spread 33 = .ok (.iload 6, 2) := by decide +kernel
theorem dX7_spread_35 : decode cX7_spread 35 = .ok (.invokevirtual 86, 3) := by decide +kernel
theorem dX7_spread_38 : decode cX7_spread 38 = .ok (.invokevirtual 89, 3) := by decide +kernel
theorem dX7_spread_41 : decode cX7_spread 41 = .ok (.iconst 0, 1) := by decide +kernel
theorem dX7_spread_42 : decode cX7_spread 42 = .ok (.istore 7, 2) := by decide +kernel
theorem dX7_spread_44 : decode cX7_spread 44 = .ok (.iload 7, 2) := by decide +kernel
theorem dX7_spread_46 : decode cX7_spread 46 = .ok (.bipush 64, 2) := by decide +kernel
theorem dX7_spread_48 : decode cX7_spread 48 = .ok (.if_icmp .ge 95, 3) := by decide +kernel
theorem dX7_spread_51 : decode cX7_spread 51 = .ok (.aload_n 0, 1) := by decide +kernel
theorem dX7_spread_52 : decode cX7_spread 52 = .ok (.getfield 32, 3) := by decide +kernel
theorem dX7_spread_55 : decode cX7_spread 55 = .ok (.invokevirtual 93, 3) := by decide +kernel
theorem dX7_spread_58 : decode cX7_spread 58 = .ok (.ifCond .eq 85, 3) := by decide +kernel
theorem dX7_spread_61 : decode cX7_spread 61 = .ok (.aload_n 0, 1) := by decide +kernel
theorem dX7_spread_62 : decode cX7_spread 62 = .ok (.getfield 32, 3) := by decide +kernel
theorem dX7_spread_65 : decode cX7_spread 65 = .ok (.getfield 97, 3) := by decide +kernel
theorem dX7_spread_68 : decode cX7_spread 68 = .ok (.invokestatic 100, 3) := by decide +kernel
theorem dX7_spread_71 : decode cX7_spread 71 = .ok (.aload_n 0, 1) := by decide +kernel
theorem dX7_spread_72 : decode cX7_spread 72 = .ok (.getfield 13, 3) := by decide +kernel
theorem dX7_spread_75 : decode cX7_spread 75 = .ok (.iload 4, 2) := by decide +kernel
theorem dX7_spread_77 : decode cX7_spread 77 = .ok (.invokestatic 78, 3) := by decide +kernel
theorem dX7_spread_80 : decode cX7_spread 80 = .ok (.if_icmp .ne 57, 3) := by decide +kernel
theorem dX7_spread_83 : decode cX7_spread 83 = .ok (.aload_n 2, 1) := by decide +kernel
theorem dX7_spread_84 : decode cX7_spread 84 = .ok (.iload 5, 2) := by decide +kernel
theorem dX7_spread_86 : decode cX7_spread 86 = .ok (.iload 6, 2) := by decide +kernel
theorem dX7_spread_88 : decode cX7_spread 88 = .ok (.aload_n 0, 1) := by decide +kernel
theorem dX7_spread_89 : decode cX7_spread 89 = .ok (.getfield 32, 3) := by decide +kernel
theorem dX7_spread_92 : decode cX7_spread 92 = .ok (.getfield 97, 3) := by decide +kernel
theorem dX7_spread_95 : decode cX7_spread 95 = .ok (.aload_n 0, 1) := by decide +kernel
theorem dX7_spread_96 : decode cX7_spread 96 = .ok (.getfield 32, 3) := by decide +kernel
theorem dX7_spread_99 : decode cX7_spread 99 = .ok (.getfield 105, 3) := by decide +kernel
theorem dX7_spread_102 : decode cX7_spread 102 = .ok (.invokestatic 108, 3) := by decide +kernel
theorem dX7_spread_105 : decode cX7_spread 105 = .ok (.invokevirtual 114, 3) := by decide +kernel
theorem dX7_spread_108 : decode cX7_spread 108 = .ok (.istore 8, 2) := by decide +kernel
theorem dX7_spread_110 : decode cX7_spread 110 = .ok (.aload_n 0, 1) := by decide +kernel
theorem dX7_spread_111 : decode cX7_spread 111 = .ok (.getfield 26, 3) := by decide +kernel
theorem dX7_spread_114 : decode cX7_spread 114 = .ok (.iload 8, 2) := by decide +kernel
theorem dX7_spread_116 : decode cX7_spread 116 = .ok (.aload_n 0, 1) := by decide +kernel
theorem dX7_spread_117 : decode cX7_spread 117 = .ok (.getfield 26, 3) := by decide +kernel
theorem dX7_spread_120 : decode cX7_spread 120 = .ok (.iload 8, 2) := by decide +kernel
theorem dX7_spread_122 : decode cX7_spread 122 = .ok (.invokestatic 54, 3) := by decide +kernel
theorem dX7_spread_125 : decode cX7_spread 125 = .ok (.aload_n 0, 1) := by decide +kernel
theorem dX7_spread_126 : decode cX7_spread 126 = .ok (.getfield 22, 3) := by decide +kernel
theorem dX7_spread_129 : decode cX7_spread 129 = .ok (.iload_n 3, 1) := by decide +kernel
theorem dX7_spread_130 : decode cX7_spread 130 = .ok (.invokestatic 54, 3) := by decide +kernel
theorem dX7_spread_133 : decode cX7_spread 133 = .ok (.ladd, 1) := by decide +kernel
theorem dX7_spread_134 : decode cX7_spread 134 = .ok (.invokestatic 48, 3) := by decide +kernel
theorem dX7_spread_137 : decode cX7_spread 137 = .ok (.iinc 7 1, 3) := by decide +kernel
theorem dX7_spread_140 : decode cX7_spread 140 = .ok (.goto (-96), 3) := by decide +kernel
theorem dX7_spread_143 : decode cX7_spread 143 = .ok (.return_, 1) := by decide +kernel
theorem dX7_rowsWith_0 : decode cX7_rowsWith 0 = .ok (.lconst 0, 1) := by decide +kernel
theorem dX7_rowsWith_1 : decode cX7_rowsWith 1 = .ok (.lstore_n 3, 1) := by decide +kernel
theorem dX7_rowsWith_2 : decode cX7_rowsWith 2 = .ok (.iconst 0, 1) := by decide +kernel
theorem dX7_rowsWith_3 : decode cX7_rowsWith 3 = .ok (.istore 5, 2) := by decide +kernel
theorem dX7_rowsWith_5 : decode cX7_rowsWith 5 = .ok (.iload 5, 2) := by decide +kernel
theorem dX7_rowsWith_7 : decode cX7_rowsWith 7 = .ok (.aload_n 1, 1) := by decide +kernel
theorem dX7_rowsWith_8 : decode cX7_rowsWith 8 = .ok (.invokevirtual 51, 3) := by decide +kernel
theorem dX7_rowsWith_11 : decode cX7_rowsWith 11 = .ok (.if_icmp .ge 40, 3) := by decide +kernel
theorem dX7_rowsWith_14 : decode cX7_rowsWith 14 = .ok (.lload_n 3, 1) := by decide +kernel
theorem dX7_rowsWith_15 : decode cX7_rowsWith 15 = .ok (.aload_n 1, 1) := by decide +kernel
theorem dX7_rowsWith_16 : decode cX7_rowsWith 16 = .ok (.iload 5, 2) := by decide +kernel
theorem dX7_rowsWith_18 : decode cX7_rowsWith 18 = .ok (.invokevirtual 74, 3) := by decide +kernel
theorem dX7_rowsWith_21 : decode cX7_rowsWith 21 = .ok (.invokestatic 117, 3) := by decide +kernel
theorem dX7_rowsWith_24 : decode cX7_rowsWith 24 = .ok (.iload_n 2, 1) := by decide +kernel
theorem dX7_rowsWith_25 : decode cX7_rowsWith 25 = .ok (.iand, 1) := by decide +kernel
theorem dX7_rowsWith_26 : decode cX7_rowsWith 26 = .ok (.iload_n 2, 1) := by decide +kernel
theorem dX7_rowsWith_27 : decode cX7_rowsWith 27 = .ok (.if_icmp .ne 15, 3) := by decide +kernel
theorem dX7_rowsWith_30 : decode cX7_rowsWith 30 = .ok (.aload_n 0, 1) := by decide +kernel
theorem dX7_rowsWith_31 : decode cX7_rowsWith 31 = .ok (.getfield 22, 3) := by decide +kernel
theorem dX7_rowsWith_34 : decode cX7_rowsWith 34 = .ok (.iload 5, 2) := by decide +kernel
theorem dX7_rowsWith_36 : decode cX7_rowsWith 36 = .ok (.invokestatic 54, 3) := by decide +kernel
theorem dX7_rowsWith_39 : decode cX7_rowsWith 39 = .ok (.goto 4, 3) := by decide +kernel
theorem dX7_rowsWith_42 : decode cX7_rowsWith 42 = .ok (.lconst 0, 1) := by decide +kernel
theorem dX7_rowsWith_43 : decode cX7_rowsWith 43 = .ok (.ladd, 1) := by decide +kernel
theorem dX7_rowsWith_44 : decode cX7_rowsWith 44 = .ok (.lstore_n 3, 1) := by decide +kernel
theorem dX7_rowsWith_45 : decode cX7_rowsWith 45 = .ok (.iinc 5 1, 3) := by decide +kernel
theorem dX7_rowsWith_48 : decode cX7_rowsWith 48 = .ok (.goto (-43), 3) := by decide +kernel
theorem dX7_rowsWith_51 : decode cX7_rowsWith 51 = .ok (.lload_n 3, 1) := by decide +kernel
theorem dX7_rowsWith_52 : decode cX7_rowsWith 52 = .ok (.lreturn, 1) := by decide +kernel
theorem dX8_inside_0 : decode cX8_inside 0 = .ok (.iload_n 0, 1) := by decide +kernel
theorem dX8_inside_1 : decode cX8_inside 1 = .ok (.bipush 15, 2) := by decide +kernel
theorem dX8_inside_3 : decode cX8_inside 3 = .ok (.iand, 1) := by decide +kernel
theorem dX8_inside_4 : decode cX8_inside 4 = .ok (.iload_n 0, 1) := by decide +kernel
theorem dX8_inside_5 : decode cX8_inside 5 = .ok (.bipush 7, 2) := by decide +kernel
theorem dX8_inside_7 : decode cX8_inside 7 = .ok (.invokestatic 11, 3) := by decide +kernel
theorem dX8_inside_10 : decode cX8_inside 10 = .ok (.ior, 1) := by decide +kernel
theorem dX8_inside_11 : decode cX8_inside 11 = .ok (.ireturn, 1) := by decide +kernel
theorem dX8_done_0 : decode cX8_done 0 = .ok (.iload_n 0, 1) := by decide +kernel
theorem dX8_done_1 : decode cX8_done 1 = .ok (.iconst 4, 1) := by decide +kernel
theorem dX8_done_2 : decode cX8_done 2 = .ok (.ishr, 1) := by decide +kernel
theorem dX8_done_3 : decode cX8_done 3 = .ok (.bipush 15, 2) := by decide +kernel
theorem dX8_done_5 : decode cX8_done 5 = .ok (.iand, 1) := by decide +kernel
theorem dX8_done_6 : decode cX8_done 6 = .ok (.ireturn, 1) := by decide +kernel
theorem dX8_goneIn_0 : decode cX8_goneIn 0 = .ok (.iload_n 0, 1) := by decide +kernel
theorem dX8_goneIn_1 : decode cX8_goneIn 1 = .ok (.iload_n 0, 1) := by decide +kernel
theorem dX8_goneIn_2 : decode cX8_goneIn 2 = .ok (.iconst 4, 1) := by decide +kernel
theorem dX8_goneIn_3 : decode cX8_goneIn 3 = .ok (.ishr, 1) := by decide +kernel
theorem dX8_goneIn_4 : decode cX8_goneIn 4 = .ok (.ior, 1) := by decide +kernel
theorem dX8_goneIn_5 : decode cX8_goneIn 5 = .ok (.bipush 15, 2) := by decide +kernel
theorem dX8_goneIn_7 : decode cX8_goneIn 7 = .ok (.iand, 1) := by decide +kernel
theorem dX8_goneIn_8 : decode cX8_goneIn 8 = .ok (.ireturn, 1) := by decide +kernel
theorem dX8_brought_0 : decode cX8_brought 0 = .ok (.iload_n 0, 1) := by decide +kernel
theorem dX8_brought_1 : decode cX8_brought 1 = .ok (.invokestatic 15, 3) := by decide +kernel
theorem dX8_brought_4 : decode cX8_brought 4 = .ok (.iload_n 0, 1) := by decide +kernel
theorem dX8_brought_5 : decode cX8_brought 5 = .ok (.bipush 7, 2) := by decide +kernel
theorem dX8_brought_7 : decode cX8_brought 7 = .ok (.invokestatic 11, 3) := by decide +kernel
theorem dX8_brought_10 : decode cX8_brought 10 = .ok (.ior, 1) := by decide +kernel
theorem dX8_brought_11 : decode cX8_brought 11 = .ok (.ireturn, 1) := by decide +kernel
theorem dX8_strangersAt_0 : decode cX8_strangersAt 0 = .ok (.iload_n 0, 1) := by decide +kernel
theorem dX8_strangersAt_1 : decode cX8_strangersAt 1 = .ok (.bipush 8, 2) := by decide +kernel
theorem dX8_strangersAt_3 : decode cX8_strangersAt 3 = .ok (.ishr, 1) := by decide +kernel
theorem dX8_strangersAt_4 : decode cX8_strangersAt 4 = .ok (.bipush 7, 2) := by decide +kernel
theorem dX8_strangersAt_6 : decode cX8_strangersAt 6 = .ok (.iand, 1) := by decide +kernel
theorem dX8_strangersAt_7 : decode cX8_strangersAt 7 = .ok (.iload_n 1, 1) := by decide +kernel
theorem dX8_strangersAt_8 : decode cX8_strangersAt 8 = .ok (.if_icmp .ne 8, 3) := by decide +kernel
theorem dX8_strangersAt_11 : decode cX8_strangersAt 11 = .ok (.bipush 16, 2) := by decide +kernel
theorem dX8_strangersAt_13 : decode cX8_strangersAt 13 = .ok (.goto 4, 3) := by decide +kernel
theorem dX8_strangersAt_16 : decode cX8_strangersAt 16 = .ok (.iconst 0, 1) := by decide +kernel
theorem dX8_strangersAt_17 : decode cX8_strangersAt 17 = .ok (.istore_n 2, 1) := by decide +kernel
theorem dX8_strangersAt_18 : decode cX8_strangersAt 18 = .ok (.iload_n 0, 1) := by decide +kernel
theorem dX8_strangersAt_19 : decode cX8_strangersAt 19 = .ok (.bipush 11, 2) := by decide +kernel
theorem dX8_strangersAt_21 : decode cX8_strangersAt 21 = .ok (.ishr, 1) := by decide +kernel
theorem dX8_strangersAt_22 : decode cX8_strangersAt 22 = .ok (.bipush 7, 2) := by decide +kernel
theorem dX8_strangersAt_24 : decode cX8_strangersAt 24 = .ok (.iand, 1) := by decide +kernel
theorem dX8_strangersAt_25 : decode cX8_strangersAt 25 = .ok (.iload_n 1, 1) := by decide +kernel
theorem dX8_strangersAt_26 : decode cX8_strangersAt 26 = .ok (.if_icmp .ne 8, 3) := by decide +kernel
theorem dX8_strangersAt_29 : decode cX8_strangersAt 29 = .ok (.bipush 32, 2) := by decide +kernel
theorem dX8_strangersAt_31 : decode cX8_strangersAt 31 = .ok (.goto 4, 3) := by decide +kernel
theorem dX8_strangersAt_34 : decode cX8_strangersAt 34 = .ok (.iconst 0, 1) := by decide +kernel
theorem dX8_strangersAt_35 : decode cX8_strangersAt 35 = .ok (.istore_n 3, 1) := by decide +kernel
theorem dX8_strangersAt_36 : decode cX8_strangersAt 36 = .ok (.iload_n 2, 1) := by decide +kernel
theorem dX8_strangersAt_37 : decode cX8_strangersAt 37 = .ok (.iload_n 3, 1) := by decide +kernel
theorem dX8_strangersAt_38 : decode cX8_strangersAt 38 = .ok (.ior, 1) := by decide +kernel
theorem dX8_strangersAt_39 : decode cX8_strangersAt 39 = .ok (.ireturn, 1) := by decide +kernel
theorem dX8_placeOf_0 : decode cX8_placeOf 0 = .ok (.iload_n 0, 1) := by decide +kernel
theorem dX8_placeOf_1 : decode cX8_placeOf 1 = .ok (.iload_n 1, 1) := by decide +kernel
theorem dX8_placeOf_2 : decode cX8_placeOf 2 = .ok (.iconst 4, 1) := by decide +kernel
theorem dX8_placeOf_3 : decode cX8_placeOf 3 = .ok (.if_icmp .ne 8, 3) := by decide +kernel
theorem dX8_placeOf_6 : decode cX8_placeOf 6 = .ok (.bipush 8, 2) := by decide +kernel
theorem dX8_placeOf_8 : decode cX8_placeOf 8 = .ok (.goto 5, 3) := by decide +kernel
theorem dX8_placeOf_11 : decode cX8_placeOf 11 = .ok (.bipush 11, 2) := by decide +kernel
theorem dX8_placeOf_13 : decode cX8_placeOf 13 = .ok (.ishr, 1) := by decide +kernel
theorem dX8_placeOf_14 : decode cX8_placeOf 14 = .ok (.bipush 7, 2) := by decide +kernel
theorem dX8_placeOf_16 : decode cX8_placeOf 16 = .ok (.iand, 1) := by decide +kernel
theorem dX8_placeOf_17 : decode cX8_placeOf 17 = .ok (.ireturn, 1) := by decide +kernel
theorem dX8_withInside_0 : decode cX8_withInside 0 = .ok (.iload_n 0, 1) := by decide +kernel
theorem dX8_withInside_1 : decode cX8_withInside 1 = .ok (.iconst 1, 1) := by decide +kernel
theorem dX8_withInside_2 : decode cX8_withInside 2 = .ok (.iload_n 1, 1) := by decide +kernel
theorem dX8_withInside_3 : decode cX8_withInside 3 = .ok (.ishl, 1) := by decide +kernel
theorem dX8_withInside_4 : decode cX8_withInside 4 = .ok (.ior, 1) := by decide +kernel
theorem dX8_withInside_5 : decode cX8_withInside 5 = .ok (.ireturn, 1) := by decide +kernel
theorem dX8_withDone_0 : decode cX8_withDone 0 = .ok (.iload_n 0, 1) := by decide +kernel
theorem dX8_withDone_1 : decode cX8_withDone 1 = .ok (.iconst 1, 1) := by decide +kernel
theorem dX8_withDone_2 : decode cX8_withDone 2 = .ok (.iconst 4, 1) := by decide +kernel
theorem dX8_withDone_3 : decode cX8_withDone 3 = .ok (.iload_n 1, 1) := by decide +kernel
theorem dX8_withDone_4 : decode cX8_withDone 4 = .ok (.iadd, 1) := by decide +kernel
theorem dX8_withDone_5 : decode cX8_withDone 5 = .ok (.ishl, 1) := by decide +kernel
theorem dX8_withDone_6 : decode cX8_withDone 6 = .ok (.ior, 1) := by decide +kernel
theorem dX8_withDone_7 : decode cX8_withDone 7 = .ok (.ireturn, 1) := by decide +kernel
theorem dX8_withStrangers_0 : decode cX8_withStrangers 0 = .ok (.iload_n 1, 1) := by decide +kernel
theorem dX8_withStrangers_1 : decode cX8_withStrangers 1 = .ok (.bipush 16, 2) := by decide +kernel
theorem dX8_withStrangers_3 : decode cX8_withStrangers 3 = .ok (.iand, 1) := by decide +kernel
theorem dX8_withStrangers_4 : decode cX8_withStrangers 4 = .ok (.ifCond .ne 7, 3) := by decide +kernel
theorem dX8_withStrangers_7 : decode cX8_withStrangers 7 = .ok (.iload_n 0, 1) := by decide +kernel
theorem dX8_withStrangers_8 : decode cX8_withStrangers 8 = .ok (.goto 13, 3) := by decide +kernel
theorem dX8_withStrangers_11 : decode cX8_withStrangers 11 = .ok (.iload_n 0, 1) := by decide +kernel
theorem dX8_withStrangers_12 : decode cX8_withStrangers 12 = .ok (.sipush (-1793), 3) := by decide +kernel
theorem dX8_withStrangers_15 : decode cX8_withStrangers 15 = .ok (.iand, 1) := by decide +kernel
theorem dX8_withStrangers_16 : decode cX8_withStrangers 16 = .ok (.iload_n 2, 1) := by decide +kernel
theorem dX8_withStrangers_17 : decode cX8_withStrangers 17 = .ok (.bipush 8, 2) := by decide +kernel
theorem dX8_withStrangers_19 : decode cX8_withStrangers 19 = .ok (.ishl, 1) := by decide +kernel
theorem dX8_withStrangers_20 : decode cX8_withStrangers 20 = .ok (.ior, 1) := by decide +kernel
theorem dX8_withStrangers_21 : decode cX8_withStrangers 21 = .ok (.istore_n 3, 1) := by decide +kernel
theorem dX8_withStrangers_22 : decode cX8_withStrangers 22 = .ok (.iload_n 1, 1) := by decide +kernel
theorem dX8_withStrangers_23 : decode cX8_withStrangers 23 = .ok (.bipush 32, 2) := by decide +kernel
theorem dX8_withStrangers_25 : decode cX8_withStrangers 25 = .ok (.iand, 1) := by decide +kernel
theorem dX8_withStrangers_26 : decode cX8_withStrangers 26 = .ok (.ifCond .ne 7, 3) := by decide +kernel
theorem dX8_withStrangers_29 : decode cX8_withStrangers 29 = .ok (.iload_n 3, 1) := by decide +kernel
theorem dX8_withStrangers_30 : decode cX8_withStrangers 30 = .ok (.goto 13, 3) := by decide +kernel
theorem dX8_withStrangers_33 : decode cX8_withStrangers 33 = .ok (.iload_n 3, 1) := by decide +kernel
theorem dX8_withStrangers_34 : decode cX8_withStrangers 34 = .ok (.sipush (-14337), 3) := by decide +kernel
theorem dX8_withStrangers_37 : decode cX8_withStrangers 37 = .ok (.iand, 1) := by decide +kernel
theorem dX8_withStrangers_38 : decode cX8_withStrangers 38 = .ok (.iload_n 2, 1) := by decide +kernel
theorem dX8_withStrangers_39 : decode cX8_withStrangers 39 = .ok (.bipush 11, 2) := by decide +kernel
theorem dX8_withStrangers_41 : decode cX8_withStrangers 41 = .ok (.ishl, 1) := by decide +kernel
theorem dX8_withStrangers_42 : decode cX8_withStrangers 42 = .ok (.ior, 1) := by decide +kernel
theorem dX8_withStrangers_43 : decode cX8_withStrangers 43 = .ok (.ireturn, 1) := by decide +kernel
theorem dX8_after_0 : decode cX8_after 0 = .ok (.iload_n 0, 1) := by decide +kernel
theorem dX8_after_1 : decode cX8_after 1 = .ok (.iload_n 2, 1) := by decide +kernel
theorem dX8_after_2 : decode cX8_after 2 = .ok (.bipush 15, 2) := by decide +kernel
theorem dX8_after_4 : decode cX8_after 4 = .ok (.iand, 1) := by decide +kernel
theorem dX8_after_5 : decode cX8_after 5 = .ok (.iconst (-1), 1) := by decide +kernel
theorem dX8_after_6 : decode cX8_after 6 = .ok (.ixor, 1) := by decide +kernel
theorem dX8_after_7 : decode cX8_after 7 = .ok (.iand, 1) := by decide +kernel
theorem dX8_after_8 : decode cX8_after 8 = .ok (.iload_n 3, 1) := by decide +kernel
theorem dX8_after_9 : decode cX8_after 9 = .ok (.bipush 15, 2) := by decide +kernel
theorem dX8_after_11 : decode cX8_after 11 = .ok (.iand, 1) := by decide +kernel
theorem dX8_after_12 : decode cX8_after 12 = .ok (.ior, 1) := by decide +kernel
theorem dX8_after_13 : decode cX8_after 13 = .ok (.iload_n 2, 1) := by decide +kernel
theorem dX8_after_14 : decode cX8_after 14 = .ok (.bipush 15, 2) := by decide +kernel
theorem dX8_after_16 : decode cX8_after 16 = .ok (.iand, 1) := by decide +kernel
theorem dX8_after_17 : decode cX8_after 17 = .ok (.iconst 4, 1) := by decide +kernel
theorem dX8_after_18 : decode cX8_after 18 = .ok (.ishl, 1) := by decide +kernel
theorem dX8_after_19 : decode cX8_after 19 = .ok (.ior, 1) := by decide +kernel
theorem dX8_after_20 : decode cX8_after 20 = .ok (.istore 4, 2) := by decide +kernel
theorem dX8_after_22 : decode cX8_after 22 = .ok (.iload 4, 2) := by decide +kernel
theorem dX8_after_24 : decode cX8_after 24 = .ok (.iload_n 2, 1) := by decide +kernel
theorem dX8_after_25 : decode cX8_after 25 = .ok (.iload_n 1, 1) := by decide +kernel
theorem dX8_after_26 : decode cX8_after 26 = .ok (.invokestatic 19, 3) := by decide +kernel
theorem dX8_after_29 : decode cX8_after 29 = .ok (.iload_n 3, 1) := by decide +kernel
theorem dX8_after_30 : decode cX8_after 30 = .ok (.bipush 7, 2) := by decide +kernel
theorem dX8_after_32 : decode cX8_after 32 = .ok (.invokestatic 19, 3) := by decide +kernel
theorem dX8_after_35 : decode cX8_after 35 = .ok (.ireturn, 1) := by decide +kernel
theorem dX8_before_0 : decode cX8_before 0 = .ok (.iload_n 0, 1) := by decide +kernel
theorem dX8_before_1 : decode cX8_before 1 = .ok (.iload_n 3, 1) := by decide +kernel
theorem dX8_before_2 : decode cX8_before 2 = .ok (.bipush 15, 2) := by decide +kernel
theorem dX8_before_4 : decode cX8_before 4 = .ok (.iand, 1) := by decide +kernel
theorem dX8_before_5 : decode cX8_before 5 = .ok (.iconst (-1), 1) := by decide +kernel
theorem dX8_before_6 : decode cX8_before 6 = .ok (.ixor, 1) := by decide +kernel
theorem dX8_before_7 : decode cX8_before 7 = .ok (.iand, 1) := by decide +kernel
theorem dX8_before_8 : decode cX8_before 8 = .ok (.iload_n 2, 1) := by decide +kernel
theorem dX8_before_9 : decode cX8_before 9 = .ok (.bipush 15, 2) := by decide +kernel
theorem dX8_before_11 : decode cX8_before 11 = .ok (.iand, 1) := by decide +kernel
theorem dX8_before_12 : decode cX8_before 12 = .ok (.iconst 4, 1) := by decide +kernel
theorem dX8_before_13 : decode cX8_before 13 = .ok (.ishl, 1) := by decide +kernel
theorem dX8_before_14 : decode cX8_before 14 = .ok (.iconst (-1), 1) := by decide +kernel
theorem dX8_before_15 : decode cX8_before 15 = .ok (.ixor, 1) := by decide +kernel
theorem dX8_before_16 : decode cX8_before 16 = .ok (.iand, 1) := by decide +kernel
theorem dX8_before_17 : decode cX8_before 17 = .ok (.iload_n 2, 1) := by decide +kernel
theorem dX8_before_18 : decode cX8_before 18 = .ok (.bipush 15, 2) := by decide +kernel
theorem dX8_before_20 : decode cX8_before 20 = .ok (.iand, 1) := by decide +kernel
theorem dX8_before_21 : decode cX8_before 21 = .ok (.ior, 1) := by decide +kernel
theorem dX8_before_22 : decode cX8_before 22 = .ok (.istore 4, 2) := by decide +kernel
theorem dX8_before_24 : decode cX8_before 24 = .ok (.iload 4, 2) := by decide +kernel
theorem dX8_before_26 : decode cX8_before 26 = .ok (.iload_n 2, 1) := by decide +kernel
theorem dX8_before_27 : decode cX8_before 27 = .ok (.bipush 7, 2) := by decide +kernel
theorem dX8_before_29 : decode cX8_before 29 = .ok (.invokestatic 19, 3) := by decide +kernel
theorem dX8_before_32 : decode cX8_before 32 = .ok (.iload_n 3, 1) := by decide +kernel
theorem dX8_before_33 : decode cX8_before 33 = .ok (.iload_n 1, 1) := by decide +kernel
theorem dX8_before_34 : decode cX8_before 34 = .ok (.invokestatic 19, 3) := by decide +kernel
theorem dX8_before_37 : decode cX8_before 37 = .ok (.ireturn, 1) := by decide +kernel
theorem dX9_init_0 : decode cX9_init 0 = .ok (.aload_n 0, 1) := by decide +kernel
theorem dX9_init_1 : decode cX9_init 1 = .ok (.invokespecial 3, 3) := by decide +kernel
theorem dX9_init_4 : decode cX9_init 4 = .ok (.aload_n 0, 1) := by decide +kernel
theorem dX9_init_5 : decode cX9_init 5 = .ok (.bipush 40, 2) := by decide +kernel
theorem dX9_init_7 : decode cX9_init 7 = .ok (.newarray .int, 2) := by decide +kernel
theorem dX9_init_9 : decode cX9_init 9 = .ok (.putfield 11, 3) := by decide +kernel
theorem dX9_init_12 : decode cX9_init 12 = .ok (.aload_n 0, 1) := by decide +kernel
theorem dX9_init_13 : decode cX9_init 13 = .ok (.iconst 0, 1) := by decide +kernel
theorem dX9_init_14 : decode cX9_init 14 = .ok (.putfield 15, 3) := by decide +kernel
theorem dX9_init_17 : decode cX9_init 17 = .ok (.return_, 1) := by decide +kernel
theorem dX9_size_0 : decode cX9_size 0 = .ok (.aload_n 0, 1) := by decide +kernel
theorem dX9_size_1 : decode cX9_size 1 = .ok (.getfield 15, 3) := by decide +kernel
theorem dX9_size_4 : decode cX9_size 4 = .ok (.ireturn, 1) := by decide +kernel
theorem dX9_hasRoomFor_0 : decode cX9_hasRoomFor 0 = .ok (.aload_n 0, 1) := by decide +kernel
theorem dX9_hasRoomFor_1 : decode cX9_hasRoomFor 1 = .ok (.getfield 15, 3) := by decide +kernel
theorem dX9_hasRoomFor_4 : decode cX9_hasRoomFor 4 = .ok (.iload_n 1, 1) := by decide +kernel
theorem dX9_hasRoomFor_5 : decode cX9_hasRoomFor 5 = .ok (.iadd, 1) := by decide +kernel
theorem dX9_hasRoomFor_6 : decode cX9_hasRoomFor 6 = .ok (.bipush 40, 2) := by decide +kernel
theorem dX9_hasRoomFor_8 : decode cX9_hasRoomFor 8 = .ok (.if_icmp .gt 7, 3) := by decide +kernel
theorem dX9_hasRoomFor_11 : decode cX9_hasRoomFor 11 = .ok (.iconst 1, 1) := by decide +kernel
theorem dX9_hasRoomFor_12 : decode cX9_hasRoomFor 12 = .ok (.goto 4, 3) := by decide +kernel
theorem dX9_hasRoomFor_15 : decode cX9_hasRoomFor 15 = .ok (.iconst 0, 1) := by decide +kernel
theorem dX9_hasRoomFor_16 : decode cX9_hasRoomFor 16 = .ok (.ireturn, 1) := by decide +kernel
theorem dX9_append_0 : decode cX9_append 0 = .ok (.aload_n 0, 1) := by decide +kernel
theorem dX9_append_1 : decode cX9_append 1 = .ok (.getfield 15, 3) := by decide +kernel
theorem dX9_append_4 : decode cX9_append 4 = .ok (.bipush 40, 2) := by decide +kernel
theorem dX9_append_6 : decode cX9_append 6 = .ok (.if_icmp .ge 25, 3) := by decide +kernel
theorem dX9_append_9 : decode cX9_append 9 = .ok (.aload_n 0, 1) := by decide +kernel
theorem dX9_append_10 : decode cX9_append 10 = .ok (.getfield 11, 3) := by decide +kernel
theorem dX9_append_13 : decode cX9_append 13 = .ok (.aload_n 0, 1) := by decide +kernel
theorem dX9_append_14 : decode cX9_append 14 = .ok (.getfield 15, 3) := by decide +kernel
theorem dX9_append_17 : decode cX9_append 17 = .ok (.iload_n 1, 1) := by decide +kernel
theorem dX9_append_18 : decode cX9_append 18 = .ok (.invokestatic 19, 3) := by decide +kernel
theorem dX9_append_21 : decode cX9_append 21 = .ok (.aload_n 0, 1) := by decide +kernel
theorem dX9_append_22 : decode cX9_append 22 = .ok (.dup, 1) := by decide +kernel
theorem dX9_append_23 : decode cX9_append 23 = .ok (.getfield 15, 3) := by decide +kernel
theorem dX9_append_26 : decode cX9_append 26 = .ok (.iconst 1, 1) := by decide +kernel
theorem dX9_append_27 : decode cX9_append 27 = .ok (.iadd, 1) := by decide +kernel
theorem dX9_append_28 : decode cX9_append 28 = .ok (.putfield 15, 3) := by decide +kernel
theorem dX9_append_31 : decode cX9_append 31 = .ok (.return_, 1) := by decide +kernel
theorem dX9_clear_0 : decode cX9_clear 0 = .ok (.aload_n 0, 1) := by decide +kernel
theorem dX9_clear_1 : decode cX9_clear 1 = .ok (.iconst 0, 1) := by decide +kernel
theorem dX9_clear_2 : decode cX9_clear 2 = .ok (.putfield 15, 3) := by decide +kernel
theorem dX9_clear_5 : decode cX9_clear 5 = .ok (.return_, 1) := by decide +kernel
theorem dX9_byteAt_0 : decode cX9_byteAt 0 = .ok (.iload_n 1, 1) := by decide +kernel
theorem dX9_byteAt_1 : decode cX9_byteAt 1 = .ok (.aload_n 0, 1) := by decide +kernel
theorem dX9_byteAt_2 : decode cX9_byteAt 2 = .ok (.getfield 15, 3) := by decide +kernel
theorem dX9_byteAt_5 : decode cX9_byteAt 5 = .ok (.if_icmp .ge 14, 3) := by decide +kernel
theorem dX9_byteAt_8 : decode cX9_byteAt 8 = .ok (.aload_n 0, 1) := by decide +kernel
theorem dX9_byteAt_9 : decode cX9_byteAt 9 = .ok (.getfield 11, 3) := by decide +kernel
theorem dX9_byteAt_12 : decode cX9_byteAt 12 = .ok (.iload_n 1, 1) := by decide +kernel
theorem dX9_byteAt_13 : decode cX9_byteAt 13 = .ok (.invokestatic 23, 3) := by decide +kernel
theorem dX9_byteAt_16 : decode cX9_byteAt 16 = .ok (.goto 5, 3) := by decide +kernel
theorem dX9_byteAt_19 : decode cX9_byteAt 19 = .ok (.bipush (-9), 2) := by decide +kernel
theorem dX9_byteAt_21 : decode cX9_byteAt 21 = .ok (.ireturn, 1) := by decide +kernel
theorem dJ6_bitCount_0f7a4_0 : decode cJ6_bitCount_0f7a4 0 = .ok (.iload_n 0, 1) := by decide +kernel
theorem dJ6_bitCount_0f7a4_1 : decode cJ6_bitCount_0f7a4 1 = .ok (.iload_n 0, 1) := by decide +kernel
theorem dJ6_bitCount_0f7a4_2 : decode cJ6_bitCount_0f7a4 2 = .ok (.iconst 1, 1) := by decide +kernel
theorem dJ6_bitCount_0f7a4_3 : decode cJ6_bitCount_0f7a4 3 = .ok (.iushr, 1) := by decide +kernel
theorem dJ6_bitCount_0f7a4_4 : decode cJ6_bitCount_0f7a4 4 = .ok (.ldc_w 265, 3) := by decide +kernel
theorem dJ6_bitCount_0f7a4_7 : decode cJ6_bitCount_0f7a4 7 = .ok (.iand, 1) := by decide +kernel
theorem dJ6_bitCount_0f7a4_8 : decode cJ6_bitCount_0f7a4 8 = .ok (.isub, 1) := by decide +kernel
theorem dJ6_bitCount_0f7a4_9 : decode cJ6_bitCount_0f7a4 9 = .ok (.istore_n 0, 1) := by decide +kernel
theorem dJ6_bitCount_0f7a4_10 : decode cJ6_bitCount_0f7a4 10 = .ok (.iload_n 0, 1) := by decide +kernel
theorem dJ6_bitCount_0f7a4_11 : decode cJ6_bitCount_0f7a4 11 = .ok (.ldc_w 266, 3) := by decide +kernel
theorem dJ6_bitCount_0f7a4_14 : decode cJ6_bitCount_0f7a4 14 = .ok (.iand, 1) := by decide +kernel
theorem dJ6_bitCount_0f7a4_15 : decode cJ6_bitCount_0f7a4 15 = .ok (.iload_n 0, 1) := by decide +kernel
theorem dJ6_bitCount_0f7a4_16 : decode cJ6_bitCount_0f7a4 16 = .ok (.iconst 2, 1) := by decide +kernel
theorem dJ6_bitCount_0f7a4_17 : decode cJ6_bitCount_0f7a4 17 = .ok (.iushr, 1) := by decide +kernel
theorem dJ6_bitCount_0f7a4_18 : decode cJ6_bitCount_0f7a4 18 = .ok (.ldc_w 266, 3) := by decide +kernel
theorem dJ6_bitCount_0f7a4_21 : decode cJ6_bitCount_0f7a4 21 = .ok (.iand, 1) := by decide +kernel
theorem dJ6_bitCount_0f7a4_22 : decode cJ6_bitCount_0f7a4 22 = .ok (.iadd, 1) := by decide +kernel
theorem dJ6_bitCount_0f7a4_23 : decode cJ6_bitCount_0f7a4 23 = .ok (.istore_n 0, 1) := by decide +kernel
theorem dJ6_bitCount_0f7a4_24 : decode cJ6_bitCount_0f7a4 24 = .ok (.iload_n 0, 1) := by decide +kernel
theorem dJ6_bitCount_0f7a4_25 : decode cJ6_bitCount_0f7a4 25 = .ok (.iload_n 0, 1) := by decide +kernel
theorem dJ6_bitCount_0f7a4_26 : decode cJ6_bitCount_0f7a4 26 = .ok (.iconst 4, 1) := by decide +kernel
theorem dJ6_bitCount_0f7a4_27 : decode cJ6_bitCount_0f7a4 27 = .ok (.iushr, 1) := by decide +kernel
theorem dJ6_bitCount_0f7a4_28 : decode cJ6_bitCount_0f7a4 28 = .ok (.iadd, 1) := by decide +kernel
theorem dJ6_bitCount_0f7a4_29 : decode cJ6_bitCount_0f7a4 29 = .ok (.ldc_w 267, 3) := by decide +kernel
theorem dJ6_bitCount_0f7a4_32 : decode cJ6_bitCount_0f7a4 32 = .ok (.iand, 1) := by decide +kernel
theorem dJ6_bitCount_0f7a4_33 : decode cJ6_bitCount_0f7a4 33 = .ok (.istore_n 0, 1) := by decide +kernel
theorem dJ6_bitCount_0f7a4_34 : decode cJ6_bitCount_0f7a4 34 = .ok (.iload_n 0, 1) := by decide +kernel
theorem dJ6_bitCount_0f7a4_35 : decode cJ6_bitCount_0f7a4 35 = .ok (.iload_n 0, 1) := by decide +kernel
theorem dJ6_bitCount_0f7a4_36 : decode cJ6_bitCount_0f7a4 36 = .ok (.bipush 8, 2) := by decide +kernel
theorem dJ6_bitCount_0f7a4_38 : decode cJ6_bitCount_0f7a4 38 = .ok (.iushr, 1) := by decide +kernel
theorem dJ6_bitCount_0f7a4_39 : decode cJ6_bitCount_0f7a4 39 = .ok (.iadd, 1) := by decide +kernel
theorem dJ6_bitCount_0f7a4_40 : decode cJ6_bitCount_0f7a4 40 = .ok (.istore_n 0, 1) := by decide +kernel
theorem dJ6_bitCount_0f7a4_41 : decode cJ6_bitCount_0f7a4 41 = .ok (.iload_n 0, 1) := by decide +kernel
theorem dJ6_bitCount_0f7a4_42 : decode cJ6_bitCount_0f7a4 42 = .ok (.iload_n 0, 1) := by decide +kernel
theorem dJ6_bitCount_0f7a4_43 : decode cJ6_bitCount_0f7a4 43 = .ok (.bipush 16, 2) := by decide +kernel
theorem dJ6_bitCount_0f7a4_45 : decode cJ6_bitCount_0f7a4 45 = .ok (.iushr, 1) := by decide +kernel
theorem dJ6_bitCount_0f7a4_46 : decode cJ6_bitCount_0f7a4 46 = .ok (.iadd, 1) := by decide +kernel
theorem dJ6_bitCount_0f7a4_47 : decode cJ6_bitCount_0f7a4 47 = .ok (.istore_n 0, 1) := by decide +kernel
theorem dJ6_bitCount_0f7a4_48 : decode cJ6_bitCount_0f7a4 48 = .ok (.iload_n 0, 1) := by decide +kernel
theorem dJ6_bitCount_0f7a4_49 : decode cJ6_bitCount_0f7a4 49 = .ok (.bipush 63, 2) := by decide +kernel
theorem dJ6_bitCount_0f7a4_51 : decode cJ6_bitCount_0f7a4 51 = .ok (.iand, 1) := by decide +kernel
theorem dJ6_bitCount_0f7a4_52 : decode cJ6_bitCount_0f7a4 52 = .ok (.ireturn, 1) := by decide +kernel
theorem dJ9_abs_0f7a4_0 : decode cJ9_abs_0f7a4 0 = .ok (.iload_n 0, 1) := by decide +kernel
theorem dJ9_abs_0f7a4_1 : decode cJ9_abs_0f7a4 1 = .ok (.ifCond .ge 8, 3) := by decide +kernel
theorem dJ9_abs_0f7a4_4 : decode cJ9_abs_0f7a4 4 = .ok (.iload_n 0, 1) := by decide +kernel
theorem dJ9_abs_0f7a4_5 : decode cJ9_abs_0f7a4 5 = .ok (.ineg, 1) := by decide +kernel
theorem dJ9_abs_0f7a4_6 : decode cJ9_abs_0f7a4 6 = .ok (.goto 4, 3) := by decide +kernel
theorem dJ9_abs_0f7a4_9 : decode cJ9_abs_0f7a4 9 = .ok (.iload_n 0, 1) := by decide +kernel
theorem dJ9_abs_0f7a4_10 : decode cJ9_abs_0f7a4 10 = .ok (.ireturn, 1) := by decide +kernel
theorem dJ9_min_7cf53_0 : decode cJ9_min_7cf53 0 = .ok (.iload_n 0, 1) := by decide +kernel
theorem dJ9_min_7cf53_1 : decode cJ9_min_7cf53 1 = .ok (.iload_n 1, 1) := by decide +kernel
theorem dJ9_min_7cf53_2 : decode cJ9_min_7cf53 2 = .ok (.if_icmp .gt 7, 3) := by decide +kernel
theorem dJ9_min_7cf53_5 : decode cJ9_min_7cf53 5 = .ok (.iload_n 0, 1) := by decide +kernel
theorem dJ9_min_7cf53_6 : decode cJ9_min_7cf53 6 = .ok (.goto 4, 3) := by decide +kernel
theorem dJ9_min_7cf53_9 : decode cJ9_min_7cf53 9 = .ok (.iload_n 1, 1) := by decide +kernel
theorem dJ9_min_7cf53_10 : decode cJ9_min_7cf53 10 = .ok (.ireturn, 1) := by decide +kernel
theorem dJ7_fill_d0a16_0 : decode cJ7_fill_d0a16 0 = .ok (.iconst 0, 1) := by decide +kernel
theorem dJ7_fill_d0a16_1 : decode cJ7_fill_d0a16 1 = .ok (.istore_n 3, 1) := by decide +kernel
theorem dJ7_fill_d0a16_2 : decode cJ7_fill_d0a16 2 = .ok (.aload_n 0, 1) := by decide +kernel
theorem dJ7_fill_d0a16_3 : decode cJ7_fill_d0a16 3 = .ok (.arraylength, 1) := by decide +kernel
theorem dJ7_fill_d0a16_4 : decode cJ7_fill_d0a16 4 = .ok (.istore 4, 2) := by decide +kernel
theorem dJ7_fill_d0a16_6 : decode cJ7_fill_d0a16 6 = .ok (.iload_n 3, 1) := by decide +kernel
theorem dJ7_fill_d0a16_7 : decode cJ7_fill_d0a16 7 = .ok (.iload 4, 2) := by decide +kernel
theorem dJ7_fill_d0a16_9 : decode cJ7_fill_d0a16 9 = .ok (.if_icmp .ge 13, 3) := by decide +kernel
theorem dJ7_fill_d0a16_12 : decode cJ7_fill_d0a16 12 = .ok (.aload_n 0, 1) := by decide +kernel
theorem dJ7_fill_d0a16_13 : decode cJ7_fill_d0a16 13 = .ok (.iload_n 3, 1) := by decide +kernel
theorem dJ7_fill_d0a16_14 : decode cJ7_fill_d0a16 14 = .ok (.lload_n 1, 1) := by decide +kernel
theorem dJ7_fill_d0a16_15 : decode cJ7_fill_d0a16 15 = .ok (.lastore, 1) := by decide +kernel
theorem dJ7_fill_d0a16_16 : decode cJ7_fill_d0a16 16 = .ok (.iinc 3 1, 3) := by decide +kernel
theorem dJ7_fill_d0a16_19 : decode cJ7_fill_d0a16 19 = .ok (.goto (-13), 3) := by decide +kernel
theorem dJ7_fill_d0a16_22 : decode cJ7_fill_d0a16 22 = .ok (.return_, 1) := by decide +kernel
theorem dJ7_fill_53178_0 : decode cJ7_fill_53178 0 = .ok (.iconst 0, 1) := by decide +kernel
theorem dJ7_fill_53178_1 : decode cJ7_fill_53178 1 = .ok (.istore_n 2, 1) := by decide +kernel
theorem dJ7_fill_53178_2 : decode cJ7_fill_53178 2 = .ok (.aload_n 0, 1) := by decide +kernel
theorem dJ7_fill_53178_3 : decode cJ7_fill_53178 3 = .ok (.arraylength, 1) := by decide +kernel
theorem dJ7_fill_53178_4 : decode cJ7_fill_53178 4 = .ok (.istore_n 3, 1) := by decide +kernel
theorem dJ7_fill_53178_5 : decode cJ7_fill_53178 5 = .ok (.iload_n 2, 1) := by decide +kernel
theorem dJ7_fill_53178_6 : decode cJ7_fill_53178 6 = .ok (.iload_n 3, 1) := by decide +kernel
theorem dJ7_fill_53178_7 : decode cJ7_fill_53178 7 = .ok (.if_icmp .ge 13, 3) := by decide +kernel
theorem dJ7_fill_53178_10 : decode cJ7_fill_53178 10 = .ok (.aload_n 0, 1) := by decide +kernel
theorem dJ7_fill_53178_11 : decode cJ7_fill_53178 11 = .ok (.iload_n 2, 1) := by decide +kernel
theorem dJ7_fill_53178_12 : decode cJ7_fill_53178 12 = .ok (.iload_n 1, 1) := by decide +kernel
theorem dJ7_fill_53178_13 : decode cJ7_fill_53178 13 = .ok (.iastore, 1) := by decide +kernel
theorem dJ7_fill_53178_14 : decode cJ7_fill_53178 14 = .ok (.iinc 2 1, 3) := by decide +kernel
theorem dJ7_fill_53178_17 : decode cJ7_fill_53178 17 = .ok (.goto (-12), 3) := by decide +kernel
theorem dJ7_fill_53178_20 : decode cJ7_fill_53178 20 = .ok (.return_, 1) := by decide +kernel
