theorem dX10_init_0 : decode cX10_init 0 = .ok (.aload_n 0, 1) := by decide +kernel
theorem dX10_init_1 : decode cX10_init 1 = .ok (.invokespecial 3, 3) := by decide +kernel
theorem dX10_init_4 : decode cX10_init 4 = .ok (.aload_n 0, 1) := by decide +kernel
theorem dX10_init_5 : decode cX10_init 5 = .ok (.new 9, 3) := by decide +kernel
theorem dX10_init_8 : decode cX10_init 8 = .ok (.dup, 1) := by decide +kernel
theorem dX10_init_9 : decode cX10_init 9 = .ok (.invokespecial 11, 3) := by decide +kernel
theorem dX10_init_12 : decode cX10_init 12 = .ok (.putfield 12, 3) := by decide +kernel
theorem dX10_init_15 : decode cX10_init 15 = .ok (.aload_n 0, 1) := by decide +kernel
theorem dX10_init_16 : decode cX10_init 16 = .ok (.new 16, 3) := by decide +kernel
theorem dX10_init_19 : decode cX10_init 19 = .ok (.dup, 1) := by decide +kernel
theorem dX10_init_20 : decode cX10_init 20 = .ok (.invokespecial 18, 3) := by decide +kernel
theorem dX10_init_23 : decode cX10_init 23 = .ok (.putfield 19, 3) := by decide +kernel
theorem dX10_init_26 : decode cX10_init 26 = .ok (.aload_n 0, 1) := by decide +kernel
theorem dX10_init_27 : decode cX10_init 27 = .ok (.new 23, 3) := by decide +kernel
theorem dX10_init_30 : decode cX10_init 30 = .ok (.dup, 1) := by decide +kernel
theorem dX10_init_31 : decode cX10_init 31 = .ok (.invokespecial 25, 3) := by decide +kernel
theorem dX10_init_34 : decode cX10_init 34 = .ok (.putfield 26, 3) := by decide +kernel
theorem dX10_init_37 : decode cX10_init 37 = .ok (.aload_n 0, 1) := by decide +kernel
theorem dX10_init_38 : decode cX10_init 38 = .ok (.new 23, 3) := by decide +kernel
theorem dX10_init_41 : decode cX10_init 41 = .ok (.dup, 1) := by decide +kernel
theorem dX10_init_42 : decode cX10_init 42 = .ok (.invokespecial 25, 3) := by decide +kernel
theorem dX10_init_45 : decode cX10_init 45 = .ok (.putfield 30, 3) := by decide +kernel
theorem dX10_init_48 : decode cX10_init 48 = .ok (.aload_n 0, 1) := by decide +kernel
theorem dX10_init_49 : decode cX10_init 49 = .ok (.iconst 2, 1) := by decide +kernel
theorem dX10_init_50 : decode cX10_init 50 = .ok (.anewarray 23, 3) := by decide +kernel
theorem dX10_init_53 : decode cX10_init 53 = .ok (.putfield 33, 3) := by decide +kernel
theorem dX10_init_56 : decode cX10_init 56 = .ok (.aload_n 0, 1) := by decide +kernel
theorem dX10_init_57 : decode cX10_init 57 = .ok (.new 37, 3) := by decide +kernel
theorem dX10_init_60 : decode cX10_init 60 = .ok (.dup, 1) := by decide +kernel
theorem dX10_init_61 : decode cX10_init 61 = .ok (.invokespecial 39, 3) := by decide +kernel
theorem dX10_init_64 : decode cX10_init 64 = .ok (.putfield 40, 3) := by decide +kernel
theorem dX10_init_67 : decode cX10_init 67 = .ok (.aload_n 0, 1) := by decide +kernel
theorem dX10_init_68 : decode cX10_init 68 = .ok (.new 44, 3) := by decide +kernel
theorem dX10_init_71 : decode cX10_init 71 = .ok (.dup, 1) := by decide +kernel
theorem dX10_init_72 : decode cX10_init 72 = .ok (.invokespecial 46, 3) := by decide +kernel
theorem dX10_init_75 : decode cX10_init 75 = .ok (.putfield 47, 3) := by decide +kernel
theorem dX10_init_78 : decode cX10_init 78 = .ok (.aload_n 0, 1) := by decide +kernel
theorem dX10_init_79 : decode cX10_init 79 = .ok (.new 51, 3) := by decide +kernel
theorem dX10_init_82 : decode cX10_init 82 = .ok (.dup, 1) := by decide +kernel
theorem dX10_init_83 : decode cX10_init 83 = .ok (.invokespecial 53, 3) := by decide +kernel
theorem dX10_init_86 : decode cX10_init 86 = .ok (.putfield 54, 3) := by decide +kernel
theorem dX10_init_89 : decode cX10_init 89 = .ok (.aload_n 0, 1) := by decide +kernel
theorem dX10_init_90 : decode cX10_init 90 = .ok (.new 58, 3) := by decide +kernel
theorem dX10_init_93 : decode cX10_init 93 = .ok (.dup, 1) := by decide +kernel
theorem dX10_init_94 : decode cX10_init 94 = .ok (.invokespecial 60, 3) := by decide +kernel
theorem dX10_init_97 : decode cX10_init 97 = .ok (.putfield 61, 3) := by decide +kernel
theorem dX10_init_100 : decode cX10_init 100 = .ok (.aload_n 0, 1) := by decide +kernel
theorem dX10_init_101 : decode cX10_init 101 = .ok (.new 65, 3) := by decide +kernel
theorem dX10_init_104 : decode cX10_init 104 = .ok (.dup, 1) := by decide +kernel
theorem dX10_init_105 : decode cX10_init 105 = .ok (.invokespecial 67, 3) := by decide +kernel
theorem dX10_init_108 : decode cX10_init 108 = .ok (.putfield 68, 3) := by decide +kernel
theorem dX10_init_111 : decode cX10_init 111 = .ok (.aload_n 0, 1) := by decide +kernel
theorem dX10_init_112 : decode cX10_init 112 = .ok (.iconst 0, 1) := by decide +kernel
theorem dX10_init_113 : decode cX10_init 113 = .ok (.putfield 72, 3) := by decide +kernel
theorem dX10_init_116 : decode cX10_init 116 = .ok (.return_, 1) := by decide +kernel
theorem dX10_write_0 : decode cX10_write 0 = .ok (.iload_n 1, 1) := by decide +kernel
theorem dX10_write_1 : decode cX10_write 1 = .ok (.iconst 1, 1) := by decide +kernel
theorem dX10_write_2 : decode cX10_write 2 = .ok (.if_icmp .lt 9, 3) := by decide +kernel
theorem dX10_write_5 : decode cX10_write 5 = .ok (.iload_n 1, 1) := by decide +kernel
theorem dX10_write_6 : decode cX10_write 6 = .ok (.bipush 8, 2) := by decide +kernel
theorem dX10_write_8 : decode cX10_write 8 = .ok (.if_icmp .le 6, 3) := by decide +kernel
theorem dX10_write_11 : decode cX10_write 11 = .ok (.bipush (-2), 2) := by decide +kernel
theorem dX10_write_13 : decode cX10_write 13 = .ok (.ireturn, 1) := by decide +kernel
theorem dX10_write_14 : decode cX10_write 14 = .ok (.aload_n 0, 1) := by decide +kernel
theorem dX10_write_15 : decode cX10_write 15 = .ok (.getfield 12, 3) := by decide +kernel
theorem dX10_write_18 : decode cX10_write 18 = .ok (.iload_n 1, 1) := by decide +kernel
theorem dX10_write_19 : decode cX10_write 19 = .ok (.invokevirtual 76, 3) := by decide +kernel
theorem dX10_write_22 : decode cX10_write 22 = .ok (.ifCond .ne 6, 3) := by decide +kernel
theorem dX10_write_25 : decode cX10_write 25 = .ok (.bipush (-4), 2) := by decide +kernel
theorem dX10_write_27 : decode cX10_write 27 = .ok (.ireturn, 1) := by decide +kernel
theorem dX10_write_28 : decode cX10_write 28 = .ok (.iload_n 1, 1) := by decide +kernel
theorem dX10_write_29 : decode cX10_write 29 = .ok (.iconst 1, 1) := by decide +kernel
theorem dX10_write_30 : decode cX10_write 30 = .ok (.isub, 1) := by decide +kernel
theorem dX10_write_31 : decode cX10_write 31 = .ok (.istore 4, 2) := by decide +kernel
theorem dX10_write_33 : decode cX10_write 33 = .ok (.iload 4, 2) := by decide +kernel
theorem dX10_write_35 : decode cX10_write 35 = .ok (.ifCond .lt 28, 3) := by decide +kernel
theorem dX10_write_38 : decode cX10_write 38 = .ok (.aload_n 0, 1) := by decide +kernel
theorem dX10_write_39 : decode cX10_write 39 = .ok (.getfield 12, 3) := by decide +kernel
theorem dX10_write_42 : decode cX10_write 42 = .ok (.lload_n 2, 1) := by decide +kernel
theorem dX10_write_43 : decode cX10_write 43 = .ok (.bipush 8, 2) := by decide +kernel
theorem dX10_write_45 : decode cX10_write 45 = .ok (.iload 4, 2) := by decide +kernel
theorem dX10_write_47 : decode cX10_write 47 = .ok (.imul, 1) := by decide +kernel
theorem dX10_write_48 : decode cX10_write 48 = .ok (.lshr, 1) := by decide +kernel
theorem dX10_write_49 : decode cX10_write 49 = .ok (.ldc2_w 80, 3) := by decide +kernel
theorem dX10_write_52 : decode cX10_write 52 = .ok (.land, 1) := by decide +kernel
theorem dX10_write_53 : decode cX10_write 53 = .ok (.l2i, 1) := by decide +kernel
theorem dX10_write_54 : decode cX10_write 54 = .ok (.invokevirtual 82, 3) := by decide +kernel
theorem dX10_write_57 : decode cX10_write 57 = .ok (.iinc 4 (-1), 3) := by decide +kernel
theorem dX10_write_60 : decode cX10_write 60 = .ok (.goto (-27), 3) := by decide +kernel
theorem dX10_write_63 : decode cX10_write 63 = .ok (.aload_n 0, 1) := by decide +kernel
theorem dX10_write_64 : decode cX10_write 64 = .ok (.getfield 12, 3) := by decide +kernel
theorem dX10_write_67 : decode cX10_write 67 = .ok (.invokevirtual 86, 3) := by decide +kernel
theorem dX10_write_70 : decode cX10_write 70 = .ok (.ireturn, 1) := by decide +kernel
theorem dX10_wipe_0 : decode cX10_wipe 0 = .ok (.aload_n 0, 1) := by decide +kernel
theorem dX10_wipe_1 : decode cX10_wipe 1 = .ok (.getfield 12, 3) := by decide +kernel
theorem dX10_wipe_4 : decode cX10_wipe 4 = .ok (.invokevirtual 86, 3) := by decide +kernel
theorem dX10_wipe_7 : decode cX10_wipe 7 = .ok (.istore_n 1, 1) := by decide +kernel
theorem dX10_wipe_8 : decode cX10_wipe 8 = .ok (.aload_n 0, 1) := by decide +kernel
theorem dX10_wipe_9 : decode cX10_wipe 9 = .ok (.getfield 12, 3) := by decide +kernel
theorem dX10_wipe_12 : decode cX10_wipe 12 = .ok (.invokevirtual 90, 3) := by decide +kernel
theorem dX10_wipe_15 : decode cX10_wipe 15 = .ok (.iload_n 1, 1) := by decide +kernel
theorem dX10_wipe_16 : decode cX10_wipe 16 = .ok (.ireturn, 1) := by decide +kernel
theorem dX10_fault_0 : decode cX10_fault 0 = .ok (.aload_n 0, 1) := by decide +kernel
theorem dX10_fault_1 : decode cX10_fault 1 = .ok (.getfield 19, 3) := by decide +kernel
theorem dX10_fault_4 : decode cX10_fault 4 = .ok (.aload_n 0, 1) := by decide +kernel
theorem dX10_fault_5 : decode cX10_fault 5 = .ok (.getfield 12, 3) := by decide +kernel
theorem dX10_fault_8 : decode cX10_fault 8 = .ok (.aload_n 0, 1) := by decide +kernel
theorem dX10_fault_9 : decode cX10_fault 9 = .ok (.getfield 26, 3) := by decide +kernel
theorem dX10_fault_12 : decode cX10_fault 12 = .ok (.invokevirtual 93, 3) := by decide +kernel
theorem dX10_fault_15 : decode cX10_fault 15 = .ok (.ireturn, 1) := by decide +kernel
theorem dX10_house_0 : decode cX10_house 0 = .ok (.aload_n 0, 1) := by decide +kernel
theorem dX10_house_1 : decode cX10_house 1 = .ok (.getfield 19, 3) := by decide +kernel
theorem dX10_house_4 : decode cX10_house 4 = .ok (.aload_n 0, 1) := by decide +kernel
theorem dX10_house_5 : decode cX10_house 5 = .ok (.getfield 12, 3) := by decide +kernel
theorem dX10_house_8 : decode cX10_house 8 = .ok (.aload_n 0, 1) := by decide +kernel
theorem dX10_house_9 : decode cX10_house 9 = .ok (.getfield 26, 3) := by decide +kernel
theorem dX10_house_12 : decode cX10_house 12 = .ok (.invokevirtual 93, 3) := by decide +kernel
theorem dX10_house_15 : decode cX10_house 15 = .ok (.bipush (-9), 2) := by decide +kernel
theorem dX10_house_17 : decode cX10_house 17 = .ok (.if_icmp .eq 6, 3) := by decide +kernel
theorem dX10_house_20 : decode cX10_house 20 = .ok (.bipush (-3), 2) := by decide +kernel
theorem dX10_house_22 : decode cX10_house 22 = .ok (.ireturn, 1) := by decide +kernel
theorem dX10_house_23 : decode cX10_house 23 = .ok (.aload_n 0, 1) := by decide +kernel
theorem dX10_house_24 : decode cX10_house 24 = .ok (.getfield 30, 3) := by decide +kernel
theorem dX10_house_27 : decode cX10_house 27 = .ok (.aload_n 0, 1) := by decide +kernel
theorem dX10_house_28 : decode cX10_house 28 = .ok (.getfield 26, 3) := by decide +kernel
theorem dX10_house_31 : decode cX10_house 31 = .ok (.invokevirtual 97, 3) := by decide +kernel
theorem dX10_house_34 : decode cX10_house 34 = .ok (.aload_n 0, 1) := by decide +kernel
theorem dX10_house_35 : decode cX10_house 35 = .ok (.iconst 0, 1) := by decide +kernel
theorem dX10_house_36 : decode cX10_house 36 = .ok (.putfield 72, 3) := by decide +kernel
theorem dX10_house_39 : decode cX10_house 39 = .ok (.aload_n 0, 1) := by decide +kernel
theorem dX10_house_40 : decode cX10_house 40 = .ok (.getfield 61, 3) := by decide +kernel
theorem dX10_house_43 : decode cX10_house 43 = .ok (.invokevirtual 101, 3) := by decide +kernel
theorem dX10_house_46 : decode cX10_house 46 = .ok (.aload_n 0, 1) := by decide +kernel
theorem dX10_house_47 : decode cX10_house 47 = .ok (.getfield 68, 3) := by decide +kernel
theorem dX10_house_50 : decode cX10_house 50 = .ok (.invokevirtual 102, 3) := by decide +kernel
theorem dX10_house_53 : decode cX10_house 53 = .ok (.aload_n 0, 1) := by decide +kernel
theorem dX10_house_54 : decode cX10_house 54 = .ok (.getfield 30, 3) := by decide +kernel
theorem dX10_house_57 : decode cX10_house 57 = .ok (.getfield 105, 3) := by decide +kernel
theorem dX10_house_60 : decode cX10_house 60 = .ok (.invokevirtual 108, 3) := by decide +kernel
theorem dX10_house_63 : decode cX10_house 63 = .ok (.ireturn, 1) := by decide +kernel
theorem dX10_about_0 : decode cX10_about 0 = .ok (.iload_n 1, 1) := by decide +kernel
theorem dX10_about_1 : decode cX10_about 1 = .ok (.tableswitch 156 0 9 #[55, 66, 77, 88, 102, 116, 124, 132, 140, 148], 55) := by decide +kernel
theorem dX10_about_56 : decode cX10_about 56 = .ok (.aload_n 0, 1) := by decide +kernel
theorem dX10_about_57 : decode cX10_about 57 = .ok (.getfield 30, 3) := by decide +kernel
theorem dX10_about_60 : decode cX10_about 60 = .ok (.getfield 105, 3) := by decide +kernel
theorem dX10_about_63 : decode cX10_about 63 = .ok (.getfield 111, 3) := by decide +kernel
theorem dX10_about_66 : decode cX10_about 66 = .ok (.ireturn, 1) := by decide +kernel
theorem dX10_about_67 : decode cX10_about 67 = .ok (.aload_n 0, 1) := by decide +kernel
theorem dX10_about_68 : decode cX10_about 68 = .ok (.getfield 30, 3) := by decide +kernel
theorem dX10_about_71 : decode cX10_about 71 = .ok (.getfield 105, 3) := by decide +kernel
theorem dX10_about_74 : decode cX10_about 74 = .ok (.getfield 115, 3) := by decide +kernel
theorem dX10_about_77 : decode cX10_about 77 = .ok (.ireturn, 1) := by decide +kernel
theorem dX10_about_78 : decode cX10_about 78 = .ok (.aload_n 0, 1) := by decide +kernel
theorem dX10_about_79 : decode cX10_about 79 = .ok (.getfield 30, 3) := by decide +kernel
theorem dX10_about_82 : decode cX10_about 82 = .ok (.getfield 105, 3) := by decide +kernel
theorem dX10_about_85 : decode cX10_about 85 = .ok (.getfield 118, 3) := by decide +kernel
theorem dX10_about_88 : decode cX10_about 88 = .ok (.ireturn, 1) := by decide +kernel
theorem dX10_about_89 : decode cX10_about 89 = .ok (.aload_n 0, 1) := by decide +kernel
theorem dX10_about_90 : decode cX10_about 90 = .ok (.getfield 30, 3) := by decide +kernel
theorem dX10_about_93 : decode cX10_about 93 = .ok (.getfield 121, 3) := by decide +kernel
theorem dX10_about_96 : decode cX10_about 96 = .ok (.invokestatic 124, 3) := by decide +kernel
theorem dX10_about_99 : decode cX10_about 99 = .ok (.invokestatic 130, 3) := by decide +kernel
theorem dX10_about_102 : decode cX10_about 102 = .ok (.ireturn, 1) := by decide +kernel
theorem dX10_about_103 : decode cX10_about 103 = .ok (.aload_n 0, 1) := by decide +kernel
theorem dX10_about_104 : decode cX10_about 104 = .ok (.getfield 30, 3) := by decide +kernel
theorem dX10_about_107 : decode cX10_about 107 = .ok (.getfield 121, 3) := by decide +kernel
theorem dX10_about_110 : decode cX10_about 110 = .ok (.invokestatic 135, 3) := by decide +kernel
theorem dX10_about_113 : decode cX10_about 113 = .ok (.invokestatic 130, 3) := by decide +kernel
theorem dX10_about_116 : decode cX10_about 116 = .ok (.ireturn, 1) := by decide +kernel
theorem dX10_about_117 : decode cX10_about 117 = .ok (.aload_n 0, 1) := by decide +kernel
theorem dX10_about_118 : decode cX10_about 118 = .ok (.getfield 30, 3) := by decide +kernel
theorem dX10_about_121 : decode cX10_about 121 = .ok (.invokevirtual 138, 3) := by decide +kernel
theorem dX10_about_124 : decode cX10_about 124 = .ok (.ireturn, 1) := by decide +kernel
theorem dX10_about_125 : decode cX10_about 125 = .ok (.aload_n 0, 1) := by decide +kernel
theorem dX10_about_126 : decode cX10_about 126 = .ok (.getfield 30, 3) := by decide +kernel
theorem dX10_about_129 : decode cX10_about 129 = .ok (.invokevirtual 141, 3) := by decide +kernel
theorem dX10_about_132 : decode cX10_about 132 = .ok (.ireturn, 1) := by decide +kernel
theorem dX10_about_133 : decode cX10_about 133 = .ok (.aload_n 0, 1) := by decide +kernel
theorem dX10_about_134 : decode cX10_about 134 = .ok (.getfield 30, 3) := by decide +kernel
theorem dX10_about_137 : decode cX10_about 137 = .ok (.invokevirtual 142, 3) := by decide +kernel
theorem dX10_about_140 : decode cX10_about 140 = .ok (.ireturn, 1) := by decide +kernel
theorem dX10_about_141 : decode cX10_about 141 = .ok (.aload_n 0, 1) := by decide +kernel
theorem dX10_about_142 : decode cX10_about 142 = .ok (.getfield 12, 3) := by decide +kernel
theorem dX10_about_145 : decode cX10_about 145 = .ok (.invokevirtual 86, 3) := by decide +kernel
theorem dX10_about_148 : decode cX10_about 148 = .ok (.ireturn, 1) := by decide +kernel
theorem dX10_about_149 : decode cX10_about 149 = .ok (.aload_n 0, 1) := by decide +kernel
theorem dX10_about_150 : decode cX10_about 150 = .ok (.getfield 61, 3) := by decide +kernel
theorem dX10_about_153 : decode cX10_about 153 = .ok (.invokevirtual 145, 3) := by decide +kernel
theorem dX10_about_156 : decode cX10_about 156 = .ok (.ireturn, 1) := by decide +kernel
theorem dX10_about_157 : decode cX10_about 157 = .ok (.bipush (-2), 2) := by decide +kernel
theorem dX10_about_159 : decode cX10_about 159 = .ok (.ireturn, 1) := by decide +kernel
theorem dX10_where_0 : decode cX10_where 0 = .ok (.aload_n 0, 1) := by decide +kernel
theorem dX10_where_1 : decode cX10_where 1 = .ok (.getfield 30, 3) := by decide +kernel
theorem dX10_where_4 : decode cX10_where 4 = .ok (.getfield 105, 3) := by decide +kernel
theorem dX10_where_7 : decode cX10_where 7 = .ok (.iload_n 1, 1) := by decide +kernel
theorem dX10_where_8 : decode cX10_where 8 = .ok (.invokevirtual 146, 3) := by decide +kernel
theorem dX10_where_11 : decode cX10_where 11 = .ok (.ifCond .eq 14, 3) := by decide +kernel
theorem dX10_where_14 : decode cX10_where 14 = .ok (.aload_n 0, 1) := by decide +kernel
theorem dX10_where_15 : decode cX10_where 15 = .ok (.getfield 30, 3) := by decide +kernel
theorem dX10_where_18 : decode cX10_where 18 = .ok (.iload_n 1, 1) := by decide +kernel
theorem dX10_where_19 : decode cX10_where 19 = .ok (.invokevirtual 149, 3) := by decide +kernel
theorem dX10_where_22 : decode cX10_where 22 = .ok (.goto 4, 3) := by decide +kernel
theorem dX10_where_25 : decode cX10_where 25 = .ok (.iconst (-1), 1) := by decide +kernel
theorem dX10_where_26 : decode cX10_where 26 = .ok (.ireturn, 1) := by decide +kernel
theorem dX10_wants_0 : decode cX10_wants 0 = .ok (.aload_n 0, 1) := by decide +kernel
theorem dX10_wants_1 : decode cX10_wants 1 = .ok (.getfield 30, 3) := by decide +kernel
theorem dX10_wants_4 : decode cX10_wants 4 = .ok (.getfield 105, 3) := by decide +kernel
theorem dX10_wants_7 : decode cX10_wants 7 = .ok (.iload_n 1, 1) := by decide +kernel
theorem dX10_wants_8 : decode cX10_wants 8 = .ok (.invokevirtual 146, 3) := by decide +kernel
theorem dX10_wants_11 : decode cX10_wants 11 = .ok (.ifCond .ne 5, 3) := by decide +kernel
theorem dX10_wants_14 : decode cX10_wants 14 = .ok (.iconst (-1), 1) := by decide +kernel
theorem dX10_wants_15 : decode cX10_wants 15 = .ok (.ireturn, 1) := by decide +kernel
theorem dX10_wants_16 : decode cX10_wants 16 = .ok (.iload_n 1, 1) := by decide +kernel
theorem dX10_wants_17 : decode cX10_wants 17 = .ok (.iconst 4, 1) := by decide +kernel
theorem dX10_wants_18 : decode cX10_wants 18 = .ok (.if_icmp .ge 17, 3) := by decide +kernel
theorem dX10_wants_21 : decode cX10_wants 21 = .ok (.aload_n 0, 1) := by decide +kernel
theorem dX10_wants_22 : decode cX10_wants 22 = .ok (.getfield 30, 3) := by decide +kernel
theorem dX10_wants_25 : decode cX10_wants 25 = .ok (.getfield 105, 3) := by decide +kernel
theorem dX10_wants_28 : decode cX10_wants 28 = .ok (.iload_n 1, 1) := by decide +kernel
theorem dX10_wants_29 : decode cX10_wants 29 = .ok (.invokevirtual 152, 3) := by decide +kernel
theorem dX10_wants_32 : decode cX10_wants 32 = .ok (.goto 5, 3) := by decide +kernel
theorem dX10_wants_35 : decode cX10_wants 35 = .ok (.bipush (-9), 2) := by decide +kernel
theorem dX10_wants_37 : decode cX10_wants 37 = .ok (.ireturn, 1) := by decide +kernel
theorem dX10_may_0 : decode cX10_may 0 = .ok (.aload_n 0, 1) := by decide +kernel
theorem dX10_may_1 : decode cX10_may 1 = .ok (.getfield 30, 3) := by decide +kernel
theorem dX10_may_4 : decode cX10_may 4 = .ok (.getfield 105, 3) := by decide +kernel
theorem dX10_may_7 : decode cX10_may 7 = .ok (.iload_n 1, 1) := by decide +kernel
theorem dX10_may_8 : decode cX10_may 8 = .ok (.invokevirtual 155, 3) := by decide +kernel
theorem dX10_may_11 : decode cX10_may 11 = .ok (.ifCond .ne 5, 3) := by decide +kernel
theorem dX10_may_14 : decode cX10_may 14 = .ok (.iconst (-1), 1) := by decide +kernel
theorem dX10_may_15 : decode cX10_may 15 = .ok (.ireturn, 1) := by decide +kernel
theorem dX10_may_16 : decode cX10_may 16 = .ok (.iload_n 2, 1) := by decide +kernel
theorem dX10_may_17 : decode cX10_may 17 = .ok (.ifCond .eq 14, 3) := by decide +kernel
theorem dX10_may_20 : decode cX10_may 20 = .ok (.aload_n 0, 1) := by decide +kernel
theorem dX10_may_21 : decode cX10_may 21 = .ok (.getfield 30, 3) := by decide +kernel
theorem dX10_may_24 : decode cX10_may 24 = .ok (.iload_n 1, 1) := by decide +kernel
theorem dX10_may_25 : decode cX10_may 25 = .ok (.invokevirtual 158, 3) := by decide +kernel
theorem dX10_may_28 : decode cX10_may 28 = .ok (.goto 11, 3) := by decide +kernel
theorem dX10_may_31 : decode cX10_may 31 = .ok (.aload_n 0, 1) := by decide +kernel
theorem dX10_may_32 : decode cX10_may 32 = .ok (.getfield 30, 3) := by decide +kernel
theorem dX10_may_35 : decode cX10_may 35 = .ok (.iload_n 1, 1) := by decide +kernel
theorem dX10_may_36 : decode cX10_may 36 = .ok (.invokevirtual 161, 3) := by decide +kernel
theorem dX10_may_39 : decode cX10_may 39 = .ok (.ireturn, 1) := by decide +kernel
theorem dX10_choices_0 : decode cX10_choices 0 = .ok (.aload_n 0, 1) := by decide +kernel
theorem dX10_choices_1 : decode cX10_choices 1 = .ok (.getfield 30, 3) := by decide +kernel
theorem dX10_choices_4 : decode cX10_choices 4 = .ok (.getfield 105, 3) := by decide +kernel
theorem dX10_choices_7 : decode cX10_choices 7 = .ok (.iload_n 1, 1) := by decide +kernel
theorem dX10_choices_8 : decode cX10_choices 8 = .ok (.invokevirtual 155, 3) := by decide +kernel
theorem dX10_choices_11 : decode cX10_choices 11 = .ok (.ifCond .ne 5, 3) := by decide +kernel
theorem dX10_choices_14 : decode cX10_choices 14 = .ok (.iconst (-1), 1) := by decide +kernel
theorem dX10_choices_15 : decode cX10_choices 15 = .ok (.ireturn, 1) := by decide +kernel
theorem dX10_choices_16 : decode cX10_choices 16 = .ok (.iconst 0, 1) := by decide +kernel
theorem dX10_choices_17 : decode cX10_choices 17 = .ok (.istore_n 2, 1) := by decide +kernel
theorem dX10_choices_18 : decode cX10_choices 18 = .ok (.aload_n 0, 1) := by decide +kernel
theorem dX10_choices_19 : decode cX10_choices 19 = .ok (.getfield 47, 3) := by decide +kernel
theorem dX10_choices_22 : decode cX10_choices 22 = .ok (.aload_n 0, 1) := by decide +kernel
theorem dX10_choices_23 : decode cX10_choices 23 = .ok (.getfield 30, 3) := by decide +kernel
theorem dX10_choices_26 : decode cX10_choices 26 = .ok (.iload_n 1, 1) := by decide +kernel
theorem dX10_choices_27 : decode cX10_choices 27 = .ok (.invokevirtual 158, 3) := by decide +kernel
theorem dX10_choices_30 : decode cX10_choices 30 = .ok (.aload_n 0, 1) := by decide +kernel
theorem dX10_choices_31 : decode cX10_choices 31 = .ok (.getfield 30, 3) := by decide +kernel
theorem dX10_choices_34 : decode cX10_choices 34 = .ok (.iload_n 1, 1) := by decide +kernel
theorem dX10_choices_35 : decode cX10_choices 35 = .ok (.invokevirtual 161, 3) := by decide +kernel
theorem dX10_choices_38 : decode cX10_choices 38 = .ok (.invokevirtual 164, 3) := by decide +kernel
theorem dX10_choices_41 : decode cX10_choices 41 = .ok (.iload_n 2, 1) := by decide +kernel
theorem dX10_choices_42 : decode cX10_choices 42 = .ok (.bipush 64, 2) := by decide +kernel
theorem dX10_choices_44 : decode cX10_choices 44 = .ok (.if_icmp .ge 19, 3) := by decide +kernel
theorem dX10_choices_47 : decode cX10_choices 47 = .ok (.aload_n 0, 1) := by decide +kernel
theorem dX10_choices_48 : decode cX10_choices 48 = .ok (.getfield 47, 3) := by decide +kernel
theorem dX10_choices_51 : decode cX10_choices 51 = .ok (.invokevirtual 168, 3) := by decide +kernel
theorem dX10_choices_54 : decode cX10_choices 54 = .ok (.ifCond .eq 9, 3) := by decide +kernel
theorem dX10_choices_57 : decode cX10_choices 57 = .ok (.iinc 2 1, 3) := by decide +kernel
theorem dX10_choices_60 : decode cX10_choices 60 = .ok (.goto (-19), 3) := by decide +kernel
theorem dX10_choices_63 : decode cX10_choices 63 = .ok (.iload_n 2, 1) := by decide +kernel
theorem dX10_choices_64 : decode cX10_choices 64 = .ok (.ireturn, 1) := by decide +kernel
theorem dX10_halt_0 : decode cX10_halt 0 = .ok (.aload_n 0, 1) := by decide +kernel
theorem dX10_halt_1 : decode cX10_halt 1 = .ok (.getfield 30, 3) := by decide +kernel
theorem dX10_halt_4 : decode cX10_halt 4 = .ok (.getfield 105, 3) := by decide +kernel
theorem dX10_halt_7 : decode cX10_halt 7 = .ok (.iload_n 1, 1) := by decide +kernel
theorem dX10_halt_8 : decode cX10_halt 8 = .ok (.invokevirtual 155, 3) := by decide +kernel
theorem dX10_halt_11 : decode cX10_halt 11 = .ok (.ifCond .ne 5, 3) := by decide +kernel
theorem dX10_halt_14 : decode cX10_halt 14 = .ok (.iconst (-1), 1) := by decide +kernel
theorem dX10_halt_15 : decode cX10_halt 15 = .ok (.ireturn, 1) := by decide +kernel
theorem dX10_halt_16 : decode cX10_halt 16 = .ok (.aload_n 0, 1) := by decide +kernel
theorem dX10_halt_17 : decode cX10_halt 17 = .ok (.getfield 30, 3) := by decide +kernel
theorem dX10_halt_20 : decode cX10_halt 20 = .ok (.iload_n 1, 1) := by decide +kernel
theorem dX10_halt_21 : decode cX10_halt 21 = .ok (.iload_n 2, 1) := by decide +kernel
theorem dX10_halt_22 : decode cX10_halt 22 = .ok (.iload_n 3, 1) := by decide +kernel
theorem dX10_halt_23 : decode cX10_halt 23 = .ok (.invokevirtual 172, 3) := by decide +kernel
theorem dX10_halt_26 : decode cX10_halt 26 = .ok (.ifCond .ne 6, 3) := by decide +kernel
theorem dX10_halt_29 : decode cX10_halt 29 = .ok (.bipush (-2), 2) := by decide +kernel
theorem dX10_halt_31 : decode cX10_halt 31 = .ok (.ireturn, 1) := by decide +kernel
theorem dX10_halt_32 : decode cX10_halt 32 = .ok (.aload_n 0, 1) := by decide +kernel
theorem dX10_halt_33 : decode cX10_halt 33 = .ok (.getfield 30, 3) := by decide +kernel
theorem dX10_halt_36 : decode cX10_halt 36 = .ok (.invokevirtual 176, 3) := by decide +kernel
theorem dX10_halt_39 : decode cX10_halt 39 = .ok (.ifCond .eq 6, 3) := by decide +kernel
theorem dX10_halt_42 : decode cX10_halt 42 = .ok (.bipush (-4), 2) := by decide +kernel
theorem dX10_halt_44 : decode cX10_halt 44 = .ok (.ireturn, 1) := by decide +kernel
theorem dX10_halt_45 : decode cX10_halt 45 = .ok (.aload_n 0, 1) := by decide +kernel
theorem dX10_halt_46 : decode cX10_halt 46 = .ok (.iload_n 1, 1) := by decide +kernel
theorem dX10_halt_47 : decode cX10_halt 47 = .ok (.iload_n 2, 1) := by decide +kernel
theorem dX10_halt_48 : decode cX10_halt 48 = .ok (.iload_n 3, 1) := by decide +kernel
theorem dX10_halt_49 : decode cX10_halt 49 = .ok (.invokevirtual 179, 3) := by decide +kernel
theorem dX10_halt_52 : decode cX10_halt 52 = .ok (.iload_n 2, 1) := by decide +kernel
theorem dX10_halt_53 : decode cX10_halt 53 = .ok (.invokestatic 130, 3) := by decide +kernel
theorem dX10_halt_56 : decode cX10_halt 56 = .ok (.ireturn, 1) := by decide +kernel
theorem dX10_makeHalt_0 : decode cX10_makeHalt 0 = .ok (.aload_n 0, 1) := by decide +kernel
theorem dX10_makeHalt_1 : decode cX10_makeHalt 1 = .ok (.getfield 30, 3) := by decide +kernel
theorem dX10_makeHalt_4 : decode cX10_makeHalt 4 = .ok (.iload_n 1, 1) := by decide +kernel
theorem dX10_makeHalt_5 : decode cX10_makeHalt 5 = .ok (.iload_n 2, 1) := by decide +kernel
theorem dX10_makeHalt_6 : decode cX10_makeHalt 6 = .ok (.iload_n 3, 1) := by decide +kernel
theorem dX10_makeHalt_7 : decode cX10_makeHalt 7 = .ok (.invokevirtual 183, 3) := by decide +kernel
theorem dX10_makeHalt_10 : decode cX10_makeHalt 10 = .ok (.aload_n 0, 1) := by decide +kernel
theorem dX10_makeHalt_11 : decode cX10_makeHalt 11 = .ok (.iconst 0, 1) := by decide +kernel
theorem dX10_makeHalt_12 : decode cX10_makeHalt 12 = .ok (.putfield 72, 3) := by decide +kernel
theorem dX10_makeHalt_15 : decode cX10_makeHalt 15 = .ok (.return_, 1) := by decide +kernel
theorem dX10_back_0 : decode cX10_back 0 = .ok (.aload_n 0, 1) := by decide +kernel
theorem dX10_back_1 : decode cX10_back 1 = .ok (.getfield 30, 3) := by decide +kernel
theorem dX10_back_4 : decode cX10_back 4 = .ok (.invokevirtual 141, 3) := by decide +kernel
theorem dX10_back_7 : decode cX10_back 7 = .ok (.ifCond .ne 6, 3) := by decide +kernel
theorem dX10_back_10 : decode cX10_back 10 = .ok (.bipush (-3), 2) := by decide +kernel
theorem dX10_back_12 : decode cX10_back 12 = .ok (.ireturn, 1) := by decide +kernel
theorem dX10_back_13 : decode cX10_back 13 = .ok (.aload_n 0, 1) := by decide +kernel
theorem dX10_back_14 : decode cX10_back 14 = .ok (.getfield 30, 3) := by decide +kernel
theorem dX10_back_17 : decode cX10_back 17 = .ok (.invokevirtual 186, 3) := by decide +kernel
theorem dX10_back_20 : decode cX10_back 20 = .ok (.aload_n 0, 1) := by decide +kernel
theorem dX10_back_21 : decode cX10_back 21 = .ok (.iconst 0, 1) := by decide +kernel
theorem dX10_back_22 : decode cX10_back 22 = .ok (.putfield 72, 3) := by decide +kernel
theorem dX10_back_25 : decode cX10_back 25 = .ok (.aload_n 0, 1) := by decide +kernel
theorem dX10_back_26 : decode cX10_back 26 = .ok (.getfield 30, 3) := by decide +kernel
theorem dX10_back_29 : decode cX10_back 29 = .ok (.invokevirtual 141, 3) := by decide +kernel
theorem dX10_back_32 : decode cX10_back 32 = .ok (.ireturn, 1) := by decide +kernel
theorem dX10_made_0 : decode cX10_made 0 = .ok (.iload_n 2, 1) := by decide +kernel
theorem dX10_made_1 : decode cX10_made 1 = .ok (.invokestatic 189, 3) := by decide +kernel
theorem dX10_made_4 : decode cX10_made 4 = .ok (.ifCond .ne 6, 3) := by decide +kernel
theorem dX10_made_7 : decode cX10_made 7 = .ok (.bipush (-2), 2) := by decide +kernel
theorem dX10_made_9 : decode cX10_made 9 = .ok (.ireturn, 1) := by decide +kernel
theorem dX10_made_10 : decode cX10_made 10 = .ok (.iload_n 1, 1) := by decide +kernel
theorem dX10_made_11 : decode cX10_made 11 = .ok (.ifCond .lt 29, 3) := by decide +kernel
theorem dX10_made_14 : decode cX10_made 14 = .ok (.iload_n 1, 1) := by decide +kernel
theorem dX10_made_15 : decode cX10_made 15 = .ok (.aload_n 0, 1) := by decide +kernel
theorem dX10_made_16 : decode cX10_made 16 = .ok (.getfield 30, 3) := by decide +kernel
theorem dX10_made_19 : decode cX10_made 19 = .ok (.invokevirtual 141, 3) := by decide +kernel
theorem dX10_made_22 : decode cX10_made 22 = .ok (.if_icmp .ge 18, 3) := by decide +kernel
theorem dX10_made_25 : decode cX10_made 25 = .ok (.aload_n 0, 1) := by decide +kernel
theorem dX10_made_26 : decode cX10_made 26 = .ok (.getfield 30, 3) := by decide +kernel
theorem dX10_made_29 : decode cX10_made 29 = .ok (.iload_n 1, 1) := by decide +kernel
theorem dX10_made_30 : decode cX10_made 30 = .ok (.invokevirtual 194, 3) := by decide +kernel
theorem dX10_made_33 : decode cX10_made 33 = .ok (.iload_n 2, 1) := by decide +kernel
theorem dX10_made_34 : decode cX10_made 34 = .ok (.invokestatic 197, 3) := by decide +kernel
theorem dX10_made_37 : decode cX10_made 37 = .ok (.goto 5, 3) := by decide +kernel
theorem dX10_made_40 : decode cX10_made 40 = .ok (.bipush (-9), 2) := by decide +kernel
theorem dX10_made_42 : decode cX10_made 42 = .ok (.ireturn, 1) := by decide +kernel
theorem dX10_reached_0 : decode cX10_reached 0 = .ok (.aload_n 0, 1) := by decide +kernel
theorem dX10_reached_1 : decode cX10_reached 1 = .ok (.invokevirtual 201, 3) := by decide +kernel
theorem dX10_reached_4 : decode cX10_reached 4 = .ok (.aload_n 0, 1) := by decide +kernel
theorem dX10_reached_5 : decode cX10_reached 5 = .ok (.getfield 40, 3) := by decide +kernel
theorem dX10_reached_8 : decode cX10_reached 8 = .ok (.invokevirtual 204, 3) := by decide +kernel
theorem dX10_reached_11 : decode cX10_reached 11 = .ok (.ireturn, 1) := by decide +kernel
theorem dX10_fewest_0 : decode cX10_fewest 0 = .ok (.aload_n 0, 1) := by decide +kernel
theorem dX10_fewest_1 : decode cX10_fewest 1 = .ok (.getfield 30, 3) := by decide +kernel
theorem dX10_fewest_4 : decode cX10_fewest 4 = .ok (.getfield 105, 3) := by decide +kernel
theorem dX10_fewest_7 : decode cX10_fewest 7 = .ok (.iload_n 1, 1) := by decide +kernel
theorem dX10_fewest_8 : decode cX10_fewest 8 = .ok (.invokevirtual 205, 3) := by decide +kernel
theorem dX10_fewest_11 : decode cX10_fewest 11 = .ok (.ifCond .ne 6, 3) := by decide +kernel
theorem dX10_fewest_14 : decode cX10_fewest 14 = .ok (.bipush (-2), 2) := by decide +kernel
theorem dX10_fewest_16 : decode cX10_fewest 16 = .ok (.ireturn, 1) := by decide +kernel
theorem dX10_fewest_17 : decode cX10_fewest 17 = .ok (.aload_n 0, 1) := by decide +kernel
theorem dX10_fewest_18 : decode cX10_fewest 18 = .ok (.invokevirtual 201, 3) := by decide +kernel
theorem dX10_fewest_21 : decode cX10_fewest 21 = .ok (.aload_n 0, 1) := by decide +kernel
theorem dX10_fewest_22 : decode cX10_fewest 22 = .ok (.getfield 40, 3) := by decide +kernel
theorem dX10_fewest_25 : decode cX10_fewest 25 = .ok (.aload_n 0, 1) := by decide +kernel
theorem dX10_fewest_26 : decode cX10_fewest 26 = .ok (.getfield 40, 3) := by decide +kernel
theorem dX10_fewest_29 : decode cX10_fewest 29 = .ok (.iload_n 1, 1) := by decide +kernel
theorem dX10_fewest_30 : decode cX10_fewest 30 = .ok (.invokevirtual 208, 3) := by decide +kernel
theorem dX10_fewest_33 : decode cX10_fewest 33 = .ok (.invokevirtual 211, 3) := by decide +kernel
theorem dX10_fewest_36 : decode cX10_fewest 36 = .ok (.ireturn, 1) := by decide +kernel
theorem dX10_plan_0 : decode cX10_plan 0 = .ok (.aload_n 0, 1) := by decide +kernel
theorem dX10_plan_1 : decode cX10_plan 1 = .ok (.getfield 30, 3) := by decide +kernel
theorem dX10_plan_4 : decode cX10_plan 4 = .ok (.getfield 105, 3) := by decide +kernel
theorem dX10_plan_7 : decode cX10_plan 7 = .ok (.iload_n 1, 1) := by decide +kernel
theorem dX10_plan_8 : decode cX10_plan 8 = .ok (.invokevirtual 205, 3) := by decide +kernel
theorem dX10_plan_11 : decode cX10_plan 11 = .ok (.ifCond .eq 10, 3) := by decide +kernel
theorem dX10_plan_14 : decode cX10_plan 14 = .ok (.iload_n 3, 1) := by decide +kernel
theorem dX10_plan_15 : decode cX10_plan 15 = .ok (.invokestatic 189, 3) := by decide +kernel
theorem dX10_plan_18 : decode cX10_plan 18 = .ok (.ifCond .ne 6, 3) := by decide +kernel
theorem dX10_plan_21 : decode cX10_plan 21 = .ok (.bipush (-2), 2) := by decide +kernel
theorem dX10_plan_23 : decode cX10_plan 23 = .ok (.ireturn, 1) := by decide +kernel
theorem dX10_plan_24 : decode cX10_plan 24 = .ok (.aload_n 0, 1) := by decide +kernel
theorem dX10_plan_25 : decode cX10_plan 25 = .ok (.invokevirtual 201, 3) := by decide +kernel
theorem dX10_plan_28 : decode cX10_plan 28 = .ok (.aload_n 0, 1) := by decide +kernel
theorem dX10_plan_29 : decode cX10_plan 29 = .ok (.getfield 40, 3) := by decide +kernel
theorem dX10_plan_32 : decode cX10_plan 32 = .ok (.aload_n 0, 1) := by decide +kernel
theorem dX10_plan_33 : decode cX10_plan 33 = .ok (.getfield 40, 3) := by decide +kernel
theorem dX10_plan_36 : decode cX10_plan 36 = .ok (.iload_n 1, 1) := by decide +kernel
theorem dX10_plan_37 : decode cX10_plan 37 = .ok (.invokevirtual 208, 3) := by decide +kernel
theorem dX10_plan_40 : decode cX10_plan 40 = .ok (.iload_n 2, 1) := by decide +kernel
theorem dX10_plan_41 : decode cX10_plan 41 = .ok (.invokevirtual 214, 3) := by decide +kernel
theorem dX10_plan_44 : decode cX10_plan 44 = .ok (.istore 4, 2) := by decide +kernel
theorem dX10_plan_46 : decode cX10_plan 46 = .ok (.iload 4, 2) := by decide +kernel
theorem dX10_plan_48 : decode cX10_plan 48 = .ok (.bipush (-9), 2) := by decide +kernel
theorem dX10_plan_50 : decode cX10_plan 50 = .ok (.if_icmp .ne 8, 3) := by decide +kernel
theorem dX10_plan_53 : decode cX10_plan 53 = .ok (.bipush (-9), 2) := by decide +kernel
theorem dX10_plan_55 : decode cX10_plan 55 = .ok (.goto 9, 3) := by decide +kernel
theorem dX10_plan_58 : decode cX10_plan 58 = .ok (.iload 4, 2) := by decide +kernel
theorem dX10_plan_60 : decode cX10_plan 60 = .ok (.iload_n 3, 1) := by decide +kernel
theorem dX10_plan_61 : decode cX10_plan 61 = .ok (.invokestatic 197, 3) := by decide +kernel
theorem dX10_plan_64 : decode cX10_plan 64 = .ok (.ireturn, 1) := by decide +kernel
theorem dX10_never_0 : decode cX10_never 0 = .ok (.aload_n 0, 1) := by decide +kernel
theorem dX10_never_1 : decode cX10_never 1 = .ok (.invokevirtual 201, 3) := by decide +kernel
theorem dX10_never_4 : decode cX10_never 4 = .ok (.aload_n 0, 1) := by decide +kernel
theorem dX10_never_5 : decode cX10_never 5 = .ok (.getfield 30, 3) := by decide +kernel
theorem dX10_never_8 : decode cX10_never 8 = .ok (.getfield 105, 3) := by decide +kernel
theorem dX10_never_11 : decode cX10_never 11 = .ok (.invokevirtual 217, 3) := by decide +kernel
theorem dX10_never_14 : decode cX10_never 14 = .ok (.aload_n 0, 1) := by decide +kernel
theorem dX10_never_15 : decode cX10_never 15 = .ok (.getfield 40, 3) := by decide +kernel
theorem dX10_never_18 : decode cX10_never 18 = .ok (.invokevirtual 220, 3) := by decide +kernel
theorem dX10_never_21 : decode cX10_never 21 = .ok (.iconst (-1), 1) := by decide +kernel
theorem dX10_never_22 : decode cX10_never 22 = .ok (.ixor, 1) := by decide +kernel
theorem dX10_never_23 : decode cX10_never 23 = .ok (.iand, 1) := by decide +kernel
theorem dX10_never_24 : decode cX10_never 24 = .ok (.ireturn, 1) := by decide +kernel
theorem dX10_searchAll_0 : decode cX10_searchAll 0 = .ok (.aload_n 0, 1) := by decide +kernel
theorem dX10_searchAll_1 : decode cX10_searchAll 1 = .ok (.getfield 72, 3) := by decide +kernel
theorem dX10_searchAll_4 : decode cX10_searchAll 4 = .ok (.ifCond .ne 31, 3) := by decide +kernel
theorem dX10_searchAll_7 : decode cX10_searchAll 7 = .ok (.aload_n 0, 1) := by decide +kernel
theorem dX10_searchAll_8 : decode cX10_searchAll 8 = .ok (.getfield 40, 3) := by decide +kernel
theorem dX10_searchAll_11 : decode cX10_searchAll 11 = .ok (.aload_n 0, 1) := by decide +kernel
theorem dX10_searchAll_12 : decode cX10_searchAll 12 = .ok (.getfield 30, 3) := by decide +kernel
theorem dX10_searchAll_15 : decode cX10_searchAll 15 = .ok (.getfield 105, 3) := by decide +kernel
theorem dX10_searchAll_18 : decode cX10_searchAll 18 = .ok (.aload_n 0, 1) := by decide +kernel
theorem dX10_searchAll_19 : decode cX10_searchAll 19 = .ok (.getfield 30, 3) := by decide +kernel
theorem dX10_searchAll_22 : decode cX10_searchAll 22 = .ok (.getfield 121, 3) := by decide +kernel
theorem dX10_searchAll_25 : decode cX10_searchAll 25 = .ok (.bipush 16, 2) := by decide +kernel
theorem dX10_searchAll_27 : decode cX10_searchAll 27 = .ok (.invokevirtual 223, 3) := by decide +kernel
theorem dX10_searchAll_30 : decode cX10_searchAll 30 = .ok (.aload_n 0, 1) := by decide +kernel
theorem dX10_searchAll_31 : decode cX10_searchAll 31 = .ok (.iconst 1, 1) := by decide +kernel
theorem dX10_searchAll_32 : decode cX10_searchAll 32 = .ok (.putfield 72, 3) := by decide +kernel
theorem dX10_searchAll_35 : decode cX10_searchAll 35 = .ok (.return_, 1) := by decide +kernel
theorem dX10_hire_0 : decode cX10_hire 0 = .ok (.aload_n 0, 1) := by decide +kernel
theorem dX10_hire_1 : decode cX10_hire 1 = .ok (.invokevirtual 201, 3) := by decide +kernel
theorem dX10_hire_4 : decode cX10_hire 4 = .ok (.aload_n 0, 1) := by decide +kernel
theorem dX10_hire_5 : decode cX10_hire 5 = .ok (.getfield 40, 3) := by decide +kernel
theorem dX10_hire_8 : decode cX10_hire 8 = .ok (.aload_n 0, 1) := by decide +kernel
theorem dX10_hire_9 : decode cX10_hire 9 = .ok (.getfield 30, 3) := by decide +kernel
theorem dX10_hire_12 : decode cX10_hire 12 = .ok (.getfield 105, 3) := by decide +kernel
theorem dX10_hire_15 : decode cX10_hire 15 = .ok (.invokevirtual 217, 3) := by decide +kernel
theorem dX10_hire_18 : decode cX10_hire 18 = .ok (.invokevirtual 208, 3) := by decide +kernel
theorem dX10_hire_21 : decode cX10_hire 21 = .ok (.bipush (-9), 2) := by decide +kernel
theorem dX10_hire_23 : decode cX10_hire 23 = .ok (.if_icmp .eq 5, 3) := by decide +kernel
theorem dX10_hire_26 : decode cX10_hire 26 = .ok (.iconst 0, 1) := by decide +kernel
theorem dX10_hire_27 : decode cX10_hire 27 = .ok (.ireturn, 1) := by decide +kernel
theorem dX10_hire_28 : decode cX10_hire 28 = .ok (.aload_n 0, 1) := by decide +kernel
theorem dX10_hire_29 : decode cX10_hire 29 = .ok (.getfield 30, 3) := by decide +kernel
theorem dX10_hire_32 : decode cX10_hire 32 = .ok (.getfield 105, 3) := by decide +kernel
theorem dX10_hire_35 : decode cX10_hire 35 = .ok (.getfield 118, 3) := by decide +kernel
theorem dX10_hire_38 : decode cX10_hire 38 = .ok (.istore_n 1, 1) := by decide +kernel
theorem dX10_hire_39 : decode cX10_hire 39 = .ok (.iload_n 1, 1) := by decide +kernel
theorem dX10_hire_40 : decode cX10_hire 40 = .ok (.iconst 2, 1) := by decide +kernel
theorem dX10_hire_41 : decode cX10_hire 41 = .ok (.if_icmp .ge 19, 3) := by decide +kernel
theorem dX10_hire_44 : decode cX10_hire 44 = .ok (.aload_n 0, 1) := by decide +kernel
theorem dX10_hire_45 : decode cX10_hire 45 = .ok (.aload_n 0, 1) := by decide +kernel
theorem dX10_hire_46 : decode cX10_hire 46 = .ok (.getfield 30, 3) := by decide +kernel
theorem dX10_hire_49 : decode cX10_hire 49 = .ok (.getfield 121, 3) := by decide +kernel
theorem dX10_hire_52 : decode cX10_hire 52 = .ok (.iload_n 1, 1) := by decide +kernel
theorem dX10_hire_53 : decode cX10_hire 53 = .ok (.iconst 0, 1) := by decide +kernel
theorem dX10_hire_54 : decode cX10_hire 54 = .ok (.invokevirtual 227, 3) := by decide +kernel
theorem dX10_hire_57 : decode cX10_hire 57 = .ok (.goto 5, 3) := by decide +kernel
theorem dX10_hire_60 : decode cX10_hire 60 = .ok (.bipush (-9), 2) := by decide +kernel
theorem dX10_hire_62 : decode cX10_hire 62 = .ok (.istore_n 2, 1) := by decide +kernel
theorem dX10_hire_63 : decode cX10_hire 63 = .ok (.iload_n 2, 1) := by decide +kernel
theorem dX10_hire_64 : decode cX10_hire 64 = .ok (.bipush (-9), 2) := by decide +kernel
theorem dX10_hire_66 : decode cX10_hire 66 = .ok (.if_icmp .eq 8, 3) := by decide +kernel
theorem dX10_hire_69 : decode cX10_hire 69 = .ok (.bipush 10, 2) := by decide +kernel
theorem dX10_hire_71 : decode cX10_hire 71 = .ok (.iload_n 2, 1) := by decide +kernel
theorem dX10_hire_72 : decode cX10_hire 72 = .ok (.iadd, 1) := by decide +kernel
theorem dX10_hire_73 : decode cX10_hire 73 = .ok (.ireturn, 1) := by decide +kernel
theorem dX10_hire_74 : decode cX10_hire 74 = .ok (.iload_n 1, 1) := by decide +kernel
theorem dX10_hire_75 : decode cX10_hire 75 = .ok (.ifCond .ne 10, 3) := by decide +kernel
theorem dX10_hire_78 : decode cX10_hire 78 = .ok (.aload_n 0, 1) := by decide +kernel
theorem dX10_hire_79 : decode cX10_hire 79 = .ok (.invokevirtual 231, 3) := by decide +kernel
theorem dX10_hire_82 : decode cX10_hire 82 = .ok (.goto 5, 3) := by decide +kernel
theorem dX10_hire_85 : decode cX10_hire 85 = .ok (.bipush (-9), 2) := by decide +kernel
theorem dX10_hire_87 : decode cX10_hire 87 = .ok (.ireturn, 1) := by decide +kernel
theorem dX10_hireTwo_0 : decode cX10_hireTwo 0 = .ok (.iconst 0, 1) := by decide +kernel
theorem dX10_hireTwo_1 : decode cX10_hireTwo 1 = .ok (.istore_n 1, 1) := by decide +kernel
theorem dX10_hireTwo_2 : decode cX10_hireTwo 2 = .ok (.iload_n 1, 1) := by decide +kernel
theorem dX10_hireTwo_3 : decode cX10_hireTwo 3 = .ok (.aload_n 0, 1) := by decide +kernel
theorem dX10_hireTwo_4 : decode cX10_hireTwo 4 = .ok (.getfield 30, 3) := by decide +kernel
theorem dX10_hireTwo_7 : decode cX10_hireTwo 7 = .ok (.getfield 105, 3) := by decide +kernel
theorem dX10_hireTwo_10 : decode cX10_hireTwo 10 = .ok (.getfield 111, 3) := by decide +kernel
theorem dX10_hireTwo_13 : decode cX10_hireTwo 13 = .ok (.if_icmp .ge 47, 3) := by decide +kernel
theorem dX10_hireTwo_16 : decode cX10_hireTwo 16 = .ok (.aload_n 0, 1) := by decide +kernel
theorem dX10_hireTwo_17 : decode cX10_hireTwo 17 = .ok (.getfield 30, 3) := by decide +kernel
theorem dX10_hireTwo_20 : decode cX10_hireTwo 20 = .ok (.getfield 121, 3) := by decide +kernel
theorem dX10_hireTwo_23 : decode cX10_hireTwo 23 = .ok (.bipush 16, 2) := by decide +kernel
theorem dX10_hireTwo_25 : decode cX10_hireTwo 25 = .ok (.iload_n 1, 1) := by decide +kernel
theorem dX10_hireTwo_26 : decode cX10_hireTwo 26 = .ok (.invokestatic 234, 3) := by decide +kernel
theorem dX10_hireTwo_29 : decode cX10_hireTwo 29 = .ok (.istore_n 2, 1) := by decide +kernel
theorem dX10_hireTwo_30 : decode cX10_hireTwo 30 = .ok (.aload_n 0, 1) := by decide +kernel
theorem dX10_hireTwo_31 : decode cX10_hireTwo 31 = .ok (.iload_n 2, 1) := by decide +kernel
theorem dX10_hireTwo_32 : decode cX10_hireTwo 32 = .ok (.iconst 1, 1) := by decide +kernel
theorem dX10_hireTwo_33 : decode cX10_hireTwo 33 = .ok (.iload_n 1, 1) := by decide +kernel
theorem dX10_hireTwo_34 : decode cX10_hireTwo 34 = .ok (.invokevirtual 227, 3) := by decide +kernel
theorem dX10_hireTwo_37 : decode cX10_hireTwo 37 = .ok (.istore_n 3, 1) := by decide +kernel
theorem dX10_hireTwo_38 : decode cX10_hireTwo 38 = .ok (.iload_n 3, 1) := by decide +kernel
theorem dX10_hireTwo_39 : decode cX10_hireTwo 39 = .ok (.bipush (-9), 2) := by decide +kernel
theorem dX10_hireTwo_41 : decode cX10_hireTwo 41 = .ok (.if_icmp .eq 13, 3) := by decide +kernel
theorem dX10_hireTwo_44 : decode cX10_hireTwo 44 = .ok (.bipush 100, 2) := by decide +kernel
theorem dX10_hireTwo_46 : decode cX10_hireTwo 46 = .ok (.bipush 10, 2) := by decide +kernel
theorem dX10_hireTwo_48 : decode cX10_hireTwo 48 = .ok (.iload_n 1, 1) := by decide +kernel
theorem dX10_hireTwo_49 : decode cX10_hireTwo 49 = .ok (.imul, 1) := by decide +kernel
theorem dX10_hireTwo_50 : decode cX10_hireTwo 50 = .ok (.iadd, 1) := by decide +kernel
theorem dX10_hireTwo_51 : decode cX10_hireTwo 51 = .ok (.iload_n 3, 1) := by decide +kernel
theorem dX10_hireTwo_52 : decode cX10_hireTwo 52 = .ok (.iadd, 1) := by decide +kernel
theorem dX10_hireTwo_53 : decode cX10_hireTwo 53 = .ok (.ireturn, 1) := by decide +kernel
theorem dX10_hireTwo_54 : decode cX10_hireTwo 54 = .ok (.iinc 1 1, 3) := by decide +kernel
theorem dX10_hireTwo_57 : decode cX10_hireTwo 57 = .ok (.goto (-55), 3) := by decide +kernel
theorem dX10_hireTwo_60 : decode cX10_hireTwo 60 = .ok (.bipush (-9), 2) := by decide +kernel
theorem dX10_hireTwo_62 : decode cX10_hireTwo 62 = .ok (.ireturn, 1) := by decide +kernel
theorem dX10_floorForStranger_0 : decode cX10_floorForStranger 0 = .ok (.aload_n 0, 1) := by decide +kernel
theorem dX10_floorForStranger_1 : decode cX10_floorForStranger 1 = .ok (.getfield 30, 3) := by decide +kernel
theorem dX10_floorForStranger_4 : decode cX10_floorForStranger 4 = .ok (.getfield 105, 3) := by decide +kernel
theorem dX10_floorForStranger_7 : decode cX10_floorForStranger 7 = .ok (.invokevirtual 217, 3) := by decide +kernel
theorem dX10_floorForStranger_10 : decode cX10_floorForStranger 10 = .ok (.istore 4, 2) := by decide +kernel
theorem dX10_floorForStranger_12 : decode cX10_floorForStranger 12 = .ok (.aload_n 0, 1) := by decide +kernel
theorem dX10_floorForStranger_13 : decode cX10_floorForStranger 13 = .ok (.iconst 0, 1) := by decide +kernel
theorem dX10_floorForStranger_14 : decode cX10_floorForStranger 14 = .ok (.putfield 72, 3) := by decide +kernel
theorem dX10_floorForStranger_17 : decode cX10_floorForStranger 17 = .ok (.iload_n 3, 1) := by decide +kernel
theorem dX10_floorForStranger_18 : decode cX10_floorForStranger 18 = .ok (.istore 5, 2) := by decide +kernel
theorem dX10_floorForStranger_20 : decode cX10_floorForStranger 20 = .ok (.iload 5, 2) := by decide +kernel
theorem dX10_floorForStranger_22 : decode cX10_floorForStranger 22 = .ok (.aload_n 0, 1) := by decide +kernel
theorem dX10_floorForStranger_23 : decode cX10_floorForStranger 23 = .ok (.getfield 30, 3) := by decide +kernel
theorem dX10_floorForStranger_26 : decode cX10_floorForStranger 26 = .ok (.getfield 105, 3) := by decide +kernel
theorem dX10_floorForStranger_29 : decode cX10_floorForStranger 29 = .ok (.getfield 111, 3) := by decide +kernel
theorem dX10_floorForStranger_32 : decode cX10_floorForStranger 32 = .ok (.if_icmp .ge 53, 3) := by decide +kernel
theorem dX10_floorForStranger_35 : decode cX10_floorForStranger 35 = .ok (.aload_n 0, 1) := by decide +kernel
theorem dX10_floorForStranger_36 : decode cX10_floorForStranger 36 = .ok (.getfield 40, 3) := by decide +kernel
theorem dX10_floorForStranger_39 : decode cX10_floorForStranger 39 = .ok (.aload_n 0, 1) := by decide +kernel
theorem dX10_floorForStranger_40 : decode cX10_floorForStranger 40 = .ok (.getfield 30, 3) := by decide +kernel
theorem dX10_floorForStranger_43 : decode cX10_floorForStranger 43 = .ok (.getfield 105, 3) := by decide +kernel
theorem dX10_floorForStranger_46 : decode cX10_floorForStranger 46 = .ok (.iload_n 1, 1) := by decide +kernel
theorem dX10_floorForStranger_47 : decode cX10_floorForStranger 47 = .ok (.iconst 1, 1) := by decide +kernel
theorem dX10_floorForStranger_48 : decode cX10_floorForStranger 48 = .ok (.iconst 4, 1) := by decide +kernel
theorem dX10_floorForStranger_49 : decode cX10_floorForStranger 49 = .ok (.iload_n 2, 1) := by decide +kernel
theorem dX10_floorForStranger_50 : decode cX10_floorForStranger 50 = .ok (.iadd, 1) := by decide +kernel
theorem dX10_floorForStranger_51 : decode cX10_floorForStranger 51 = .ok (.ishl, 1) := by decide +kernel
theorem dX10_floorForStranger_52 : decode cX10_floorForStranger 52 = .ok (.iload 5, 2) := by decide +kernel
theorem dX10_floorForStranger_54 : decode cX10_floorForStranger 54 = .ok (.invokestatic 234, 3) := by decide +kernel
theorem dX10_floorForStranger_57 : decode cX10_floorForStranger 57 = .ok (.iload 4, 2) := by decide +kernel
theorem dX10_floorForStranger_59 : decode cX10_floorForStranger 59 = .ok (.invokevirtual 223, 3) := by decide +kernel
theorem dX10_floorForStranger_62 : decode cX10_floorForStranger 62 = .ok (.aload_n 0, 1) := by decide +kernel
theorem dX10_floorForStranger_63 : decode cX10_floorForStranger 63 = .ok (.getfield 40, 3) := by decide +kernel
theorem dX10_floorForStranger_66 : decode cX10_floorForStranger 66 = .ok (.iload 4, 2) := by decide +kernel
theorem dX10_floorForStranger_68 : decode cX10_floorForStranger 68 = .ok (.invokevirtual 208, 3) := by decide +kernel
theorem dX10_floorForStranger_71 : decode cX10_floorForStranger 71 = .ok (.bipush (-9), 2) := by decide +kernel
theorem dX10_floorForStranger_73 : decode cX10_floorForStranger 73 = .ok (.if_icmp .eq 6, 3) := by decide +kernel
theorem dX10_floorForStranger_76 : decode cX10_floorForStranger 76 = .ok (.iload 5, 2) := by decide +kernel
theorem dX10_floorForStranger_78 : decode cX10_floorForStranger 78 = .ok (.ireturn, 1) := by decide +kernel
theorem dX10_floorForStranger_79 : decode cX10_floorForStranger 79 = .ok (.iinc 5 1, 3) := by decide +kernel
theorem dX10_floorForStranger_82 : decode cX10_floorForStranger 82 = .ok (.goto (-62), 3) := by decide +kernel
theorem dX10_floorForStranger_85 : decode cX10_floorForStranger 85 = .ok (.bipush (-9), 2) := by decide +kernel
theorem dX10_floorForStranger_87 : decode cX10_floorForStranger 87 = .ok (.ireturn, 1) := by decide +kernel
theorem dX10_walks_0 : decode cX10_walks 0 = .ok (.aload_n 0, 1) := by decide +kernel
theorem dX10_walks_1 : decode cX10_walks 1 = .ok (.invokevirtual 201, 3) := by decide +kernel
theorem dX10_walks_4 : decode cX10_walks 4 = .ok (.aload_n 0, 1) := by decide +kernel
theorem dX10_walks_5 : decode cX10_walks 5 = .ok (.getfield 40, 3) := by decide +kernel
theorem dX10_walks_8 : decode cX10_walks 8 = .ok (.aload_n 0, 1) := by decide +kernel
theorem dX10_walks_9 : decode cX10_walks 9 = .ok (.getfield 40, 3) := by decide +kernel
theorem dX10_walks_12 : decode cX10_walks 12 = .ok (.aload_n 0, 1) := by decide +kernel
theorem dX10_walks_13 : decode cX10_walks 13 = .ok (.getfield 30, 3) := by decide +kernel
theorem dX10_walks_16 : decode cX10_walks 16 = .ok (.getfield 105, 3) := by decide +kernel
theorem dX10_walks_19 : decode cX10_walks 19 = .ok (.invokevirtual 217, 3) := by decide +kernel
theorem dX10_walks_22 : decode cX10_walks 22 = .ok (.invokevirtual 208, 3) := by decide +kernel
theorem dX10_walks_25 : decode cX10_walks 25 = .ok (.invokevirtual 211, 3) := by decide +kernel
theorem dX10_walks_28 : decode cX10_walks 28 = .ok (.istore_n 1, 1) := by decide +kernel
theorem dX10_walks_29 : decode cX10_walks 29 = .ok (.bipush (-9), 2) := by decide +kernel
theorem dX10_walks_31 : decode cX10_walks 31 = .ok (.istore_n 2, 1) := by decide +kernel
theorem dX10_walks_32 : decode cX10_walks 32 = .ok (.iconst 0, 1) := by decide +kernel
theorem dX10_walks_33 : decode cX10_walks 33 = .ok (.istore_n 3, 1) := by decide +kernel
theorem dX10_walks_34 : decode cX10_walks 34 = .ok (.iload_n 3, 1) := by decide +kernel
theorem dX10_walks_35 : decode cX10_walks 35 = .ok (.iconst 2, 1) := by decide +kernel
theorem dX10_walks_36 : decode cX10_walks 36 = .ok (.aload_n 0, 1) := by decide +kernel
theorem dX10_walks_37 : decode cX10_walks 37 = .ok (.getfield 30, 3) := by decide +kernel
theorem dX10_walks_40 : decode cX10_walks 40 = .ok (.getfield 105, 3) := by decide +kernel
theorem dX10_walks_43 : decode cX10_walks 43 = .ok (.getfield 115, 3) := by decide +kernel
theorem dX10_walks_46 : decode cX10_walks 46 = .ok (.imul, 1) := by decide +kernel
theorem dX10_walks_47 : decode cX10_walks 47 = .ok (.if_icmp .ge 69, 3) := by decide +kernel
theorem dX10_walks_50 : decode cX10_walks 50 = .ok (.iload_n 3, 1) := by decide +kernel
theorem dX10_walks_51 : decode cX10_walks 51 = .ok (.iconst 2, 1) := by decide +kernel
theorem dX10_walks_52 : decode cX10_walks 52 = .ok (.idiv, 1) := by decide +kernel
theorem dX10_walks_53 : decode cX10_walks 53 = .ok (.istore 4, 2) := by decide +kernel
theorem dX10_walks_55 : decode cX10_walks 55 = .ok (.iload_n 3, 1) := by decide +kernel
theorem dX10_walks_56 : decode cX10_walks 56 = .ok (.iconst 2, 1) := by decide +kernel
theorem dX10_walks_57 : decode cX10_walks 57 = .ok (.irem, 1) := by decide +kernel
theorem dX10_walks_58 : decode cX10_walks 58 = .ok (.istore 5, 2) := by decide +kernel
theorem dX10_walks_60 : decode cX10_walks 60 = .ok (.aload_n 0, 1) := by decide +kernel
theorem dX10_walks_61 : decode cX10_walks 61 = .ok (.iload 4, 2) := by decide +kernel
theorem dX10_walks_63 : decode cX10_walks 63 = .ok (.iload 5, 2) := by decide +kernel
theorem dX10_walks_65 : decode cX10_walks 65 = .ok (.iconst 1, 1) := by decide +kernel
theorem dX10_walks_66 : decode cX10_walks 66 = .ok (.if_icmp .ne 7, 3) := by decide +kernel
theorem dX10_walks_69 : decode cX10_walks 69 = .ok (.iconst 1, 1) := by decide +kernel
theorem dX10_walks_70 : decode cX10_walks 70 = .ok (.goto 4, 3) := by decide +kernel
theorem dX10_walks_73 : decode cX10_walks 73 = .ok (.iconst (-1), 1) := by decide +kernel
theorem dX10_walks_74 : decode cX10_walks 74 = .ok (.invokevirtual 237, 3) := by decide +kernel
theorem dX10_walks_77 : decode cX10_walks 77 = .ok (.istore 6, 2) := by decide +kernel
theorem dX10_walks_79 : decode cX10_walks 79 = .ok (.iload 6, 2) := by decide +kernel
theorem dX10_walks_81 : decode cX10_walks 81 = .ok (.bipush (-9), 2) := by decide +kernel
theorem dX10_walks_83 : decode cX10_walks 83 = .ok (.if_icmp .eq 27, 3) := by decide +kernel
theorem dX10_walks_86 : decode cX10_walks 86 = .ok (.iload_n 1, 1) := by decide +kernel
theorem dX10_walks_87 : decode cX10_walks 87 = .ok (.bipush (-9), 2) := by decide +kernel
theorem dX10_walks_89 : decode cX10_walks 89 = .ok (.if_icmp .eq 9, 3) := by decide +kernel
theorem dX10_walks_92 : decode cX10_walks 92 = .ok (.iload 6, 2) := by decide +kernel
theorem dX10_walks_94 : decode cX10_walks 94 = .ok (.iload_n 1, 1) := by decide +kernel
theorem dX10_walks_95 : decode cX10_walks 95 = .ok (.if_icmp .ge 15, 3) := by decide +kernel
theorem dX10_walks_98 : decode cX10_walks 98 = .ok (.iload 6, 2) := by decide +kernel
theorem dX10_walks_100 : decode cX10_walks 100 = .ok (.istore_n 1, 1) := by decide +kernel
theorem dX10_walks_101 : decode cX10_walks 101 = .ok (.bipush 10, 2) := by decide +kernel
theorem dX10_walks_103 : decode cX10_walks 103 = .ok (.iload 4, 2) := by decide +kernel
theorem dX10_walks_105 : decode cX10_walks 105 = .ok (.imul, 1) := by decide +kernel
theorem dX10_walks_106 : decode cX10_walks 106 = .ok (.iload 5, 2) := by decide +kernel
theorem dX10_walks_108 : decode cX10_walks 108 = .ok (.iadd, 1) := by decide +kernel
theorem dX10_walks_109 : decode cX10_walks 109 = .ok (.istore_n 2, 1) := by decide +kernel
theorem dX10_walks_110 : decode cX10_walks 110 = .ok (.iinc 3 1, 3) := by decide +kernel
theorem dX10_walks_113 : decode cX10_walks 113 = .ok (.goto (-79), 3) := by decide +kernel
theorem dX10_walks_116 : decode cX10_walks 116 = .ok (.iload_n 2, 1) := by decide +kernel
theorem dX10_walks_117 : decode cX10_walks 117 = .ok (.ireturn, 1) := by decide +kernel
theorem dX10_fewestAfterWalk_0 : decode cX10_fewestAfterWalk 0 = .ok (.aload_n 0, 1) := by decide +kernel
theorem dX10_fewestAfterWalk_1 : decode cX10_fewestAfterWalk 1 = .ok (.getfield 30, 3) := by decide +kernel
theorem dX10_fewestAfterWalk_4 : decode cX10_fewestAfterWalk 4 = .ok (.getfield 105, 3) := by decide +kernel
theorem dX10_fewestAfterWalk_7 : decode cX10_fewestAfterWalk 7 = .ok (.iload_n 1, 1) := by decide +kernel
theorem dX10_fewestAfterWalk_8 : decode cX10_fewestAfterWalk 8 = .ok (.invokevirtual 240, 3) := by decide +kernel
theorem dX10_fewestAfterWalk_11 : decode cX10_fewestAfterWalk 11 = .ok (.iload_n 2, 1) := by decide +kernel
theorem dX10_fewestAfterWalk_12 : decode cX10_fewestAfterWalk 12 = .ok (.iadd, 1) := by decide +kernel
theorem dX10_fewestAfterWalk_13 : decode cX10_fewestAfterWalk 13 = .ok (.istore_n 3, 1) := by decide +kernel
theorem dX10_fewestAfterWalk_14 : decode cX10_fewestAfterWalk 14 = .ok (.aload_n 0, 1) := by decide +kernel
theorem dX10_fewestAfterWalk_15 : decode cX10_fewestAfterWalk 15 = .ok (.getfield 30, 3) := by decide +kernel
theorem dX10_fewestAfterWalk_18 : decode cX10_fewestAfterWalk 18 = .ok (.getfield 121, 3) := by decide +kernel
theorem dX10_fewestAfterWalk_21 : decode cX10_fewestAfterWalk 21 = .ok (.invokestatic 243, 3) := by decide +kernel
theorem dX10_fewestAfterWalk_24 : decode cX10_fewestAfterWalk 24 = .ok (.iconst 1, 1) := by decide +kernel
theorem dX10_fewestAfterWalk_25 : decode cX10_fewestAfterWalk 25 = .ok (.iload_n 1, 1) := by decide +kernel
theorem dX10_fewestAfterWalk_26 : decode cX10_fewestAfterWalk 26 = .ok (.ishl, 1) := by decide +kernel
theorem dX10_fewestAfterWalk_27 : decode cX10_fewestAfterWalk 27 = .ok (.iand, 1) := by decide +kernel
theorem dX10_fewestAfterWalk_28 : decode cX10_fewestAfterWalk 28 = .ok (.ifCond .ne 17, 3) := by decide +kernel
theorem dX10_fewestAfterWalk_31 : decode cX10_fewestAfterWalk 31 = .ok (.aload_n 0, 1) := by decide +kernel
theorem dX10_fewestAfterWalk_32 : decode cX10_fewestAfterWalk 32 = .ok (.getfield 30, 3) := by decide +kernel
theorem dX10_fewestAfterWalk_35 : decode cX10_fewestAfterWalk 35 = .ok (.getfield 105, 3) := by decide +kernel
theorem dX10_fewestAfterWalk_38 : decode cX10_fewestAfterWalk 38 = .ok (.iload_n 3, 1) := by decide +kernel
theorem dX10_fewestAfterWalk_39 : decode cX10_fewestAfterWalk 39 = .ok (.invokevirtual 155, 3) := by decide +kernel
theorem dX10_fewestAfterWalk_42 : decode cX10_fewestAfterWalk 42 = .ok (.ifCond .ne 6, 3) := by decide +kernel
theorem dX10_fewestAfterWalk_45 : decode cX10_fewestAfterWalk 45 = .ok (.bipush (-9), 2) := by decide +kernel
theorem dX10_fewestAfterWalk_47 : decode cX10_fewestAfterWalk 47 = .ok (.ireturn, 1) := by decide +kernel
theorem dX10_fewestAfterWalk_48 : decode cX10_fewestAfterWalk 48 = .ok (.aload_n 0, 1) := by decide +kernel
theorem dX10_fewestAfterWalk_49 : decode cX10_fewestAfterWalk 49 = .ok (.getfield 30, 3) := by decide +kernel
theorem dX10_fewestAfterWalk_52 : decode cX10_fewestAfterWalk 52 = .ok (.getfield 105, 3) := by decide +kernel
theorem dX10_fewestAfterWalk_55 : decode cX10_fewestAfterWalk 55 = .ok (.invokevirtual 217, 3) := by decide +kernel
theorem dX10_fewestAfterWalk_58 : decode cX10_fewestAfterWalk 58 = .ok (.istore 4, 2) := by decide +kernel
theorem dX10_fewestAfterWalk_60 : decode cX10_fewestAfterWalk 60 = .ok (.iload_n 3, 1) := by decide +kernel
theorem dX10_fewestAfterWalk_61 : decode cX10_fewestAfterWalk 61 = .ok (.aload_n 0, 1) := by decide +kernel
theorem dX10_fewestAfterWalk_62 : decode cX10_fewestAfterWalk 62 = .ok (.getfield 30, 3) := by decide +kernel
theorem dX10_fewestAfterWalk_65 : decode cX10_fewestAfterWalk 65 = .ok (.getfield 105, 3) := by decide +kernel
theorem dX10_fewestAfterWalk_68 : decode cX10_fewestAfterWalk 68 = .ok (.iload_n 1, 1) := by decide +kernel
theorem dX10_fewestAfterWalk_69 : decode cX10_fewestAfterWalk 69 = .ok (.invokevirtual 152, 3) := by decide +kernel
theorem dX10_fewestAfterWalk_72 : decode cX10_fewestAfterWalk 72 = .ok (.if_icmp .ne 7, 3) := by decide +kernel
theorem dX10_fewestAfterWalk_75 : decode cX10_fewestAfterWalk 75 = .ok (.iconst 1, 1) := by decide +kernel
theorem dX10_fewestAfterWalk_76 : decode cX10_fewestAfterWalk 76 = .ok (.goto 4, 3) := by decide +kernel
theorem dX10_fewestAfterWalk_79 : decode cX10_fewestAfterWalk 79 = .ok (.iconst 0, 1) := by decide +kernel
theorem dX10_fewestAfterWalk_80 : decode cX10_fewestAfterWalk 80 = .ok (.istore 5, 2) := by decide +kernel
theorem dX10_fewestAfterWalk_82 : decode cX10_fewestAfterWalk 82 = .ok (.aload_n 0, 1) := by decide +kernel
theorem dX10_fewestAfterWalk_83 : decode cX10_fewestAfterWalk 83 = .ok (.getfield 54, 3) := by decide +kernel
theorem dX10_fewestAfterWalk_86 : decode cX10_fewestAfterWalk 86 = .ok (.aload_n 0, 1) := by decide +kernel
theorem dX10_fewestAfterWalk_87 : decode cX10_fewestAfterWalk 87 = .ok (.getfield 30, 3) := by decide +kernel
theorem dX10_fewestAfterWalk_90 : decode cX10_fewestAfterWalk 90 = .ok (.getfield 105, 3) := by decide +kernel
theorem dX10_fewestAfterWalk_93 : decode cX10_fewestAfterWalk 93 = .ok (.invokevirtual 246, 3) := by decide +kernel
theorem dX10_fewestAfterWalk_96 : decode cX10_fewestAfterWalk 96 = .ok (.aload_n 0, 1) := by decide +kernel
theorem dX10_fewestAfterWalk_97 : decode cX10_fewestAfterWalk 97 = .ok (.getfield 54, 3) := by decide +kernel
theorem dX10_fewestAfterWalk_100 : decode cX10_fewestAfterWalk 100 = .ok (.iload_n 1, 1) := by decide +kernel
theorem dX10_fewestAfterWalk_101 : decode cX10_fewestAfterWalk 101 = .ok (.iload_n 3, 1) := by decide +kernel
theorem dX10_fewestAfterWalk_102 : decode cX10_fewestAfterWalk 102 = .ok (.invokevirtual 249, 3) := by decide +kernel
theorem dX10_fewestAfterWalk_105 : decode cX10_fewestAfterWalk 105 = .ok (.aload_n 0, 1) := by decide +kernel
theorem dX10_fewestAfterWalk_106 : decode cX10_fewestAfterWalk 106 = .ok (.iconst 0, 1) := by decide +kernel
theorem dX10_fewestAfterWalk_107 : decode cX10_fewestAfterWalk 107 = .ok (.putfield 72, 3) := by decide +kernel
theorem dX10_fewestAfterWalk_110 : decode cX10_fewestAfterWalk 110 = .ok (.aload_n 0, 1) := by decide +kernel
theorem dX10_fewestAfterWalk_111 : decode cX10_fewestAfterWalk 111 = .ok (.getfield 40, 3) := by decide +kernel
theorem dX10_fewestAfterWalk_114 : decode cX10_fewestAfterWalk 114 = .ok (.aload_n 0, 1) := by decide +kernel
theorem dX10_fewestAfterWalk_115 : decode cX10_fewestAfterWalk 115 = .ok (.getfield 54, 3) := by decide +kernel
theorem dX10_fewestAfterWalk_118 : decode cX10_fewestAfterWalk 118 = .ok (.iload 5, 2) := by decide +kernel
theorem dX10_fewestAfterWalk_120 : decode cX10_fewestAfterWalk 120 = .ok (.ifCond .eq 17, 3) := by decide +kernel
theorem dX10_fewestAfterWalk_123 : decode cX10_fewestAfterWalk 123 = .ok (.aload_n 0, 1) := by decide +kernel
theorem dX10_fewestAfterWalk_124 : decode cX10_fewestAfterWalk 124 = .ok (.getfield 30, 3) := by decide +kernel
theorem dX10_fewestAfterWalk_127 : decode cX10_fewestAfterWalk 127 = .ok (.getfield 121, 3) := by decide +kernel
theorem dX10_fewestAfterWalk_130 : decode cX10_fewestAfterWalk 130 = .ok (.iload_n 1, 1) := by decide +kernel
theorem dX10_fewestAfterWalk_131 : decode cX10_fewestAfterWalk 131 = .ok (.invokestatic 252, 3) := by decide +kernel
theorem dX10_fewestAfterWalk_134 : decode cX10_fewestAfterWalk 134 = .ok (.goto 10, 3) := by decide +kernel
theorem dX10_fewestAfterWalk_137 : decode cX10_fewestAfterWalk 137 = .ok (.aload_n 0, 1) := by decide +kernel
theorem dX10_fewestAfterWalk_138 : decode cX10_fewestAfterWalk 138 = .ok (.getfield 30, 3) := by decide +kernel
theorem dX10_fewestAfterWalk_141 : decode cX10_fewestAfterWalk 141 = .ok (.getfield 121, 3) := by decide +kernel
theorem dX10_fewestAfterWalk_144 : decode cX10_fewestAfterWalk 144 = .ok (.iload 4, 2) := by decide +kernel
theorem dX10_fewestAfterWalk_146 : decode cX10_fewestAfterWalk 146 = .ok (.invokevirtual 223, 3) := by decide +kernel
theorem dX10_fewestAfterWalk_149 : decode cX10_fewestAfterWalk 149 = .ok (.aload_n 0, 1) := by decide +kernel
theorem dX10_fewestAfterWalk_150 : decode cX10_fewestAfterWalk 150 = .ok (.getfield 40, 3) := by decide +kernel
theorem dX10_fewestAfterWalk_153 : decode cX10_fewestAfterWalk 153 = .ok (.aload_n 0, 1) := by decide +kernel
theorem dX10_fewestAfterWalk_154 : decode cX10_fewestAfterWalk 154 = .ok (.getfield 40, 3) := by decide +kernel
theorem dX10_fewestAfterWalk_157 : decode cX10_fewestAfterWalk 157 = .ok (.iload 4, 2) := by decide +kernel
theorem dX10_fewestAfterWalk_159 : decode cX10_fewestAfterWalk 159 = .ok (.invokevirtual 208, 3) := by decide +kernel
theorem dX10_fewestAfterWalk_162 : decode cX10_fewestAfterWalk 162 = .ok (.invokevirtual 211, 3) := by decide +kernel
theorem dX10_fewestAfterWalk_165 : decode cX10_fewestAfterWalk 165 = .ok (.ireturn, 1) := by decide +kernel
theorem dX10_call_0 : decode cX10_call 0 = .ok (.iload_n 1, 1) := by decide +kernel
theorem dX10_call_1 : decode cX10_call 1 = .ok (.ifCond .lt 8, 3) := by decide +kernel
theorem dX10_call_4 : decode cX10_call 4 = .ok (.iload_n 1, 1) := by decide +kernel
theorem dX10_call_5 : decode cX10_call 5 = .ok (.iconst 2, 1) := by decide +kernel
theorem dX10_call_6 : decode cX10_call 6 = .ok (.if_icmp .le 5, 3) := by decide +kernel
theorem dX10_call_9 : decode cX10_call 9 = .ok (.iconst (-1), 1) := by decide +kernel
theorem dX10_call_10 : decode cX10_call 10 = .ok (.ireturn, 1) := by decide +kernel
theorem dX10_call_11 : decode cX10_call 11 = .ok (.aload_n 0, 1) := by decide +kernel
theorem dX10_call_12 : decode cX10_call 12 = .ok (.getfield 30, 3) := by decide +kernel
theorem dX10_call_15 : decode cX10_call 15 = .ok (.invokevirtual 176, 3) := by decide +kernel
theorem dX10_call_18 : decode cX10_call 18 = .ok (.ifCond .eq 6, 3) := by decide +kernel
theorem dX10_call_21 : decode cX10_call 21 = .ok (.bipush (-4), 2) := by decide +kernel
theorem dX10_call_23 : decode cX10_call 23 = .ok (.ireturn, 1) := by decide +kernel
theorem dX10_call_24 : decode cX10_call 24 = .ok (.aload_n 0, 1) := by decide +kernel
theorem dX10_call_25 : decode cX10_call 25 = .ok (.iload_n 1, 1) := by decide +kernel
theorem dX10_call_26 : decode cX10_call 26 = .ok (.invokevirtual 255, 3) := by decide +kernel
theorem dX10_call_29 : decode cX10_call 29 = .ok (.istore_n 2, 1) := by decide +kernel
theorem dX10_call_30 : decode cX10_call 30 = .ok (.iload_n 2, 1) := by decide +kernel
theorem dX10_call_31 : decode cX10_call 31 = .ok (.bipush (-9), 2) := by decide +kernel
theorem dX10_call_33 : decode cX10_call 33 = .ok (.if_icmp .eq 41, 3) := by decide +kernel
theorem dX10_call_36 : decode cX10_call 36 = .ok (.aload_n 0, 1) := by decide +kernel
theorem dX10_call_37 : decode cX10_call 37 = .ok (.getfield 30, 3) := by decide +kernel
theorem dX10_call_40 : decode cX10_call 40 = .ok (.iload_n 2, 1) := by decide +kernel
theorem dX10_call_41 : decode cX10_call 41 = .ok (.invokevirtual 258, 3) := by decide +kernel
theorem dX10_call_44 : decode cX10_call 44 = .ok (.istore_n 3, 1) := by decide +kernel
theorem dX10_call_45 : decode cX10_call 45 = .ok (.aload_n 0, 1) := by decide +kernel
theorem dX10_call_46 : decode cX10_call 46 = .ok (.iload_n 2, 1) := by decide +kernel
theorem dX10_call_47 : decode cX10_call 47 = .ok (.aload_n 0, 1) := by decide +kernel
theorem dX10_call_48 : decode cX10_call 48 = .ok (.getfield 30, 3) := by decide +kernel
theorem dX10_call_51 : decode cX10_call 51 = .ok (.iload_n 2, 1) := by decide +kernel
theorem dX10_call_52 : decode cX10_call 52 = .ok (.invokevirtual 158, 3) := by decide +kernel
theorem dX10_call_55 : decode cX10_call 55 = .ok (.iload_n 3, 1) := by decide +kernel
theorem dX10_call_56 : decode cX10_call 56 = .ok (.invokestatic 261, 3) := by decide +kernel
theorem dX10_call_59 : decode cX10_call 59 = .ok (.aload_n 0, 1) := by decide +kernel
theorem dX10_call_60 : decode cX10_call 60 = .ok (.getfield 30, 3) := by decide +kernel
theorem dX10_call_63 : decode cX10_call 63 = .ok (.iload_n 2, 1) := by decide +kernel
theorem dX10_call_64 : decode cX10_call 64 = .ok (.invokevirtual 161, 3) := by decide +kernel
theorem dX10_call_67 : decode cX10_call 67 = .ok (.iload_n 3, 1) := by decide +kernel
theorem dX10_call_68 : decode cX10_call 68 = .ok (.invokestatic 261, 3) := by decide +kernel
theorem dX10_call_71 : decode cX10_call 71 = .ok (.invokevirtual 179, 3) := by decide +kernel
theorem dX10_call_74 : decode cX10_call 74 = .ok (.iload_n 2, 1) := by decide +kernel
theorem dX10_call_75 : decode cX10_call 75 = .ok (.ireturn, 1) := by decide +kernel
theorem dX10_floorBy_0 : decode cX10_floorBy 0 = .ok (.bipush (-9), 2) := by decide +kernel
theorem dX10_floorBy_2 : decode cX10_floorBy 2 = .ok (.istore_n 2, 1) := by decide +kernel
theorem dX10_floorBy_3 : decode cX10_floorBy 3 = .ok (.iconst 0, 1) := by decide +kernel
theorem dX10_floorBy_4 : decode cX10_floorBy 4 = .ok (.istore_n 3, 1) := by decide +kernel
theorem dX10_floorBy_5 : decode cX10_floorBy 5 = .ok (.iconst 0, 1) := by decide +kernel
theorem dX10_floorBy_6 : decode cX10_floorBy 6 = .ok (.istore 4, 2) := by decide +kernel
theorem dX10_floorBy_8 : decode cX10_floorBy 8 = .ok (.iload 4, 2) := by decide +kernel
theorem dX10_floorBy_10 : decode cX10_floorBy 10 = .ok (.aload_n 0, 1) := by decide +kernel
theorem dX10_floorBy_11 : decode cX10_floorBy 11 = .ok (.getfield 30, 3) := by decide +kernel
theorem dX10_floorBy_14 : decode cX10_floorBy 14 = .ok (.getfield 105, 3) := by decide +kernel
theorem dX10_floorBy_17 : decode cX10_floorBy 17 = .ok (.getfield 111, 3) := by decide +kernel
theorem dX10_floorBy_20 : decode cX10_floorBy 20 = .ok (.if_icmp .ge 48, 3) := by decide +kernel
theorem dX10_floorBy_23 : decode cX10_floorBy 23 = .ok (.aload_n 0, 1) := by decide +kernel
theorem dX10_floorBy_24 : decode cX10_floorBy 24 = .ok (.iload 4, 2) := by decide +kernel
theorem dX10_floorBy_26 : decode cX10_floorBy 26 = .ok (.iload_n 1, 1) := by decide +kernel
theorem dX10_floorBy_27 : decode cX10_floorBy 27 = .ok (.invokevirtual 264, 3) := by decide +kernel
theorem dX10_floorBy_30 : decode cX10_floorBy 30 = .ok (.istore 5, 2) := by decide +kernel
theorem dX10_floorBy_32 : decode cX10_floorBy 32 = .ok (.aload_n 0, 1) := by decide +kernel
theorem dX10_floorBy_33 : decode cX10_floorBy 33 = .ok (.getfield 30, 3) := by decide +kernel
theorem dX10_floorBy_36 : decode cX10_floorBy 36 = .ok (.iload 4, 2) := by decide +kernel
theorem dX10_floorBy_38 : decode cX10_floorBy 38 = .ok (.invokevirtual 258, 3) := by decide +kernel
theorem dX10_floorBy_41 : decode cX10_floorBy 41 = .ok (.ifCond .le 21, 3) := by decide +kernel
theorem dX10_floorBy_44 : decode cX10_floorBy 44 = .ok (.iload_n 2, 1) := by decide +kernel
theorem dX10_floorBy_45 : decode cX10_floorBy 45 = .ok (.bipush (-9), 2) := by decide +kernel
theorem dX10_floorBy_47 : decode cX10_floorBy 47 = .ok (.if_icmp .eq 9, 3) := by decide +kernel
theorem dX10_floorBy_50 : decode cX10_floorBy 50 = .ok (.iload 5, 2) := by decide +kernel
theorem dX10_floorBy_52 : decode cX10_floorBy 52 = .ok (.iload_n 3, 1) := by decide +kernel
theorem dX10_floorBy_53 : decode cX10_floorBy 53 = .ok (.if_icmp .ge 9, 3) := by decide +kernel
theorem dX10_floorBy_56 : decode cX10_floorBy 56 = .ok (.iload 4, 2) := by decide +kernel
theorem dX10_floorBy_58 : decode cX10_floorBy 58 = .ok (.istore_n 2, 1) := by decide +kernel
theorem dX10_floorBy_59 : decode cX10_floorBy 59 = .ok (.iload 5, 2) := by decide +kernel
theorem dX10_floorBy_61 : decode cX10_floorBy 61 = .ok (.istore_n 3, 1) := by decide +kernel
theorem dX10_floorBy_62 : decode cX10_floorBy 62 = .ok (.iinc 4 1, 3) := by decide +kernel
theorem dX10_floorBy_65 : decode cX10_floorBy 65 = .ok (.goto (-57), 3) := by decide +kernel
theorem dX10_floorBy_68 : decode cX10_floorBy 68 = .ok (.iload_n 2, 1) := by decide +kernel
theorem dX10_floorBy_69 : decode cX10_floorBy 69 = .ok (.ireturn, 1) := by decide +kernel
theorem dX10_rankOf_0 : decode cX10_rankOf 0 = .ok (.aload_n 0, 1) := by decide +kernel
theorem dX10_rankOf_1 : decode cX10_rankOf 1 = .ok (.getfield 30, 3) := by decide +kernel
theorem dX10_rankOf_4 : decode cX10_rankOf 4 = .ok (.invokevirtual 138, 3) := by decide +kernel
theorem dX10_rankOf_7 : decode cX10_rankOf 7 = .ok (.istore_n 3, 1) := by decide +kernel
theorem dX10_rankOf_8 : decode cX10_rankOf 8 = .ok (.iload_n 1, 1) := by decide +kernel
theorem dX10_rankOf_9 : decode cX10_rankOf 9 = .ok (.iload_n 3, 1) := by decide +kernel
theorem dX10_rankOf_10 : decode cX10_rankOf 10 = .ok (.isub, 1) := by decide +kernel
theorem dX10_rankOf_11 : decode cX10_rankOf 11 = .ok (.invokestatic 267, 3) := by decide +kernel
theorem dX10_rankOf_14 : decode cX10_rankOf 14 = .ok (.istore 4, 2) := by decide +kernel
theorem dX10_rankOf_16 : decode cX10_rankOf 16 = .ok (.iload_n 2, 1) := by decide +kernel
theorem dX10_rankOf_17 : decode cX10_rankOf 17 = .ok (.lookupswitch 45 #[(0, 27), (1, 30)], 27) := by decide +kernel
theorem dX10_rankOf_44 : decode cX10_rankOf 44 = .ok (.iload 4, 2) := by decide +kernel
theorem dX10_rankOf_46 : decode cX10_rankOf 46 = .ok (.ireturn, 1) := by decide +kernel
theorem dX10_rankOf_47 : decode cX10_rankOf 47 = .ok (.iload 4, 2) := by decide +kernel
theorem dX10_rankOf_49 : decode cX10_rankOf 49 = .ok (.bipush 6, 2) := by decide +kernel
theorem dX10_rankOf_51 : decode cX10_rankOf 51 = .ok (.aload_n 0, 1) := by decide +kernel
theorem dX10_rankOf_52 : decode cX10_rankOf 52 = .ok (.getfield 30, 3) := by decide +kernel
theorem dX10_rankOf_55 : decode cX10_rankOf 55 = .ok (.iload_n 1, 1) := by decide +kernel
theorem dX10_rankOf_56 : decode cX10_rankOf 56 = .ok (.invokevirtual 258, 3) := by decide +kernel
theorem dX10_rankOf_59 : decode cX10_rankOf 59 = .ok (.imul, 1) := by decide +kernel
theorem dX10_rankOf_60 : decode cX10_rankOf 60 = .ok (.isub, 1) := by decide +kernel
theorem dX10_rankOf_61 : decode cX10_rankOf 61 = .ok (.ireturn, 1) := by decide +kernel
theorem dX10_rankOf_62 : decode cX10_rankOf 62 = .ok (.iload_n 1, 1) := by decide +kernel
theorem dX10_rankOf_63 : decode cX10_rankOf 63 = .ok (.iload_n 3, 1) := by decide +kernel
theorem dX10_rankOf_64 : decode cX10_rankOf 64 = .ok (.if_icmp .lt 8, 3) := by decide +kernel
theorem dX10_rankOf_67 : decode cX10_rankOf 67 = .ok (.iload 4, 2) := by decide +kernel
theorem dX10_rankOf_69 : decode cX10_rankOf 69 = .ok (.goto 8, 3) := by decide +kernel
theorem dX10_rankOf_72 : decode cX10_rankOf 72 = .ok (.bipush 6, 2) := by decide +kernel
theorem dX10_rankOf_74 : decode cX10_rankOf 74 = .ok (.iload 4, 2) := by decide +kernel
theorem dX10_rankOf_76 : decode cX10_rankOf 76 = .ok (.iadd, 1) := by decide +kernel
theorem dX10_rankOf_77 : decode cX10_rankOf 77 = .ok (.ireturn, 1) := by decide +kernel
theorem dX10_leastOf_0 : decode cX10_leastOf 0 = .ok (.iconst 0, 1) := by decide +kernel
theorem dX10_leastOf_1 : decode cX10_leastOf 1 = .ok (.istore_n 2, 1) := by decide +kernel
theorem dX10_leastOf_2 : decode cX10_leastOf 2 = .ok (.iconst 0, 1) := by decide +kernel
theorem dX10_leastOf_3 : decode cX10_leastOf 3 = .ok (.istore_n 3, 1) := by decide +kernel
theorem dX10_leastOf_4 : decode cX10_leastOf 4 = .ok (.iload_n 3, 1) := by decide +kernel
theorem dX10_leastOf_5 : decode cX10_leastOf 5 = .ok (.bipush 6, 2) := by decide +kernel
theorem dX10_leastOf_7 : decode cX10_leastOf 7 = .ok (.if_icmp .ge 25, 3) := by decide +kernel
theorem dX10_leastOf_10 : decode cX10_leastOf 10 = .ok (.iload_n 2, 1) := by decide +kernel
theorem dX10_leastOf_11 : decode cX10_leastOf 11 = .ok (.invokestatic 130, 3) := by decide +kernel
theorem dX10_leastOf_14 : decode cX10_leastOf 14 = .ok (.iload_n 1, 1) := by decide +kernel
theorem dX10_leastOf_15 : decode cX10_leastOf 15 = .ok (.if_icmp .ge 17, 3) := by decide +kernel
theorem dX10_leastOf_18 : decode cX10_leastOf 18 = .ok (.iload_n 2, 1) := by decide +kernel
theorem dX10_leastOf_19 : decode cX10_leastOf 19 = .ok (.iload_n 0, 1) := by decide +kernel
theorem dX10_leastOf_20 : decode cX10_leastOf 20 = .ok (.iconst 1, 1) := by decide +kernel
theorem dX10_leastOf_21 : decode cX10_leastOf 21 = .ok (.iload_n 3, 1) := by decide +kernel
theorem dX10_leastOf_22 : decode cX10_leastOf 22 = .ok (.ishl, 1) := by decide +kernel
theorem dX10_leastOf_23 : decode cX10_leastOf 23 = .ok (.iand, 1) := by decide +kernel
theorem dX10_leastOf_24 : decode cX10_leastOf 24 = .ok (.ior, 1) := by decide +kernel
theorem dX10_leastOf_25 : decode cX10_leastOf 25 = .ok (.istore_n 2, 1) := by decide +kernel
theorem dX10_leastOf_26 : decode cX10_leastOf 26 = .ok (.iinc 3 1, 3) := by decide +kernel
theorem dX10_leastOf_29 : decode cX10_leastOf 29 = .ok (.goto (-25), 3) := by decide +kernel
theorem dX10_leastOf_32 : decode cX10_leastOf 32 = .ok (.iload_n 2, 1) := by decide +kernel
theorem dX10_leastOf_33 : decode cX10_leastOf 33 = .ok (.ireturn, 1) := by decide +kernel
theorem dX10_see_0 : decode cX10_see 0 = .ok (.aload_n 0, 1) := by decide +kernel
theorem dX10_see_1 : decode cX10_see 1 = .ok (.getfield 30, 3) := by decide +kernel
theorem dX10_see_4 : decode cX10_see 4 = .ok (.getfield 105, 3) := by decide +kernel
theorem dX10_see_7 : decode cX10_see 7 = .ok (.iload_n 1, 1) := by decide +kernel
theorem dX10_see_8 : decode cX10_see 8 = .ok (.invokevirtual 155, 3) := by decide +kernel
theorem dX10_see_11 : decode cX10_see 11 = .ok (.ifCond .ne 5, 3) := by decide +kernel
theorem dX10_see_14 : decode cX10_see 14 = .ok (.iconst (-1), 1) := by decide +kernel
theorem dX10_see_15 : decode cX10_see 15 = .ok (.ireturn, 1) := by decide +kernel
theorem dX10_see_16 : decode cX10_see 16 = .ok (.iload_n 2, 1) := by decide +kernel
theorem dX10_see_17 : decode cX10_see 17 = .ok (.iconst 1, 1) := by decide +kernel
theorem dX10_see_18 : decode cX10_see 18 = .ok (.if_icmp .lt 9, 3) := by decide +kernel
theorem dX10_see_21 : decode cX10_see 21 = .ok (.iload_n 2, 1) := by decide +kernel
theorem dX10_see_22 : decode cX10_see 22 = .ok (.bipush 6, 2) := by decide +kernel
theorem dX10_see_24 : decode cX10_see 24 = .ok (.if_icmp .le 6, 3) := by decide +kernel
theorem dX10_see_27 : decode cX10_see 27 = .ok (.bipush (-2), 2) := by decide +kernel
theorem dX10_see_29 : decode cX10_see 29 = .ok (.ireturn, 1) := by decide +kernel
theorem dX10_see_30 : decode cX10_see 30 = .ok (.aload_n 0, 1) := by decide +kernel
theorem dX10_see_31 : decode cX10_see 31 = .ok (.getfield 61, 3) := by decide +kernel
theorem dX10_see_34 : decode cX10_see 34 = .ok (.invokevirtual 272, 3) := by decide +kernel
theorem dX10_see_37 : decode cX10_see 37 = .ok (.ifCond .eq 6, 3) := by decide +kernel
theorem dX10_see_40 : decode cX10_see 40 = .ok (.bipush (-4), 2) := by decide +kernel
theorem dX10_see_42 : decode cX10_see 42 = .ok (.ireturn, 1) := by decide +kernel
theorem dX10_see_43 : decode cX10_see 43 = .ok (.aload_n 0, 1) := by decide +kernel
theorem dX10_see_44 : decode cX10_see 44 = .ok (.getfield 61, 3) := by decide +kernel
theorem dX10_see_47 : decode cX10_see 47 = .ok (.iload_n 1, 1) := by decide +kernel
theorem dX10_see_48 : decode cX10_see 48 = .ok (.iload_n 2, 1) := by decide +kernel
theorem dX10_see_49 : decode cX10_see 49 = .ok (.invokevirtual 273, 3) := by decide +kernel
theorem dX10_see_52 : decode cX10_see 52 = .ok (.aload_n 0, 1) := by decide +kernel
theorem dX10_see_53 : decode cX10_see 53 = .ok (.getfield 61, 3) := by decide +kernel
theorem dX10_see_56 : decode cX10_see 56 = .ok (.invokevirtual 145, 3) := by decide +kernel
theorem dX10_see_59 : decode cX10_see 59 = .ok (.ireturn, 1) := by decide +kernel
theorem dX10_unsee_0 : decode cX10_unsee 0 = .ok (.aload_n 0, 1) := by decide +kernel
theorem dX10_unsee_1 : decode cX10_unsee 1 = .ok (.getfield 61, 3) := by decide +kernel
theorem dX10_unsee_4 : decode cX10_unsee 4 = .ok (.invokevirtual 145, 3) := by decide +kernel
theorem dX10_unsee_7 : decode cX10_unsee 7 = .ok (.istore_n 1, 1) := by decide +kernel
theorem dX10_unsee_8 : decode cX10_unsee 8 = .ok (.aload_n 0, 1) := by decide +kernel
theorem dX10_unsee_9 : decode cX10_unsee 9 = .ok (.getfield 61, 3) := by decide +kernel
theorem dX10_unsee_12 : decode cX10_unsee 12 = .ok (.invokevirtual 101, 3) := by decide +kernel
theorem dX10_unsee_15 : decode cX10_unsee 15 = .ok (.iload_n 1, 1) := by decide +kernel
theorem dX10_unsee_16 : decode cX10_unsee 16 = .ok (.ireturn, 1) := by decide +kernel
theorem dX10_ways_0 : decode cX10_ways 0 = .ok (.aload_n 0, 1) := by decide +kernel
theorem dX10_ways_1 : decode cX10_ways 1 = .ok (.iconst 0, 1) := by decide +kernel
theorem dX10_ways_2 : decode cX10_ways 2 = .ok (.invokevirtual 275, 3) := by decide +kernel
theorem dX10_ways_5 : decode cX10_ways 5 = .ok (.lreturn, 1) := by decide +kernel
theorem dX10_byThen_0 : decode cX10_byThen 0 = .ok (.aload_n 0, 1) := by decide +kernel
theorem dX10_byThen_1 : decode cX10_byThen 1 = .ok (.getfield 30, 3) := by decide +kernel
theorem dX10_byThen_4 : decode cX10_byThen 4 = .ok (.getfield 105, 3) := by decide +kernel
theorem dX10_byThen_7 : decode cX10_byThen 7 = .ok (.iload_n 1, 1) := by decide +kernel
theorem dX10_byThen_8 : decode cX10_byThen 8 = .ok (.invokevirtual 146, 3) := by decide +kernel
theorem dX10_byThen_11 : decode cX10_byThen 11 = .ok (.ifCond .eq 13, 3) := by decide +kernel
theorem dX10_byThen_14 : decode cX10_byThen 14 = .ok (.aload_n 0, 1) := by decide +kernel
theorem dX10_byThen_15 : decode cX10_byThen 15 = .ok (.iconst 1, 1) := by decide +kernel
theorem dX10_byThen_16 : decode cX10_byThen 16 = .ok (.iload_n 1, 1) := by decide +kernel
theorem dX10_byThen_17 : decode cX10_byThen 17 = .ok (.ishl, 1) := by decide +kernel
theorem dX10_byThen_18 : decode cX10_byThen 18 = .ok (.invokevirtual 275, 3) := by decide +kernel
theorem dX10_byThen_21 : decode cX10_byThen 21 = .ok (.goto 6, 3) := by decide +kernel
theorem dX10_byThen_24 : decode cX10_byThen 24 = .ok (.ldc2_w 279, 3) := by decide +kernel
theorem dX10_byThen_27 : decode cX10_byThen 27 = .ok (.lreturn, 1) := by decide +kernel
theorem dX10_rowsWith_0 : decode cX10_rowsWith 0 = .ok (.aload_n 0, 1) := by decide +kernel
theorem dX10_rowsWith_1 : decode cX10_rowsWith 1 = .ok (.invokevirtual 201, 3) := by decide +kernel
theorem dX10_rowsWith_4 : decode cX10_rowsWith 4 = .ok (.aload_n 0, 1) := by decide +kernel
theorem dX10_rowsWith_5 : decode cX10_rowsWith 5 = .ok (.getfield 61, 3) := by decide +kernel
theorem dX10_rowsWith_8 : decode cX10_rowsWith 8 = .ok (.aload_n 0, 1) := by decide +kernel
theorem dX10_rowsWith_9 : decode cX10_rowsWith 9 = .ok (.getfield 30, 3) := by decide +kernel
theorem dX10_rowsWith_12 : decode cX10_rowsWith 12 = .ok (.getfield 105, 3) := by decide +kernel
theorem dX10_rowsWith_15 : decode cX10_rowsWith 15 = .ok (.aload_n 0, 1) := by decide +kernel
theorem dX10_rowsWith_16 : decode cX10_rowsWith 16 = .ok (.getfield 40, 3) := by decide +kernel
theorem dX10_rowsWith_19 : decode cX10_rowsWith 19 = .ok (.invokevirtual 281, 3) := by decide +kernel
theorem dX10_rowsWith_22 : decode cX10_rowsWith 22 = .ok (.aload_n 0, 1) := by decide +kernel
theorem dX10_rowsWith_23 : decode cX10_rowsWith 23 = .ok (.getfield 61, 3) := by decide +kernel
theorem dX10_rowsWith_26 : decode cX10_rowsWith 26 = .ok (.aload_n 0, 1) := by decide +kernel
theorem dX10_rowsWith_27 : decode cX10_rowsWith 27 = .ok (.getfield 40, 3) := by decide +kernel
theorem dX10_rowsWith_30 : decode cX10_rowsWith 30 = .ok (.iload_n 1, 1) := by decide +kernel
theorem dX10_rowsWith_31 : decode cX10_rowsWith 31 = .ok (.invokevirtual 285, 3) := by decide +kernel
theorem dX10_rowsWith_34 : decode cX10_rowsWith 34 = .ok (.lreturn, 1) := by decide +kernel
theorem dX10_likely_0 : decode cX10_likely 0 = .ok (.aload_n 0, 1) := by decide +kernel
theorem dX10_likely_1 : decode cX10_likely 1 = .ok (.getfield 30, 3) := by decide +kernel
theorem dX10_likely_4 : decode cX10_likely 4 = .ok (.getfield 105, 3) := by decide +kernel
theorem dX10_likely_7 : decode cX10_likely 7 = .ok (.iload_n 1, 1) := by decide +kernel
theorem dX10_likely_8 : decode cX10_likely 8 = .ok (.invokevirtual 146, 3) := by decide +kernel
theorem dX10_likely_11 : decode cX10_likely 11 = .ok (.ifCond .ne 5, 3) := by decide +kernel
theorem dX10_likely_14 : decode cX10_likely 14 = .ok (.iconst (-1), 1) := by decide +kernel
theorem dX10_likely_15 : decode cX10_likely 15 = .ok (.ireturn, 1) := by decide +kernel
theorem dX10_likely_16 : decode cX10_likely 16 = .ok (.iload_n 2, 1) := by decide +kernel
theorem dX10_likely_17 : decode cX10_likely 17 = .ok (.ifCond .lt 9, 3) := by decide +kernel
theorem dX10_likely_20 : decode cX10_likely 20 = .ok (.iload_n 2, 1) := by decide +kernel
theorem dX10_likely_21 : decode cX10_likely 21 = .ok (.bipush 10, 2) := by decide +kernel
theorem dX10_likely_23 : decode cX10_likely 23 = .ok (.if_icmp .le 6, 3) := by decide +kernel
theorem dX10_likely_26 : decode cX10_likely 26 = .ok (.bipush (-2), 2) := by decide +kernel
theorem dX10_likely_28 : decode cX10_likely 28 = .ok (.ireturn, 1) := by decide +kernel
theorem dX10_likely_29 : decode cX10_likely 29 = .ok (.aload_n 0, 1) := by decide +kernel
theorem dX10_likely_30 : decode cX10_likely 30 = .ok (.getfield 68, 3) := by decide +kernel
theorem dX10_likely_33 : decode cX10_likely 33 = .ok (.iload_n 1, 1) := by decide +kernel
theorem dX10_likely_34 : decode cX10_likely 34 = .ok (.iload_n 2, 1) := by decide +kernel
theorem dX10_likely_35 : decode cX10_likely 35 = .ok (.invokevirtual 288, 3) := by decide +kernel
theorem dX10_likely_38 : decode cX10_likely 38 = .ok (.ireturn, 1) := by decide +kernel
theorem dX10_even_0 : decode cX10_even 0 = .ok (.aload_n 0, 1) := by decide +kernel
theorem dX10_even_1 : decode cX10_even 1 = .ok (.getfield 30, 3) := by decide +kernel
theorem dX10_even_4 : decode cX10_even 4 = .ok (.getfield 105, 3) := by decide +kernel
theorem dX10_even_7 : decode cX10_even 7 = .ok (.iload_n 1, 1) := by decide +kernel
theorem dX10_even_8 : decode cX10_even 8 = .ok (.invokevirtual 155, 3) := by decide +kernel
theorem dX10_even_11 : decode cX10_even 11 = .ok (.ifCond .ne 7, 3) := by decide +kernel
theorem dX10_even_14 : decode cX10_even 14 = .ok (.ldc2_w 279, 3) := by decide +kernel
theorem dX10_even_17 : decode cX10_even 17 = .ok (.lreturn, 1) := by decide +kernel
theorem dX10_even_18 : decode cX10_even 18 = .ok (.aload_n 0, 1) := by decide +kernel
theorem dX10_even_19 : decode cX10_even 19 = .ok (.getfield 68, 3) := by decide +kernel
theorem dX10_even_22 : decode cX10_even 22 = .ok (.aload_n 0, 1) := by decide +kernel
theorem dX10_even_23 : decode cX10_even 23 = .ok (.getfield 30, 3) := by decide +kernel
theorem dX10_even_26 : decode cX10_even 26 = .ok (.iload_n 1, 1) := by decide +kernel
theorem dX10_even_27 : decode cX10_even 27 = .ok (.invokevirtual 158, 3) := by decide +kernel
theorem dX10_even_30 : decode cX10_even 30 = .ok (.aload_n 0, 1) := by decide +kernel
theorem dX10_even_31 : decode cX10_even 31 = .ok (.getfield 30, 3) := by decide +kernel
theorem dX10_even_34 : decode cX10_even 34 = .ok (.iload_n 1, 1) := by decide +kernel
theorem dX10_even_35 : decode cX10_even 35 = .ok (.invokevirtual 161, 3) := by decide +kernel
theorem dX10_even_38 : decode cX10_even 38 = .ok (.invokevirtual 291, 3) := by decide +kernel
theorem dX10_even_41 : decode cX10_even 41 = .ok (.iload_n 2, 1) := by decide +kernel
theorem dX10_even_42 : decode cX10_even 42 = .ok (.ifCond .eq 13, 3) := by decide +kernel
theorem dX10_even_45 : decode cX10_even 45 = .ok (.aload_n 0, 1) := by decide +kernel
theorem dX10_even_46 : decode cX10_even 46 = .ok (.getfield 68, 3) := by decide +kernel
theorem dX10_even_49 : decode cX10_even 49 = .ok (.invokevirtual 294, 3) := by decide +kernel
theorem dX10_even_52 : decode cX10_even 52 = .ok (.goto 10, 3) := by decide +kernel
theorem dX10_even_55 : decode cX10_even 55 = .ok (.aload_n 0, 1) := by decide +kernel
theorem dX10_even_56 : decode cX10_even 56 = .ok (.getfield 68, 3) := by decide +kernel
theorem dX10_even_59 : decode cX10_even 59 = .ok (.invokevirtual 298, 3) := by decide +kernel
theorem dX10_even_62 : decode cX10_even 62 = .ok (.lreturn, 1) := by decide +kernel
theorem dX10_keep_0 : decode cX10_keep 0 = .ok (.iload_n 1, 1) := by decide +kernel
theorem dX10_keep_1 : decode cX10_keep 1 = .ok (.ifCond .lt 12, 3) := by decide +kernel
theorem dX10_keep_4 : decode cX10_keep 4 = .ok (.iload_n 1, 1) := by decide +kernel
theorem dX10_keep_5 : decode cX10_keep 5 = .ok (.aload_n 0, 1) := by decide +kernel
theorem dX10_keep_6 : decode cX10_keep 6 = .ok (.getfield 33, 3) := by decide +kernel
theorem dX10_keep_9 : decode cX10_keep 9 = .ok (.arraylength, 1) := by decide +kernel
theorem dX10_keep_10 : decode cX10_keep 10 = .ok (.if_icmp .lt 5, 3) := by decide +kernel
theorem dX10_keep_13 : decode cX10_keep 13 = .ok (.iconst (-1), 1) := by decide +kernel
theorem dX10_keep_14 : decode cX10_keep 14 = .ok (.ireturn, 1) := by decide +kernel
theorem dX10_keep_15 : decode cX10_keep 15 = .ok (.aload_n 0, 1) := by decide +kernel
theorem dX10_keep_16 : decode cX10_keep 16 = .ok (.getfield 33, 3) := by decide +kernel
theorem dX10_keep_19 : decode cX10_keep 19 = .ok (.iload_n 1, 1) := by decide +kernel
theorem dX10_keep_20 : decode cX10_keep 20 = .ok (.aaload, 1) := by decide +kernel
theorem dX10_keep_21 : decode cX10_keep 21 = .ok (.ifnonnull 13, 3) := by decide +kernel
theorem dX10_keep_24 : decode cX10_keep 24 = .ok (.new 23, 3) := by decide +kernel
theorem dX10_keep_27 : decode cX10_keep 27 = .ok (.dup, 1) := by decide +kernel
theorem dX10_keep_28 : decode cX10_keep 28 = .ok (.invokespecial 25, 3) := by decide +kernel
theorem dX10_keep_31 : decode cX10_keep 31 = .ok (.goto 9, 3) := by decide +kernel
theorem dX10_keep_34 : decode cX10_keep 34 = .ok (.aload_n 0, 1) := by decide +kernel
theorem dX10_keep_35 : decode cX10_keep 35 = .ok (.getfield 33, 3) := by decide +kernel
theorem dX10_keep_38 : decode cX10_keep 38 = .ok (.iload_n 1, 1) := by decide +kernel
theorem dX10_keep_39 : decode cX10_keep 39 = .ok (.aaload, 1) := by decide +kernel
theorem dX10_keep_40 : decode cX10_keep 40 = .ok (.astore_n 2, 1) := by decide +kernel
theorem dX10_keep_41 : decode cX10_keep 41 = .ok (.aload_n 2, 1) := by decide +kernel
theorem dX10_keep_42 : decode cX10_keep 42 = .ok (.aload_n 0, 1) := by decide +kernel
theorem dX10_keep_43 : decode cX10_keep 43 = .ok (.getfield 30, 3) := by decide +kernel
theorem dX10_keep_46 : decode cX10_keep 46 = .ok (.invokevirtual 97, 3) := by decide +kernel
theorem dX10_keep_49 : decode cX10_keep 49 = .ok (.aload_n 0, 1) := by decide +kernel
theorem dX10_keep_50 : decode cX10_keep 50 = .ok (.getfield 33, 3) := by decide +kernel
theorem dX10_keep_53 : decode cX10_keep 53 = .ok (.iload_n 1, 1) := by decide +kernel
theorem dX10_keep_54 : decode cX10_keep 54 = .ok (.aload_n 2, 1) := by decide +kernel
theorem dX10_keep_55 : decode cX10_keep 55 = .ok (.aastore, 1) := by decide +kernel
theorem dX10_keep_56 : decode cX10_keep 56 = .ok (.aload_n 0, 1) := by decide +kernel
theorem dX10_keep_57 : decode cX10_keep 57 = .ok (.getfield 30, 3) := by decide +kernel
theorem dX10_keep_60 : decode cX10_keep 60 = .ok (.getfield 105, 3) := by decide +kernel
theorem dX10_keep_63 : decode cX10_keep 63 = .ok (.invokevirtual 108, 3) := by decide +kernel
theorem dX10_keep_66 : decode cX10_keep 66 = .ok (.ireturn, 1) := by decide +kernel
theorem dX10_again_0 : decode cX10_again 0 = .ok (.iload_n 1, 1) := by decide +kernel
theorem dX10_again_1 : decode cX10_again 1 = .ok (.ifCond .lt 12, 3) := by decide +kernel
theorem dX10_again_4 : decode cX10_again 4 = .ok (.iload_n 1, 1) := by decide +kernel
theorem dX10_again_5 : decode cX10_again 5 = .ok (.aload_n 0, 1) := by decide +kernel
theorem dX10_again_6 : decode cX10_again 6 = .ok (.getfield 33, 3) := by decide +kernel
theorem dX10_again_9 : decode cX10_again 9 = .ok (.arraylength, 1) := by decide +kernel
theorem dX10_again_10 : decode cX10_again 10 = .ok (.if_icmp .lt 5, 3) := by decide +kernel
theorem dX10_again_13 : decode cX10_again 13 = .ok (.iconst (-1), 1) := by decide +kernel
theorem dX10_again_14 : decode cX10_again 14 = .ok (.ireturn, 1) := by decide +kernel
theorem dX10_again_15 : decode cX10_again 15 = .ok (.aload_n 0, 1) := by decide +kernel
theorem dX10_again_16 : decode cX10_again 16 = .ok (.getfield 33, 3) := by decide +kernel
theorem dX10_again_19 : decode cX10_again 19 = .ok (.iload_n 1, 1) := by decide +kernel
theorem dX10_again_20 : decode cX10_again 20 = .ok (.aaload, 1) := by decide +kernel
theorem dX10_again_21 : decode cX10_again 21 = .ok (.astore_n 2, 1) := by decide +kernel
theorem dX10_again_22 : decode cX10_again 22 = .ok (.aload_n 2, 1) := by decide +kernel
theorem dX10_again_23 : decode cX10_again 23 = .ok (.ifnonnull 6, 3) := by decide +kernel
theorem dX10_again_26 : decode cX10_again 26 = .ok (.bipush (-3), 2) := by decide +kernel
theorem dX10_again_28 : decode cX10_again 28 = .ok (.ireturn, 1) := by decide +kernel
theorem dX10_again_29 : decode cX10_again 29 = .ok (.aload_n 0, 1) := by decide +kernel
theorem dX10_again_30 : decode cX10_again 30 = .ok (.getfield 30, 3) := by decide +kernel
theorem dX10_again_33 : decode cX10_again 33 = .ok (.aload_n 2, 1) := by decide +kernel
theorem dX10_again_34 : decode cX10_again 34 = .ok (.invokevirtual 97, 3) := by decide +kernel
theorem dX10_again_37 : decode cX10_again 37 = .ok (.aload_n 0, 1) := by decide +kernel
theorem dX10_again_38 : decode cX10_again 38 = .ok (.iconst 0, 1) := by decide +kernel
theorem dX10_again_39 : decode cX10_again 39 = .ok (.putfield 72, 3) := by decide +kernel
theorem dX10_again_42 : decode cX10_again 42 = .ok (.aload_n 0, 1) := by decide +kernel
theorem dX10_again_43 : decode cX10_again 43 = .ok (.getfield 30, 3) := by decide +kernel
theorem dX10_again_46 : decode cX10_again 46 = .ok (.getfield 105, 3) := by decide +kernel
theorem dX10_again_49 : decode cX10_again 49 = .ok (.invokevirtual 108, 3) := by decide +kernel
theorem dX10_again_52 : decode cX10_again 52 = .ok (.ireturn, 1) := by decide +kernel
theorem dX10_at_0 : decode cX10_at 0 = .ok (.iload_n 1, 1) := by decide +kernel
theorem dX10_at_1 : decode cX10_at 1 = .ok (.ifCond .lt 15, 3) := by decide +kernel
theorem dX10_at_4 : decode cX10_at 4 = .ok (.iload_n 1, 1) := by decide +kernel
theorem dX10_at_5 : decode cX10_at 5 = .ok (.aload_n 0, 1) := by decide +kernel
theorem dX10_at_6 : decode cX10_at 6 = .ok (.arraylength, 1) := by decide +kernel
theorem dX10_at_7 : decode cX10_at 7 = .ok (.if_icmp .ge 9, 3) := by decide +kernel
theorem dX10_at_10 : decode cX10_at 10 = .ok (.aload_n 0, 1) := by decide +kernel
theorem dX10_at_11 : decode cX10_at 11 = .ok (.iload_n 1, 1) := by decide +kernel
theorem dX10_at_12 : decode cX10_at 12 = .ok (.iaload, 1) := by decide +kernel
theorem dX10_at_13 : decode cX10_at 13 = .ok (.goto 4, 3) := by decide +kernel
theorem dX10_at_16 : decode cX10_at 16 = .ok (.iconst 0, 1) := by decide +kernel
theorem dX10_at_17 : decode cX10_at 17 = .ok (.ireturn, 1) := by decide +kernel
theorem dX10_at__0 : decode cX10_at_ 0 = .ok (.iload_n 1, 1) := by decide +kernel
theorem dX10_at__1 : decode cX10_at_ 1 = .ok (.ifCond .lt 15, 3) := by decide +kernel
theorem dX10_at__4 : decode cX10_at_ 4 = .ok (.iload_n 1, 1) := by decide +kernel
theorem dX10_at__5 : decode cX10_at_ 5 = .ok (.aload_n 0, 1) := by decide +kernel
theorem dX10_at__6 : decode cX10_at_ 6 = .ok (.arraylength, 1) := by decide +kernel
theorem dX10_at__7 : decode cX10_at_ 7 = .ok (.if_icmp .ge 9, 3) := by decide +kernel
theorem dX10_at__10 : decode cX10_at_ 10 = .ok (.aload_n 0, 1) := by decide +kernel
theorem dX10_at__11 : decode cX10_at_ 11 = .ok (.iload_n 1, 1) := by decide +kernel
theorem dX10_at__12 : decode cX10_at_ 12 = .ok (.laload, 1) := by decide +kernel
theorem dX10_at__13 : decode cX10_at_ 13 = .ok (.goto 4, 3) := by decide +kernel
theorem dX10_at__16 : decode cX10_at_ 16 = .ok (.lconst 0, 1) := by decide +kernel
theorem dX10_at__17 : decode cX10_at_ 17 = .ok (.lreturn, 1) := by decide +kernel
theorem dX10_put_0 : decode cX10_put 0 = .ok (.iload_n 1, 1) := by decide +kernel
theorem dX10_put_1 : decode cX10_put 1 = .ok (.ifCond .lt 13, 3) := by decide +kernel
theorem dX10_put_4 : decode cX10_put 4 = .ok (.iload_n 1, 1) := by decide +kernel
theorem dX10_put_5 : decode cX10_put 5 = .ok (.aload_n 0, 1) := by decide +kernel
theorem dX10_put_6 : decode cX10_put 6 = .ok (.arraylength, 1) := by decide +kernel
theorem dX10_put_7 : decode cX10_put 7 = .ok (.if_icmp .ge 7, 3) := by decide +kernel
theorem dX10_put_10 : decode cX10_put 10 = .ok (.aload_n 0, 1) := by decide +kernel
theorem dX10_put_11 : decode cX10_put 11 = .ok (.iload_n 1, 1) := by decide +kernel
theorem dX10_put_12 : decode cX10_put 12 = .ok (.iload_n 2, 1) := by decide +kernel
theorem dX10_put_13 : decode cX10_put 13 = .ok (.iastore, 1) := by decide +kernel
theorem dX10_put_14 : decode cX10_put 14 = .ok (.return_, 1) := by decide +kernel
theorem dX10_put__0 : decode cX10_put_ 0 = .ok (.iload_n 1, 1) := by decide +kernel
theorem dX10_put__1 : decode cX10_put_ 1 = .ok (.ifCond .lt 13, 3) := by decide +kernel
theorem dX10_put__4 : decode cX10_put_ 4 = .ok (.iload_n 1, 1) := by decide +kernel
theorem dX10_put__5 : decode cX10_put_ 5 = .ok (.aload_n 0, 1) := by decide +kernel
theorem dX10_put__6 : decode cX10_put_ 6 = .ok (.arraylength, 1) := by decide +kernel
theorem dX10_put__7 : decode cX10_put_ 7 = .ok (.if_icmp .ge 7, 3) := by decide +kernel
theorem dX10_put__10 : decode cX10_put_ 10 = .ok (.aload_n 0, 1) := by decide +kernel
theorem dX10_put__11 : decode cX10_put_ 11 = .ok (.iload_n 1, 1) := by decide +kernel
theorem dX10_put__12 : decode cX10_put_ 12 = .ok (.lload_n 2, 1) := by decide +kernel
theorem dX10_put__13 : decode cX10_put_ 13 = .ok (.lastore, 1) := by decide +kernel
theorem dX10_put__14 : decode cX10_put_ 14 = .ok (.return_, 1) := by decide +kernel
theorem dX10_copy_0 : decode cX10_copy 0 = .ok (.aload_n 0, 1) := by decide +kernel
theorem dX10_copy_1 : decode cX10_copy 1 = .ok (.iconst 0, 1) := by decide +kernel
theorem dX10_copy_2 : decode cX10_copy 2 = .ok (.aload_n 1, 1) := by decide +kernel
theorem dX10_copy_3 : decode cX10_copy 3 = .ok (.iconst 0, 1) := by decide +kernel
theorem dX10_copy_4 : decode cX10_copy 4 = .ok (.aload_n 0, 1) := by decide +kernel
theorem dX10_copy_5 : decode cX10_copy 5 = .ok (.arraylength, 1) := by decide +kernel
theorem dX10_copy_6 : decode cX10_copy 6 = .ok (.aload_n 1, 1) := by decide +kernel
theorem dX10_copy_7 : decode cX10_copy 7 = .ok (.arraylength, 1) := by decide +kernel
theorem dX10_copy_8 : decode cX10_copy 8 = .ok (.invokestatic 301, 3) := by decide +kernel
theorem dX10_copy_11 : decode cX10_copy 11 = .ok (.invokestatic 304, 3) := by decide +kernel
theorem dX10_copy_14 : decode cX10_copy 14 = .ok (.return_, 1) := by decide +kernel
