theorem dX11_init_0 : decode cX11_init 0 = .ok (.aload_n 0, 1) := by decide +kernel
theorem dX11_init_1 : decode cX11_init 1 = .ok (.invokespecial 1, 3) := by decide +kernel
theorem dX11_init_4 : decode cX11_init 4 = .ok (.aload_n 0, 1) := by decide +kernel
theorem dX11_init_5 : decode cX11_init 5 = .ok (.bipush 40, 2) := by decide +kernel
theorem dX11_init_7 : decode cX11_init 7 = .ok (.newarray .int, 2) := by decide +kernel
theorem dX11_init_9 : decode cX11_init 9 = .ok (.putfield 7, 3) := by decide +kernel
theorem dX11_init_12 : decode cX11_init 12 = .ok (.aload_n 0, 1) := by decide +kernel
theorem dX11_init_13 : decode cX11_init 13 = .ok (.iconst 2, 1) := by decide +kernel
theorem dX11_init_14 : decode cX11_init 14 = .ok (.putfield 13, 3) := by decide +kernel
theorem dX11_init_17 : decode cX11_init 17 = .ok (.aload_n 0, 1) := by decide +kernel
theorem dX11_init_18 : decode cX11_init 18 = .ok (.bipush 6, 2) := by decide +kernel
theorem dX11_init_20 : decode cX11_init 20 = .ok (.newarray .int, 2) := by decide +kernel
theorem dX11_init_22 : decode cX11_init 22 = .ok (.putfield 17, 3) := by decide +kernel
theorem dX11_init_25 : decode cX11_init 25 = .ok (.aload_n 0, 1) := by decide +kernel
theorem dX11_init_26 : decode cX11_init 26 = .ok (.iconst 4, 1) := by decide +kernel
theorem dX11_init_27 : decode cX11_init 27 = .ok (.newarray .int, 2) := by decide +kernel
theorem dX11_init_29 : decode cX11_init 29 = .ok (.putfield 20, 3) := by decide +kernel
theorem dX11_init_32 : decode cX11_init 32 = .ok (.aload_n 0, 1) := by decide +kernel
theorem dX11_init_33 : decode cX11_init 33 = .ok (.iconst 4, 1) := by decide +kernel
theorem dX11_init_34 : decode cX11_init 34 = .ok (.newarray .int, 2) := by decide +kernel
theorem dX11_init_36 : decode cX11_init 36 = .ok (.putfield 23, 3) := by decide +kernel
theorem dX11_init_39 : decode cX11_init 39 = .ok (.aload_n 0, 1) := by decide +kernel
theorem dX11_init_40 : decode cX11_init 40 = .ok (.bipush 96, 2) := by decide +kernel
theorem dX11_init_42 : decode cX11_init 42 = .ok (.newarray .int, 2) := by decide +kernel
theorem dX11_init_44 : decode cX11_init 44 = .ok (.putfield 26, 3) := by decide +kernel
theorem dX11_init_47 : decode cX11_init 47 = .ok (.aload_n 0, 1) := by decide +kernel
theorem dX11_init_48 : decode cX11_init 48 = .ok (.bipush 6, 2) := by decide +kernel
theorem dX11_init_50 : decode cX11_init 50 = .ok (.newarray .int, 2) := by decide +kernel
theorem dX11_init_52 : decode cX11_init 52 = .ok (.putfield 29, 3) := by decide +kernel
theorem dX11_init_55 : decode cX11_init 55 = .ok (.aload_n 0, 1) := by decide +kernel
theorem dX11_init_56 : decode cX11_init 56 = .ok (.iconst 4, 1) := by decide +kernel
theorem dX11_init_57 : decode cX11_init 57 = .ok (.newarray .int, 2) := by decide +kernel
theorem dX11_init_59 : decode cX11_init 59 = .ok (.putfield 32, 3) := by decide +kernel
theorem dX11_init_62 : decode cX11_init 62 = .ok (.aload_n 0, 1) := by decide +kernel
theorem dX11_init_63 : decode cX11_init 63 = .ok (.iconst 4, 1) := by decide +kernel
theorem dX11_init_64 : decode cX11_init 64 = .ok (.newarray .int, 2) := by decide +kernel
theorem dX11_init_66 : decode cX11_init 66 = .ok (.putfield 35, 3) := by decide +kernel
theorem dX11_init_69 : decode cX11_init 69 = .ok (.aload_n 0, 1) := by decide +kernel
theorem dX11_init_70 : decode cX11_init 70 = .ok (.bipush 8, 2) := by decide +kernel
theorem dX11_init_72 : decode cX11_init 72 = .ok (.newarray .int, 2) := by decide +kernel
theorem dX11_init_74 : decode cX11_init 74 = .ok (.putfield 38, 3) := by decide +kernel
theorem dX11_init_77 : decode cX11_init 77 = .ok (.aload_n 0, 1) := by decide +kernel
theorem dX11_init_78 : decode cX11_init 78 = .ok (.bipush 8, 2) := by decide +kernel
theorem dX11_init_80 : decode cX11_init 80 = .ok (.newarray .int, 2) := by decide +kernel
theorem dX11_init_82 : decode cX11_init 82 = .ok (.putfield 41, 3) := by decide +kernel
theorem dX11_init_85 : decode cX11_init 85 = .ok (.aload_n 0, 1) := by decide +kernel
theorem dX11_init_86 : decode cX11_init 86 = .ok (.bipush 6, 2) := by decide +kernel
theorem dX11_init_88 : decode cX11_init 88 = .ok (.newarray .int, 2) := by decide +kernel
theorem dX11_init_90 : decode cX11_init 90 = .ok (.putfield 44, 3) := by decide +kernel
theorem dX11_init_93 : decode cX11_init 93 = .ok (.aload_n 0, 1) := by decide +kernel
theorem dX11_init_94 : decode cX11_init 94 = .ok (.sipush 240, 3) := by decide +kernel
theorem dX11_init_97 : decode cX11_init 97 = .ok (.newarray .int, 2) := by decide +kernel
theorem dX11_init_99 : decode cX11_init 99 = .ok (.putfield 47, 3) := by decide +kernel
theorem dX11_init_102 : decode cX11_init 102 = .ok (.aload_n 0, 1) := by decide +kernel
theorem dX11_init_103 : decode cX11_init 103 = .ok (.iconst 2, 1) := by decide +kernel
theorem dX11_init_104 : decode cX11_init 104 = .ok (.newarray .boolean, 2) := by decide +kernel
theorem dX11_init_106 : decode cX11_init 106 = .ok (.putfield 50, 3) := by decide +kernel
theorem dX11_init_109 : decode cX11_init 109 = .ok (.aload_n 0, 1) := by decide +kernel
theorem dX11_init_110 : decode cX11_init 110 = .ok (.bipush 6, 2) := by decide +kernel
theorem dX11_init_112 : decode cX11_init 112 = .ok (.newarray .int, 2) := by decide +kernel
theorem dX11_init_114 : decode cX11_init 114 = .ok (.putfield 54, 3) := by decide +kernel
theorem dX11_init_117 : decode cX11_init 117 = .ok (.aload_n 0, 1) := by decide +kernel
theorem dX11_init_118 : decode cX11_init 118 = .ok (.sipush 3969, 3) := by decide +kernel
theorem dX11_init_121 : decode cX11_init 121 = .ok (.newarray .boolean, 2) := by decide +kernel
theorem dX11_init_123 : decode cX11_init 123 = .ok (.putfield 57, 3) := by decide +kernel
theorem dX11_init_126 : decode cX11_init 126 = .ok (.aload_n 0, 1) := by decide +kernel
theorem dX11_init_127 : decode cX11_init 127 = .ok (.sipush 3969, 3) := by decide +kernel
theorem dX11_init_130 : decode cX11_init 130 = .ok (.newarray .int, 2) := by decide +kernel
theorem dX11_init_132 : decode cX11_init 132 = .ok (.putfield 60, 3) := by decide +kernel
theorem dX11_init_135 : decode cX11_init 135 = .ok (.aload_n 0, 1) := by decide +kernel
theorem dX11_init_136 : decode cX11_init 136 = .ok (.sipush 3969, 3) := by decide +kernel
theorem dX11_init_139 : decode cX11_init 139 = .ok (.newarray .int, 2) := by decide +kernel
theorem dX11_init_141 : decode cX11_init 141 = .ok (.putfield 63, 3) := by decide +kernel
theorem dX11_init_144 : decode cX11_init 144 = .ok (.aload_n 0, 1) := by decide +kernel
theorem dX11_init_145 : decode cX11_init 145 = .ok (.sipush 3969, 3) := by decide +kernel
theorem dX11_init_148 : decode cX11_init 148 = .ok (.newarray .long, 2) := by decide +kernel
theorem dX11_init_150 : decode cX11_init 150 = .ok (.putfield 66, 3) := by decide +kernel
theorem dX11_init_153 : decode cX11_init 153 = .ok (.aload_n 0, 1) := by decide +kernel
theorem dX11_init_154 : decode cX11_init 154 = .ok (.sipush 3969, 3) := by decide +kernel
theorem dX11_init_157 : decode cX11_init 157 = .ok (.newarray .long, 2) := by decide +kernel
theorem dX11_init_159 : decode cX11_init 159 = .ok (.putfield 70, 3) := by decide +kernel
theorem dX11_init_162 : decode cX11_init 162 = .ok (.aload_n 0, 1) := by decide +kernel
theorem dX11_init_163 : decode cX11_init 163 = .ok (.bipush 6, 2) := by decide +kernel
theorem dX11_init_165 : decode cX11_init 165 = .ok (.newarray .int, 2) := by decide +kernel
theorem dX11_init_167 : decode cX11_init 167 = .ok (.putfield 73, 3) := by decide +kernel
theorem dX11_init_170 : decode cX11_init 170 = .ok (.iconst 0, 1) := by decide +kernel
theorem dX11_init_171 : decode cX11_init 171 = .ok (.istore_n 1, 1) := by decide +kernel
theorem dX11_init_172 : decode cX11_init 172 = .ok (.iload_n 1, 1) := by decide +kernel
theorem dX11_init_173 : decode cX11_init 173 = .ok (.bipush 6, 2) := by decide +kernel
theorem dX11_init_175 : decode cX11_init 175 = .ok (.if_icmp .ge 25, 3) := by decide +kernel
theorem dX11_init_178 : decode cX11_init 178 = .ok (.aload_n 0, 1) := by decide +kernel
theorem dX11_init_179 : decode cX11_init 179 = .ok (.getfield 17, 3) := by decide +kernel
theorem dX11_init_182 : decode cX11_init 182 = .ok (.iload_n 1, 1) := by decide +kernel
theorem dX11_init_183 : decode cX11_init 183 = .ok (.bipush 8, 2) := by decide +kernel
theorem dX11_init_185 : decode cX11_init 185 = .ok (.iastore, 1) := by decide +kernel
theorem dX11_init_186 : decode cX11_init 186 = .ok (.aload_n 0, 1) := by decide +kernel
theorem dX11_init_187 : decode cX11_init 187 = .ok (.getfield 44, 3) := by decide +kernel
theorem dX11_init_190 : decode cX11_init 190 = .ok (.iload_n 1, 1) := by decide +kernel
theorem dX11_init_191 : decode cX11_init 191 = .ok (.bipush 10, 2) := by decide +kernel
theorem dX11_init_193 : decode cX11_init 193 = .ok (.iastore, 1) := by decide +kernel
theorem dX11_init_194 : decode cX11_init 194 = .ok (.iinc 1 1, 3) := by decide +kernel
theorem dX11_init_197 : decode cX11_init 197 = .ok (.goto (-25), 3) := by decide +kernel
theorem dX11_init_200 : decode cX11_init 200 = .ok (.return_, 1) := by decide +kernel
theorem dX11_in_0 : decode cX11_in 0 = .ok (.lload_n 0, 1) := by decide +kernel
theorem dX11_in_1 : decode cX11_in 1 = .ok (.lload_n 2, 1) := by decide +kernel
theorem dX11_in_2 : decode cX11_in 2 = .ok (.lcmp, 1) := by decide +kernel
theorem dX11_in_3 : decode cX11_in 3 = .ok (.ifCond .lt 14, 3) := by decide +kernel
theorem dX11_in_6 : decode cX11_in 6 = .ok (.lload_n 0, 1) := by decide +kernel
theorem dX11_in_7 : decode cX11_in 7 = .ok (.lload 4, 2) := by decide +kernel
theorem dX11_in_9 : decode cX11_in 9 = .ok (.lcmp, 1) := by decide +kernel
theorem dX11_in_10 : decode cX11_in 10 = .ok (.ifCond .gt 7, 3) := by decide +kernel
theorem dX11_in_13 : decode cX11_in 13 = .ok (.iconst 1, 1) := by decide +kernel
theorem dX11_in_14 : decode cX11_in 14 = .ok (.goto 4, 3) := by decide +kernel
theorem dX11_in_17 : decode cX11_in 17 = .ok (.iconst 0, 1) := by decide +kernel
theorem dX11_in_18 : decode cX11_in 18 = .ok (.ireturn, 1) := by decide +kernel
theorem dX11_has_0 : decode cX11_has 0 = .ok (.iload_n 0, 1) := by decide +kernel
theorem dX11_has_1 : decode cX11_has 1 = .ok (.iload_n 1, 1) := by decide +kernel
theorem dX11_has_2 : decode cX11_has 2 = .ok (.ishr, 1) := by decide +kernel
theorem dX11_has_3 : decode cX11_has 3 = .ok (.iconst 1, 1) := by decide +kernel
theorem dX11_has_4 : decode cX11_has 4 = .ok (.iand, 1) := by decide +kernel
theorem dX11_has_5 : decode cX11_has 5 = .ok (.iconst 1, 1) := by decide +kernel
theorem dX11_has_6 : decode cX11_has 6 = .ok (.if_icmp .ne 7, 3) := by decide +kernel
theorem dX11_has_9 : decode cX11_has 9 = .ok (.iconst 1, 1) := by decide +kernel
theorem dX11_has_10 : decode cX11_has 10 = .ok (.goto 4, 3) := by decide +kernel
theorem dX11_has_13 : decode cX11_has 13 = .ok (.iconst 0, 1) := by decide +kernel
theorem dX11_has_14 : decode cX11_has 14 = .ok (.ireturn, 1) := by decide +kernel
theorem dX11_many_0 : decode cX11_many 0 = .ok (.iconst 0, 1) := by decide +kernel
theorem dX11_many_1 : decode cX11_many 1 = .ok (.istore_n 1, 1) := by decide +kernel
theorem dX11_many_2 : decode cX11_many 2 = .ok (.iconst 0, 1) := by decide +kernel
theorem dX11_many_3 : decode cX11_many 3 = .ok (.istore_n 2, 1) := by decide +kernel
theorem dX11_many_4 : decode cX11_many 4 = .ok (.iload_n 2, 1) := by decide +kernel
theorem dX11_many_5 : decode cX11_many 5 = .ok (.bipush 6, 2) := by decide +kernel
theorem dX11_many_7 : decode cX11_many 7 = .ok (.if_icmp .ge 17, 3) := by decide +kernel
theorem dX11_many_10 : decode cX11_many 10 = .ok (.iload_n 1, 1) := by decide +kernel
theorem dX11_many_11 : decode cX11_many 11 = .ok (.iload_n 0, 1) := by decide +kernel
theorem dX11_many_12 : decode cX11_many 12 = .ok (.iload_n 2, 1) := by decide +kernel
theorem dX11_many_13 : decode cX11_many 13 = .ok (.ishr, 1) := by decide +kernel
theorem dX11_many_14 : decode cX11_many 14 = .ok (.iconst 1, 1) := by decide +kernel
theorem dX11_many_15 : decode cX11_many 15 = .ok (.iand, 1) := by decide +kernel
theorem dX11_many_16 : decode cX11_many 16 = .ok (.iadd, 1) := by decide +kernel
theorem dX11_many_17 : decode cX11_many 17 = .ok (.istore_n 1, 1) := by decide +kernel
theorem dX11_many_18 : decode cX11_many 18 = .ok (.iinc 2 1, 3) := by decide +kernel
theorem dX11_many_21 : decode cX11_many 21 = .ok (.goto (-17), 3) := by decide +kernel
theorem dX11_many_24 : decode cX11_many 24 = .ok (.iload_n 1, 1) := by decide +kernel
theorem dX11_many_25 : decode cX11_many 25 = .ok (.ireturn, 1) := by decide +kernel
theorem dX11_noFloor_0 : decode cX11_noFloor 0 = .ok (.iload_n 1, 1) := by decide +kernel
theorem dX11_noFloor_1 : decode cX11_noFloor 1 = .ok (.i2l, 1) := by decide +kernel
theorem dX11_noFloor_2 : decode cX11_noFloor 2 = .ok (.lconst 0, 1) := by decide +kernel
theorem dX11_noFloor_3 : decode cX11_noFloor 3 = .ok (.aload_n 0, 1) := by decide +kernel
theorem dX11_noFloor_4 : decode cX11_noFloor 4 = .ok (.getfield 13, 3) := by decide +kernel
theorem dX11_noFloor_7 : decode cX11_noFloor 7 = .ok (.iconst 1, 1) := by decide +kernel
theorem dX11_noFloor_8 : decode cX11_noFloor 8 = .ok (.isub, 1) := by decide +kernel
theorem dX11_noFloor_9 : decode cX11_noFloor 9 = .ok (.i2l, 1) := by decide +kernel
theorem dX11_noFloor_10 : decode cX11_noFloor 10 = .ok (.invokestatic 79, 3) := by decide +kernel
theorem dX11_noFloor_13 : decode cX11_noFloor 13 = .ok (.ifCond .ne 7, 3) := by decide +kernel
theorem dX11_noFloor_16 : decode cX11_noFloor 16 = .ok (.iconst 1, 1) := by decide +kernel
theorem dX11_noFloor_17 : decode cX11_noFloor 17 = .ok (.goto 4, 3) := by decide +kernel
theorem dX11_noFloor_20 : decode cX11_noFloor 20 = .ok (.iconst 0, 1) := by decide +kernel
theorem dX11_noFloor_21 : decode cX11_noFloor 21 = .ok (.ireturn, 1) := by decide +kernel
theorem dX11_noOne_0 : decode cX11_noOne 0 = .ok (.iload_n 1, 1) := by decide +kernel
theorem dX11_noOne_1 : decode cX11_noOne 1 = .ok (.i2l, 1) := by decide +kernel
theorem dX11_noOne_2 : decode cX11_noOne 2 = .ok (.lconst 0, 1) := by decide +kernel
theorem dX11_noOne_3 : decode cX11_noOne 3 = .ok (.ldc2_w 83, 3) := by decide +kernel
theorem dX11_noOne_6 : decode cX11_noOne 6 = .ok (.invokestatic 79, 3) := by decide +kernel
theorem dX11_noOne_9 : decode cX11_noOne 9 = .ok (.ifCond .eq 14, 3) := by decide +kernel
theorem dX11_noOne_12 : decode cX11_noOne 12 = .ok (.aload_n 0, 1) := by decide +kernel
theorem dX11_noOne_13 : decode cX11_noOne 13 = .ok (.getfield 17, 3) := by decide +kernel
theorem dX11_noOne_16 : decode cX11_noOne 16 = .ok (.iload_n 1, 1) := by decide +kernel
theorem dX11_noOne_17 : decode cX11_noOne 17 = .ok (.iaload, 1) := by decide +kernel
theorem dX11_noOne_18 : decode cX11_noOne 18 = .ok (.bipush 8, 2) := by decide +kernel
theorem dX11_noOne_20 : decode cX11_noOne 20 = .ok (.if_icmp .ne 7, 3) := by decide +kernel
theorem dX11_noOne_23 : decode cX11_noOne 23 = .ok (.iconst 1, 1) := by decide +kernel
theorem dX11_noOne_24 : decode cX11_noOne 24 = .ok (.goto 4, 3) := by decide +kernel
theorem dX11_noOne_27 : decode cX11_noOne 27 = .ok (.iconst 0, 1) := by decide +kernel
theorem dX11_noOne_28 : decode cX11_noOne 28 = .ok (.ireturn, 1) := by decide +kernel
theorem dX11_write_0 : decode cX11_write 0 = .ok (.aload_n 0, 1) := by decide +kernel
theorem dX11_write_1 : decode cX11_write 1 = .ok (.iconst 0, 1) := by decide +kernel
theorem dX11_write_2 : decode cX11_write 2 = .ok (.putfield 76, 3) := by decide +kernel
theorem dX11_write_5 : decode cX11_write 5 = .ok (.iload_n 1, 1) := by decide +kernel
theorem dX11_write_6 : decode cX11_write 6 = .ok (.i2l, 1) := by decide +kernel
theorem dX11_write_7 : decode cX11_write 7 = .ok (.lconst 1, 1) := by decide +kernel
theorem dX11_write_8 : decode cX11_write 8 = .ok (.ldc2_w 85, 3) := by decide +kernel
theorem dX11_write_11 : decode cX11_write 11 = .ok (.invokestatic 79, 3) := by decide +kernel
theorem dX11_write_14 : decode cX11_write 14 = .ok (.ifCond .ne 6, 3) := by decide +kernel
theorem dX11_write_17 : decode cX11_write 17 = .ok (.bipush (-2), 2) := by decide +kernel
theorem dX11_write_19 : decode cX11_write 19 = .ok (.ireturn, 1) := by decide +kernel
theorem dX11_write_20 : decode cX11_write 20 = .ok (.aload_n 0, 1) := by decide +kernel
theorem dX11_write_21 : decode cX11_write 21 = .ok (.getfield 87, 3) := by decide +kernel
theorem dX11_write_24 : decode cX11_write 24 = .ok (.iload_n 1, 1) := by decide +kernel
theorem dX11_write_25 : decode cX11_write 25 = .ok (.iadd, 1) := by decide +kernel
theorem dX11_write_26 : decode cX11_write 26 = .ok (.bipush 40, 2) := by decide +kernel
theorem dX11_write_28 : decode cX11_write 28 = .ok (.if_icmp .le 6, 3) := by decide +kernel
theorem dX11_write_31 : decode cX11_write 31 = .ok (.bipush (-4), 2) := by decide +kernel
theorem dX11_write_33 : decode cX11_write 33 = .ok (.ireturn, 1) := by decide +kernel
theorem dX11_write_34 : decode cX11_write 34 = .ok (.iload_n 1, 1) := by decide +kernel
theorem dX11_write_35 : decode cX11_write 35 = .ok (.iconst 1, 1) := by decide +kernel
theorem dX11_write_36 : decode cX11_write 36 = .ok (.isub, 1) := by decide +kernel
theorem dX11_write_37 : decode cX11_write 37 = .ok (.istore 4, 2) := by decide +kernel
theorem dX11_write_39 : decode cX11_write 39 = .ok (.iload 4, 2) := by decide +kernel
theorem dX11_write_41 : decode cX11_write 41 = .ok (.ifCond .lt 40, 3) := by decide +kernel
theorem dX11_write_44 : decode cX11_write 44 = .ok (.aload_n 0, 1) := by decide +kernel
theorem dX11_write_45 : decode cX11_write 45 = .ok (.getfield 7, 3) := by decide +kernel
theorem dX11_write_48 : decode cX11_write 48 = .ok (.aload_n 0, 1) := by decide +kernel
theorem dX11_write_49 : decode cX11_write 49 = .ok (.getfield 87, 3) := by decide +kernel
theorem dX11_write_52 : decode cX11_write 52 = .ok (.lload_n 2, 1) := by decide +kernel
theorem dX11_write_53 : decode cX11_write 53 = .ok (.bipush 8, 2) := by decide +kernel
theorem dX11_write_55 : decode cX11_write 55 = .ok (.iload 4, 2) := by decide +kernel
theorem dX11_write_57 : decode cX11_write 57 = .ok (.imul, 1) := by decide +kernel
theorem dX11_write_58 : decode cX11_write 58 = .ok (.lshr, 1) := by decide +kernel
theorem dX11_write_59 : decode cX11_write 59 = .ok (.l2i, 1) := by decide +kernel
theorem dX11_write_60 : decode cX11_write 60 = .ok (.sipush 255, 3) := by decide +kernel
theorem dX11_write_63 : decode cX11_write 63 = .ok (.iand, 1) := by decide +kernel
theorem dX11_write_64 : decode cX11_write 64 = .ok (.iastore, 1) := by decide +kernel
theorem dX11_write_65 : decode cX11_write 65 = .ok (.aload_n 0, 1) := by decide +kernel
theorem dX11_write_66 : decode cX11_write 66 = .ok (.dup, 1) := by decide +kernel
theorem dX11_write_67 : decode cX11_write 67 = .ok (.getfield 87, 3) := by decide +kernel
theorem dX11_write_70 : decode cX11_write 70 = .ok (.iconst 1, 1) := by decide +kernel
theorem dX11_write_71 : decode cX11_write 71 = .ok (.iadd, 1) := by decide +kernel
theorem dX11_write_72 : decode cX11_write 72 = .ok (.putfield 87, 3) := by decide +kernel
theorem dX11_write_75 : decode cX11_write 75 = .ok (.iinc 4 (-1), 3) := by decide +kernel
theorem dX11_write_78 : decode cX11_write 78 = .ok (.goto (-39), 3) := by decide +kernel
theorem dX11_write_81 : decode cX11_write 81 = .ok (.aload_n 0, 1) := by decide +kernel
theorem dX11_write_82 : decode cX11_write 82 = .ok (.getfield 87, 3) := by decide +kernel
theorem dX11_write_85 : decode cX11_write 85 = .ok (.ireturn, 1) := by decide +kernel
theorem dX11_wipe_0 : decode cX11_wipe 0 = .ok (.aload_n 0, 1) := by decide +kernel
theorem dX11_wipe_1 : decode cX11_wipe 1 = .ok (.iconst 0, 1) := by decide +kernel
theorem dX11_wipe_2 : decode cX11_wipe 2 = .ok (.putfield 76, 3) := by decide +kernel
theorem dX11_wipe_5 : decode cX11_wipe 5 = .ok (.aload_n 0, 1) := by decide +kernel
theorem dX11_wipe_6 : decode cX11_wipe 6 = .ok (.getfield 87, 3) := by decide +kernel
theorem dX11_wipe_9 : decode cX11_wipe 9 = .ok (.istore_n 1, 1) := by decide +kernel
theorem dX11_wipe_10 : decode cX11_wipe 10 = .ok (.aload_n 0, 1) := by decide +kernel
theorem dX11_wipe_11 : decode cX11_wipe 11 = .ok (.iconst 0, 1) := by decide +kernel
theorem dX11_wipe_12 : decode cX11_wipe 12 = .ok (.putfield 87, 3) := by decide +kernel
theorem dX11_wipe_15 : decode cX11_wipe 15 = .ok (.iload_n 1, 1) := by decide +kernel
theorem dX11_wipe_16 : decode cX11_wipe 16 = .ok (.ireturn, 1) := by decide +kernel
theorem dX11_figure_0 : decode cX11_figure 0 = .ok (.aload_n 0, 1) := by decide +kernel
theorem dX11_figure_1 : decode cX11_figure 1 = .ok (.getfield 90, 3) := by decide +kernel
theorem dX11_figure_4 : decode cX11_figure 4 = .ok (.aload_n 0, 1) := by decide +kernel
theorem dX11_figure_5 : decode cX11_figure 5 = .ok (.getfield 87, 3) := by decide +kernel
theorem dX11_figure_8 : decode cX11_figure 8 = .ok (.if_icmp .eq 26, 3) := by decide +kernel
theorem dX11_figure_11 : decode cX11_figure 11 = .ok (.aload_n 0, 1) := by decide +kernel
theorem dX11_figure_12 : decode cX11_figure 12 = .ok (.getfield 7, 3) := by decide +kernel
theorem dX11_figure_15 : decode cX11_figure 15 = .ok (.aload_n 0, 1) := by decide +kernel
theorem dX11_figure_16 : decode cX11_figure 16 = .ok (.getfield 90, 3) := by decide +kernel
theorem dX11_figure_19 : decode cX11_figure 19 = .ok (.iaload, 1) := by decide +kernel
theorem dX11_figure_20 : decode cX11_figure 20 = .ok (.bipush 48, 2) := by decide +kernel
theorem dX11_figure_22 : decode cX11_figure 22 = .ok (.isub, 1) := by decide +kernel
theorem dX11_figure_23 : decode cX11_figure 23 = .ok (.i2l, 1) := by decide +kernel
theorem dX11_figure_24 : decode cX11_figure 24 = .ok (.iload_n 1, 1) := by decide +kernel
theorem dX11_figure_25 : decode cX11_figure 25 = .ok (.i2l, 1) := by decide +kernel
theorem dX11_figure_26 : decode cX11_figure 26 = .ok (.iload_n 2, 1) := by decide +kernel
theorem dX11_figure_27 : decode cX11_figure 27 = .ok (.i2l, 1) := by decide +kernel
theorem dX11_figure_28 : decode cX11_figure 28 = .ok (.invokestatic 79, 3) := by decide +kernel
theorem dX11_figure_31 : decode cX11_figure 31 = .ok (.ifCond .ne 6, 3) := by decide +kernel
theorem dX11_figure_34 : decode cX11_figure 34 = .ok (.bipush (-9), 2) := by decide +kernel
theorem dX11_figure_36 : decode cX11_figure 36 = .ok (.ireturn, 1) := by decide +kernel
theorem dX11_figure_37 : decode cX11_figure 37 = .ok (.aload_n 0, 1) := by decide +kernel
theorem dX11_figure_38 : decode cX11_figure 38 = .ok (.dup, 1) := by decide +kernel
theorem dX11_figure_39 : decode cX11_figure 39 = .ok (.getfield 90, 3) := by decide +kernel
theorem dX11_figure_42 : decode cX11_figure 42 = .ok (.iconst 1, 1) := by decide +kernel
theorem dX11_figure_43 : decode cX11_figure 43 = .ok (.iadd, 1) := by decide +kernel
theorem dX11_figure_44 : decode cX11_figure 44 = .ok (.putfield 90, 3) := by decide +kernel
theorem dX11_figure_47 : decode cX11_figure 47 = .ok (.aload_n 0, 1) := by decide +kernel
theorem dX11_figure_48 : decode cX11_figure 48 = .ok (.getfield 7, 3) := by decide +kernel
theorem dX11_figure_51 : decode cX11_figure 51 = .ok (.aload_n 0, 1) := by decide +kernel
theorem dX11_figure_52 : decode cX11_figure 52 = .ok (.getfield 90, 3) := by decide +kernel
theorem dX11_figure_55 : decode cX11_figure 55 = .ok (.iconst 1, 1) := by decide +kernel
theorem dX11_figure_56 : decode cX11_figure 56 = .ok (.isub, 1) := by decide +kernel
theorem dX11_figure_57 : decode cX11_figure 57 = .ok (.iaload, 1) := by decide +kernel
theorem dX11_figure_58 : decode cX11_figure 58 = .ok (.bipush 48, 2) := by decide +kernel
theorem dX11_figure_60 : decode cX11_figure 60 = .ok (.isub, 1) := by decide +kernel
theorem dX11_figure_61 : decode cX11_figure 61 = .ok (.ireturn, 1) := by decide +kernel
theorem dX11_readRider_0 : decode cX11_readRider 0 = .ok (.iload_n 1, 1) := by decide +kernel
theorem dX11_readRider_1 : decode cX11_readRider 1 = .ok (.ifCond .eq 7, 3) := by decide +kernel
theorem dX11_readRider_4 : decode cX11_readRider 4 = .ok (.iconst 0, 1) := by decide +kernel
theorem dX11_readRider_5 : decode cX11_readRider 5 = .ok (.goto 14, 3) := by decide +kernel
theorem dX11_readRider_8 : decode cX11_readRider 8 = .ok (.aload_n 0, 1) := by decide +kernel
theorem dX11_readRider_9 : decode cX11_readRider 9 = .ok (.iconst 0, 1) := by decide +kernel
theorem dX11_readRider_10 : decode cX11_readRider 10 = .ok (.aload_n 0, 1) := by decide +kernel
theorem dX11_readRider_11 : decode cX11_readRider 11 = .ok (.getfield 93, 3) := by decide +kernel
theorem dX11_readRider_14 : decode cX11_readRider 14 = .ok (.iconst 1, 1) := by decide +kernel
theorem dX11_readRider_15 : decode cX11_readRider 15 = .ok (.isub, 1) := by decide +kernel
theorem dX11_readRider_16 : decode cX11_readRider 16 = .ok (.invokevirtual 96, 3) := by decide +kernel
theorem dX11_readRider_19 : decode cX11_readRider 19 = .ok (.istore_n 2, 1) := by decide +kernel
theorem dX11_readRider_20 : decode cX11_readRider 20 = .ok (.iload_n 2, 1) := by decide +kernel
theorem dX11_readRider_21 : decode cX11_readRider 21 = .ok (.bipush (-9), 2) := by decide +kernel
theorem dX11_readRider_23 : decode cX11_readRider 23 = .ok (.if_icmp .ne 8, 3) := by decide +kernel
theorem dX11_readRider_26 : decode cX11_readRider 26 = .ok (.bipush (-9), 2) := by decide +kernel
theorem dX11_readRider_28 : decode cX11_readRider 28 = .ok (.goto 14, 3) := by decide +kernel
theorem dX11_readRider_31 : decode cX11_readRider 31 = .ok (.aload_n 0, 1) := by decide +kernel
theorem dX11_readRider_32 : decode cX11_readRider 32 = .ok (.iconst 0, 1) := by decide +kernel
theorem dX11_readRider_33 : decode cX11_readRider 33 = .ok (.aload_n 0, 1) := by decide +kernel
theorem dX11_readRider_34 : decode cX11_readRider 34 = .ok (.getfield 93, 3) := by decide +kernel
theorem dX11_readRider_37 : decode cX11_readRider 37 = .ok (.iconst 1, 1) := by decide +kernel
theorem dX11_readRider_38 : decode cX11_readRider 38 = .ok (.isub, 1) := by decide +kernel
theorem dX11_readRider_39 : decode cX11_readRider 39 = .ok (.invokevirtual 96, 3) := by decide +kernel
theorem dX11_readRider_42 : decode cX11_readRider 42 = .ok (.istore_n 3, 1) := by decide +kernel
theorem dX11_readRider_43 : decode cX11_readRider 43 = .ok (.iload_n 3, 1) := by decide +kernel
theorem dX11_readRider_44 : decode cX11_readRider 44 = .ok (.bipush (-9), 2) := by decide +kernel
theorem dX11_readRider_46 : decode cX11_readRider 46 = .ok (.if_icmp .eq 24, 3) := by decide +kernel
theorem dX11_readRider_49 : decode cX11_readRider 49 = .ok (.iload_n 1, 1) := by decide +kernel
theorem dX11_readRider_50 : decode cX11_readRider 50 = .ok (.ifCond .ne 20, 3) := by decide +kernel
theorem dX11_readRider_53 : decode cX11_readRider 53 = .ok (.iload_n 3, 1) := by decide +kernel
theorem dX11_readRider_54 : decode cX11_readRider 54 = .ok (.iload_n 2, 1) := by decide +kernel
theorem dX11_readRider_55 : decode cX11_readRider 55 = .ok (.if_icmp .ne 15, 3) := by decide +kernel
theorem dX11_readRider_58 : decode cX11_readRider 58 = .ok (.aload_n 0, 1) := by decide +kernel
theorem dX11_readRider_59 : decode cX11_readRider 59 = .ok (.dup, 1) := by decide +kernel
theorem dX11_readRider_60 : decode cX11_readRider 60 = .ok (.getfield 90, 3) := by decide +kernel
theorem dX11_readRider_63 : decode cX11_readRider 63 = .ok (.iconst 1, 1) := by decide +kernel
theorem dX11_readRider_64 : decode cX11_readRider 64 = .ok (.isub, 1) := by decide +kernel
theorem dX11_readRider_65 : decode cX11_readRider 65 = .ok (.putfield 90, 3) := by decide +kernel
theorem dX11_readRider_68 : decode cX11_readRider 68 = .ok (.iconst 0, 1) := by decide +kernel
theorem dX11_readRider_69 : decode cX11_readRider 69 = .ok (.ireturn, 1) := by decide +kernel
theorem dX11_readRider_70 : decode cX11_readRider 70 = .ok (.iload_n 3, 1) := by decide +kernel
theorem dX11_readRider_71 : decode cX11_readRider 71 = .ok (.bipush (-9), 2) := by decide +kernel
theorem dX11_readRider_73 : decode cX11_readRider 73 = .ok (.if_icmp .ne 5, 3) := by decide +kernel
theorem dX11_readRider_76 : decode cX11_readRider 76 = .ok (.iconst 0, 1) := by decide +kernel
theorem dX11_readRider_77 : decode cX11_readRider 77 = .ok (.ireturn, 1) := by decide +kernel
theorem dX11_readRider_78 : decode cX11_readRider 78 = .ok (.aload_n 0, 1) := by decide +kernel
theorem dX11_readRider_79 : decode cX11_readRider 79 = .ok (.getfield 29, 3) := by decide +kernel
theorem dX11_readRider_82 : decode cX11_readRider 82 = .ok (.aload_n 0, 1) := by decide +kernel
theorem dX11_readRider_83 : decode cX11_readRider 83 = .ok (.getfield 100, 3) := by decide +kernel
theorem dX11_readRider_86 : decode cX11_readRider 86 = .ok (.iload_n 1, 1) := by decide +kernel
theorem dX11_readRider_87 : decode cX11_readRider 87 = .ok (.ifCond .eq 8, 3) := by decide +kernel
theorem dX11_readRider_90 : decode cX11_readRider 90 = .ok (.bipush 6, 2) := by decide +kernel
theorem dX11_readRider_92 : decode cX11_readRider 92 = .ok (.goto 4, 3) := by decide +kernel
theorem dX11_readRider_95 : decode cX11_readRider 95 = .ok (.iload_n 2, 1) := by decide +kernel
theorem dX11_readRider_96 : decode cX11_readRider 96 = .ok (.iastore, 1) := by decide +kernel
theorem dX11_readRider_97 : decode cX11_readRider 97 = .ok (.aload_n 0, 1) := by decide +kernel
theorem dX11_readRider_98 : decode cX11_readRider 98 = .ok (.getfield 35, 3) := by decide +kernel
theorem dX11_readRider_101 : decode cX11_readRider 101 = .ok (.aload_n 0, 1) := by decide +kernel
theorem dX11_readRider_102 : decode cX11_readRider 102 = .ok (.getfield 100, 3) := by decide +kernel
theorem dX11_readRider_105 : decode cX11_readRider 105 = .ok (.iload_n 2, 1) := by decide +kernel
theorem dX11_readRider_106 : decode cX11_readRider 106 = .ok (.iastore, 1) := by decide +kernel
theorem dX11_readRider_107 : decode cX11_readRider 107 = .ok (.aload_n 0, 1) := by decide +kernel
theorem dX11_readRider_108 : decode cX11_readRider 108 = .ok (.getfield 32, 3) := by decide +kernel
theorem dX11_readRider_111 : decode cX11_readRider 111 = .ok (.aload_n 0, 1) := by decide +kernel
theorem dX11_readRider_112 : decode cX11_readRider 112 = .ok (.getfield 100, 3) := by decide +kernel
theorem dX11_readRider_115 : decode cX11_readRider 115 = .ok (.iload_n 3, 1) := by decide +kernel
theorem dX11_readRider_116 : decode cX11_readRider 116 = .ok (.iastore, 1) := by decide +kernel
theorem dX11_readRider_117 : decode cX11_readRider 117 = .ok (.aload_n 0, 1) := by decide +kernel
theorem dX11_readRider_118 : decode cX11_readRider 118 = .ok (.dup, 1) := by decide +kernel
theorem dX11_readRider_119 : decode cX11_readRider 119 = .ok (.getfield 100, 3) := by decide +kernel
theorem dX11_readRider_122 : decode cX11_readRider 122 = .ok (.iconst 1, 1) := by decide +kernel
theorem dX11_readRider_123 : decode cX11_readRider 123 = .ok (.iadd, 1) := by decide +kernel
theorem dX11_readRider_124 : decode cX11_readRider 124 = .ok (.putfield 100, 3) := by decide +kernel
theorem dX11_readRider_127 : decode cX11_readRider 127 = .ok (.iconst 1, 1) := by decide +kernel
theorem dX11_readRider_128 : decode cX11_readRider 128 = .ok (.ireturn, 1) := by decide +kernel
theorem dX11_readStranger_0 : decode cX11_readStranger 0 = .ok (.iload_n 1, 1) := by decide +kernel
theorem dX11_readStranger_1 : decode cX11_readStranger 1 = .ok (.ifCond .eq 8, 3) := by decide +kernel
theorem dX11_readStranger_4 : decode cX11_readStranger 4 = .ok (.bipush 6, 2) := by decide +kernel
theorem dX11_readStranger_6 : decode cX11_readStranger 6 = .ok (.goto 14, 3) := by decide +kernel
theorem dX11_readStranger_9 : decode cX11_readStranger 9 = .ok (.aload_n 0, 1) := by decide +kernel
theorem dX11_readStranger_10 : decode cX11_readStranger 10 = .ok (.iconst 0, 1) := by decide +kernel
theorem dX11_readStranger_11 : decode cX11_readStranger 11 = .ok (.aload_n 0, 1) := by decide +kernel
theorem dX11_readStranger_12 : decode cX11_readStranger 12 = .ok (.getfield 93, 3) := by decide +kernel
theorem dX11_readStranger_15 : decode cX11_readStranger 15 = .ok (.iconst 1, 1) := by decide +kernel
theorem dX11_readStranger_16 : decode cX11_readStranger 16 = .ok (.isub, 1) := by decide +kernel
theorem dX11_readStranger_17 : decode cX11_readStranger 17 = .ok (.invokevirtual 96, 3) := by decide +kernel
theorem dX11_readStranger_20 : decode cX11_readStranger 20 = .ok (.istore_n 2, 1) := by decide +kernel
theorem dX11_readStranger_21 : decode cX11_readStranger 21 = .ok (.iload_n 2, 1) := by decide +kernel
theorem dX11_readStranger_22 : decode cX11_readStranger 22 = .ok (.bipush (-9), 2) := by decide +kernel
theorem dX11_readStranger_24 : decode cX11_readStranger 24 = .ok (.if_icmp .ne 5, 3) := by decide +kernel
theorem dX11_readStranger_27 : decode cX11_readStranger 27 = .ok (.iconst 0, 1) := by decide +kernel
theorem dX11_readStranger_28 : decode cX11_readStranger 28 = .ok (.ireturn, 1) := by decide +kernel
theorem dX11_readStranger_29 : decode cX11_readStranger 29 = .ok (.aload_n 0, 1) := by decide +kernel
theorem dX11_readStranger_30 : decode cX11_readStranger 30 = .ok (.getfield 29, 3) := by decide +kernel
theorem dX11_readStranger_33 : decode cX11_readStranger 33 = .ok (.iconst 4, 1) := by decide +kernel
theorem dX11_readStranger_34 : decode cX11_readStranger 34 = .ok (.aload_n 0, 1) := by decide +kernel
theorem dX11_readStranger_35 : decode cX11_readStranger 35 = .ok (.getfield 103, 3) := by decide +kernel
theorem dX11_readStranger_38 : decode cX11_readStranger 38 = .ok (.iadd, 1) := by decide +kernel
theorem dX11_readStranger_39 : decode cX11_readStranger 39 = .ok (.iload_n 2, 1) := by decide +kernel
theorem dX11_readStranger_40 : decode cX11_readStranger 40 = .ok (.iastore, 1) := by decide +kernel
theorem dX11_readStranger_41 : decode cX11_readStranger 41 = .ok (.aload_n 0, 1) := by decide +kernel
theorem dX11_readStranger_42 : decode cX11_readStranger 42 = .ok (.dup, 1) := by decide +kernel
theorem dX11_readStranger_43 : decode cX11_readStranger 43 = .ok (.getfield 103, 3) := by decide +kernel
theorem dX11_readStranger_46 : decode cX11_readStranger 46 = .ok (.iconst 1, 1) := by decide +kernel
theorem dX11_readStranger_47 : decode cX11_readStranger 47 = .ok (.iadd, 1) := by decide +kernel
theorem dX11_readStranger_48 : decode cX11_readStranger 48 = .ok (.putfield 103, 3) := by decide +kernel
theorem dX11_readStranger_51 : decode cX11_readStranger 51 = .ok (.iconst 1, 1) := by decide +kernel
theorem dX11_readStranger_52 : decode cX11_readStranger 52 = .ok (.ireturn, 1) := by decide +kernel
theorem dX11_readPart_0 : decode cX11_readPart 0 = .ok (.aload_n 0, 1) := by decide +kernel
theorem dX11_readPart_1 : decode cX11_readPart 1 = .ok (.getfield 7, 3) := by decide +kernel
theorem dX11_readPart_4 : decode cX11_readPart 4 = .ok (.aload_n 0, 1) := by decide +kernel
theorem dX11_readPart_5 : decode cX11_readPart 5 = .ok (.getfield 90, 3) := by decide +kernel
theorem dX11_readPart_8 : decode cX11_readPart 8 = .ok (.iaload, 1) := by decide +kernel
theorem dX11_readPart_9 : decode cX11_readPart 9 = .ok (.istore_n 1, 1) := by decide +kernel
theorem dX11_readPart_10 : decode cX11_readPart 10 = .ok (.iload_n 1, 1) := by decide +kernel
theorem dX11_readPart_11 : decode cX11_readPart 11 = .ok (.bipush 73, 2) := by decide +kernel
theorem dX11_readPart_13 : decode cX11_readPart 13 = .ok (.if_icmp .eq 9, 3) := by decide +kernel
theorem dX11_readPart_16 : decode cX11_readPart 16 = .ok (.iload_n 1, 1) := by decide +kernel
theorem dX11_readPart_17 : decode cX11_readPart 17 = .ok (.bipush 65, 2) := by decide +kernel
theorem dX11_readPart_19 : decode cX11_readPart 19 = .ok (.if_icmp .ne 15, 3) := by decide +kernel
theorem dX11_readPart_22 : decode cX11_readPart 22 = .ok (.aload_n 0, 1) := by decide +kernel
theorem dX11_readPart_23 : decode cX11_readPart 23 = .ok (.getfield 100, 3) := by decide +kernel
theorem dX11_readPart_26 : decode cX11_readPart 26 = .ok (.iconst 4, 1) := by decide +kernel
theorem dX11_readPart_27 : decode cX11_readPart 27 = .ok (.if_icmp .ge 7, 3) := by decide +kernel
theorem dX11_readPart_30 : decode cX11_readPart 30 = .ok (.iconst 1, 1) := by decide +kernel
theorem dX11_readPart_31 : decode cX11_readPart 31 = .ok (.goto 4, 3) := by decide +kernel
theorem dX11_readPart_34 : decode cX11_readPart 34 = .ok (.iconst 0, 1) := by decide +kernel
theorem dX11_readPart_35 : decode cX11_readPart 35 = .ok (.istore_n 2, 1) := by decide +kernel
theorem dX11_readPart_36 : decode cX11_readPart 36 = .ok (.iload_n 1, 1) := by decide +kernel
theorem dX11_readPart_37 : decode cX11_readPart 37 = .ok (.bipush 83, 2) := by decide +kernel
theorem dX11_readPart_39 : decode cX11_readPart 39 = .ok (.if_icmp .eq 9, 3) := by decide +kernel
theorem dX11_readPart_42 : decode cX11_readPart 42 = .ok (.iload_n 1, 1) := by decide +kernel
theorem dX11_readPart_43 : decode cX11_readPart 43 = .ok (.bipush 84, 2) := by decide +kernel
theorem dX11_readPart_45 : decode cX11_readPart 45 = .ok (.if_icmp .ne 15, 3) := by decide +kernel
theorem dX11_readPart_48 : decode cX11_readPart 48 = .ok (.aload_n 0, 1) := by decide +kernel
theorem dX11_readPart_49 : decode cX11_readPart 49 = .ok (.getfield 103, 3) := by decide +kernel
theorem dX11_readPart_52 : decode cX11_readPart 52 = .ok (.iconst 2, 1) := by decide +kernel
theorem dX11_readPart_53 : decode cX11_readPart 53 = .ok (.if_icmp .ge 7, 3) := by decide +kernel
theorem dX11_readPart_56 : decode cX11_readPart 56 = .ok (.iconst 1, 1) := by decide +kernel
theorem dX11_readPart_57 : decode cX11_readPart 57 = .ok (.goto 4, 3) := by decide +kernel
theorem dX11_readPart_60 : decode cX11_readPart 60 = .ok (.iconst 0, 1) := by decide +kernel
theorem dX11_readPart_61 : decode cX11_readPart 61 = .ok (.istore_n 3, 1) := by decide +kernel
theorem dX11_readPart_62 : decode cX11_readPart 62 = .ok (.iload_n 2, 1) := by decide +kernel
theorem dX11_readPart_63 : decode cX11_readPart 63 = .ok (.ifCond .ne 9, 3) := by decide +kernel
theorem dX11_readPart_66 : decode cX11_readPart 66 = .ok (.iload_n 3, 1) := by decide +kernel
theorem dX11_readPart_67 : decode cX11_readPart 67 = .ok (.ifCond .ne 5, 3) := by decide +kernel
theorem dX11_readPart_70 : decode cX11_readPart 70 = .ok (.iconst 0, 1) := by decide +kernel
theorem dX11_readPart_71 : decode cX11_readPart 71 = .ok (.ireturn, 1) := by decide +kernel
theorem dX11_readPart_72 : decode cX11_readPart 72 = .ok (.aload_n 0, 1) := by decide +kernel
theorem dX11_readPart_73 : decode cX11_readPart 73 = .ok (.dup, 1) := by decide +kernel
theorem dX11_readPart_74 : decode cX11_readPart 74 = .ok (.getfield 90, 3) := by decide +kernel
theorem dX11_readPart_77 : decode cX11_readPart 77 = .ok (.iconst 1, 1) := by decide +kernel
theorem dX11_readPart_78 : decode cX11_readPart 78 = .ok (.iadd, 1) := by decide +kernel
theorem dX11_readPart_79 : decode cX11_readPart 79 = .ok (.putfield 90, 3) := by decide +kernel
theorem dX11_readPart_82 : decode cX11_readPart 82 = .ok (.iload_n 2, 1) := by decide +kernel
theorem dX11_readPart_83 : decode cX11_readPart 83 = .ok (.ifCond .eq 21, 3) := by decide +kernel
theorem dX11_readPart_86 : decode cX11_readPart 86 = .ok (.aload_n 0, 1) := by decide +kernel
theorem dX11_readPart_87 : decode cX11_readPart 87 = .ok (.iload_n 1, 1) := by decide +kernel
theorem dX11_readPart_88 : decode cX11_readPart 88 = .ok (.bipush 73, 2) := by decide +kernel
theorem dX11_readPart_90 : decode cX11_readPart 90 = .ok (.if_icmp .ne 7, 3) := by decide +kernel
theorem dX11_readPart_93 : decode cX11_readPart 93 = .ok (.iconst 1, 1) := by decide +kernel
theorem dX11_readPart_94 : decode cX11_readPart 94 = .ok (.goto 4, 3) := by decide +kernel
theorem dX11_readPart_97 : decode cX11_readPart 97 = .ok (.iconst 0, 1) := by decide +kernel
theorem dX11_readPart_98 : decode cX11_readPart 98 = .ok (.invokevirtual 106, 3) := by decide +kernel
theorem dX11_readPart_101 : decode cX11_readPart 101 = .ok (.goto 18, 3) := by decide +kernel
theorem dX11_readPart_104 : decode cX11_readPart 104 = .ok (.aload_n 0, 1) := by decide +kernel
theorem dX11_readPart_105 : decode cX11_readPart 105 = .ok (.iload_n 1, 1) := by decide +kernel
theorem dX11_readPart_106 : decode cX11_readPart 106 = .ok (.bipush 84, 2) := by decide +kernel
theorem dX11_readPart_108 : decode cX11_readPart 108 = .ok (.if_icmp .ne 7, 3) := by decide +kernel
theorem dX11_readPart_111 : decode cX11_readPart 111 = .ok (.iconst 1, 1) := by decide +kernel
theorem dX11_readPart_112 : decode cX11_readPart 112 = .ok (.goto 4, 3) := by decide +kernel
theorem dX11_readPart_115 : decode cX11_readPart 115 = .ok (.iconst 0, 1) := by decide +kernel
theorem dX11_readPart_116 : decode cX11_readPart 116 = .ok (.invokevirtual 110, 3) := by decide +kernel
theorem dX11_readPart_119 : decode cX11_readPart 119 = .ok (.ireturn, 1) := by decide +kernel
theorem dX11_readHouse_0 : decode cX11_readHouse 0 = .ok (.aload_n 0, 1) := by decide +kernel
theorem dX11_readHouse_1 : decode cX11_readHouse 1 = .ok (.iconst 0, 1) := by decide +kernel
theorem dX11_readHouse_2 : decode cX11_readHouse 2 = .ok (.putfield 90, 3) := by decide +kernel
theorem dX11_readHouse_5 : decode cX11_readHouse 5 = .ok (.aload_n 0, 1) := by decide +kernel
theorem dX11_readHouse_6 : decode cX11_readHouse 6 = .ok (.iconst 0, 1) := by decide +kernel
theorem dX11_readHouse_7 : decode cX11_readHouse 7 = .ok (.putfield 100, 3) := by decide +kernel
theorem dX11_readHouse_10 : decode cX11_readHouse 10 = .ok (.aload_n 0, 1) := by decide +kernel
theorem dX11_readHouse_11 : decode cX11_readHouse 11 = .ok (.iconst 0, 1) := by decide +kernel
theorem dX11_readHouse_12 : decode cX11_readHouse 12 = .ok (.putfield 103, 3) := by decide +kernel
theorem dX11_readHouse_15 : decode cX11_readHouse 15 = .ok (.iconst 0, 1) := by decide +kernel
theorem dX11_readHouse_16 : decode cX11_readHouse 16 = .ok (.istore_n 1, 1) := by decide +kernel
theorem dX11_readHouse_17 : decode cX11_readHouse 17 = .ok (.iload_n 1, 1) := by decide +kernel
theorem dX11_readHouse_18 : decode cX11_readHouse 18 = .ok (.bipush 6, 2) := by decide +kernel
theorem dX11_readHouse_20 : decode cX11_readHouse 20 = .ok (.if_icmp .ge 17, 3) := by decide +kernel
theorem dX11_readHouse_23 : decode cX11_readHouse 23 = .ok (.aload_n 0, 1) := by decide +kernel
theorem dX11_readHouse_24 : decode cX11_readHouse 24 = .ok (.getfield 29, 3) := by decide +kernel
theorem dX11_readHouse_27 : decode cX11_readHouse 27 = .ok (.iload_n 1, 1) := by decide +kernel
theorem dX11_readHouse_28 : decode cX11_readHouse 28 = .ok (.bipush 8, 2) := by decide +kernel
theorem dX11_readHouse_30 : decode cX11_readHouse 30 = .ok (.iastore, 1) := by decide +kernel
theorem dX11_readHouse_31 : decode cX11_readHouse 31 = .ok (.iinc 1 1, 3) := by decide +kernel
theorem dX11_readHouse_34 : decode cX11_readHouse 34 = .ok (.goto (-17), 3) := by decide +kernel
theorem dX11_readHouse_37 : decode cX11_readHouse 37 = .ok (.aload_n 0, 1) := by decide +kernel
theorem dX11_readHouse_38 : decode cX11_readHouse 38 = .ok (.getfield 87, 3) := by decide +kernel
theorem dX11_readHouse_41 : decode cX11_readHouse 41 = .ok (.ifCond .eq 14, 3) := by decide +kernel
theorem dX11_readHouse_44 : decode cX11_readHouse 44 = .ok (.aload_n 0, 1) := by decide +kernel
theorem dX11_readHouse_45 : decode cX11_readHouse 45 = .ok (.getfield 7, 3) := by decide +kernel
theorem dX11_readHouse_48 : decode cX11_readHouse 48 = .ok (.iconst 0, 1) := by decide +kernel
theorem dX11_readHouse_49 : decode cX11_readHouse 49 = .ok (.iaload, 1) := by decide +kernel
theorem dX11_readHouse_50 : decode cX11_readHouse 50 = .ok (.bipush 78, 2) := by decide +kernel
theorem dX11_readHouse_52 : decode cX11_readHouse 52 = .ok (.if_icmp .eq 5, 3) := by decide +kernel
theorem dX11_readHouse_55 : decode cX11_readHouse 55 = .ok (.iconst 0, 1) := by decide +kernel
theorem dX11_readHouse_56 : decode cX11_readHouse 56 = .ok (.ireturn, 1) := by decide +kernel
theorem dX11_readHouse_57 : decode cX11_readHouse 57 = .ok (.aload_n 0, 1) := by decide +kernel
theorem dX11_readHouse_58 : decode cX11_readHouse 58 = .ok (.iconst 1, 1) := by decide +kernel
theorem dX11_readHouse_59 : decode cX11_readHouse 59 = .ok (.putfield 90, 3) := by decide +kernel
theorem dX11_readHouse_62 : decode cX11_readHouse 62 = .ok (.aload_n 0, 1) := by decide +kernel
theorem dX11_readHouse_63 : decode cX11_readHouse 63 = .ok (.aload_n 0, 1) := by decide +kernel
theorem dX11_readHouse_64 : decode cX11_readHouse 64 = .ok (.iconst 2, 1) := by decide +kernel
theorem dX11_readHouse_65 : decode cX11_readHouse 65 = .ok (.bipush 6, 2) := by decide +kernel
theorem dX11_readHouse_67 : decode cX11_readHouse 67 = .ok (.invokevirtual 96, 3) := by decide +kernel
theorem dX11_readHouse_70 : decode cX11_readHouse 70 = .ok (.putfield 93, 3) := by decide +kernel
theorem dX11_readHouse_73 : decode cX11_readHouse 73 = .ok (.aload_n 0, 1) := by decide +kernel
theorem dX11_readHouse_74 : decode cX11_readHouse 74 = .ok (.getfield 93, 3) := by decide +kernel
theorem dX11_readHouse_77 : decode cX11_readHouse 77 = .ok (.bipush (-9), 2) := by decide +kernel
theorem dX11_readHouse_79 : decode cX11_readHouse 79 = .ok (.if_icmp .ne 5, 3) := by decide +kernel
theorem dX11_readHouse_82 : decode cX11_readHouse 82 = .ok (.iconst 1, 1) := by decide +kernel
theorem dX11_readHouse_83 : decode cX11_readHouse 83 = .ok (.ireturn, 1) := by decide +kernel
theorem dX11_readHouse_84 : decode cX11_readHouse 84 = .ok (.aload_n 0, 1) := by decide +kernel
theorem dX11_readHouse_85 : decode cX11_readHouse 85 = .ok (.getfield 90, 3) := by decide +kernel
theorem dX11_readHouse_88 : decode cX11_readHouse 88 = .ok (.aload_n 0, 1) := by decide +kernel
theorem dX11_readHouse_89 : decode cX11_readHouse 89 = .ok (.getfield 87, 3) := by decide +kernel
theorem dX11_readHouse_92 : decode cX11_readHouse 92 = .ok (.if_icmp .ge 15, 3) := by decide +kernel
theorem dX11_readHouse_95 : decode cX11_readHouse 95 = .ok (.aload_n 0, 1) := by decide +kernel
theorem dX11_readHouse_96 : decode cX11_readHouse 96 = .ok (.invokevirtual 113, 3) := by decide +kernel
theorem dX11_readHouse_99 : decode cX11_readHouse 99 = .ok (.ifCond .ne (-15), 3) := by decide +kernel
theorem dX11_readHouse_102 : decode cX11_readHouse 102 = .ok (.aload_n 0, 1) := by decide +kernel
theorem dX11_readHouse_103 : decode cX11_readHouse 103 = .ok (.getfield 90, 3) := by decide +kernel
theorem dX11_readHouse_106 : decode cX11_readHouse 106 = .ok (.ireturn, 1) := by decide +kernel
theorem dX11_readHouse_107 : decode cX11_readHouse 107 = .ok (.bipush (-9), 2) := by decide +kernel
theorem dX11_readHouse_109 : decode cX11_readHouse 109 = .ok (.ireturn, 1) := by decide +kernel
theorem dX11_fault_0 : decode cX11_fault 0 = .ok (.aload_n 0, 1) := by decide +kernel
theorem dX11_fault_1 : decode cX11_fault 1 = .ok (.iconst 0, 1) := by decide +kernel
theorem dX11_fault_2 : decode cX11_fault 2 = .ok (.putfield 76, 3) := by decide +kernel
theorem dX11_fault_5 : decode cX11_fault 5 = .ok (.aload_n 0, 1) := by decide +kernel
theorem dX11_fault_6 : decode cX11_fault 6 = .ok (.invokevirtual 117, 3) := by decide +kernel
theorem dX11_fault_9 : decode cX11_fault 9 = .ok (.ireturn, 1) := by decide +kernel
theorem dX11_house_0 : decode cX11_house 0 = .ok (.aload_n 0, 1) := by decide +kernel
theorem dX11_house_1 : decode cX11_house 1 = .ok (.iconst 0, 1) := by decide +kernel
theorem dX11_house_2 : decode cX11_house 2 = .ok (.putfield 76, 3) := by decide +kernel
theorem dX11_house_5 : decode cX11_house 5 = .ok (.aload_n 0, 1) := by decide +kernel
theorem dX11_house_6 : decode cX11_house 6 = .ok (.invokevirtual 117, 3) := by decide +kernel
theorem dX11_house_9 : decode cX11_house 9 = .ok (.bipush (-9), 2) := by decide +kernel
theorem dX11_house_11 : decode cX11_house 11 = .ok (.if_icmp .eq 6, 3) := by decide +kernel
theorem dX11_house_14 : decode cX11_house 14 = .ok (.bipush (-3), 2) := by decide +kernel
theorem dX11_house_16 : decode cX11_house 16 = .ok (.ireturn, 1) := by decide +kernel
theorem dX11_house_17 : decode cX11_house 17 = .ok (.aload_n 0, 1) := by decide +kernel
theorem dX11_house_18 : decode cX11_house 18 = .ok (.aload_n 0, 1) := by decide +kernel
theorem dX11_house_19 : decode cX11_house 19 = .ok (.getfield 93, 3) := by decide +kernel
theorem dX11_house_22 : decode cX11_house 22 = .ok (.putfield 13, 3) := by decide +kernel
theorem dX11_house_25 : decode cX11_house 25 = .ok (.aload_n 0, 1) := by decide +kernel
theorem dX11_house_26 : decode cX11_house 26 = .ok (.aload_n 0, 1) := by decide +kernel
theorem dX11_house_27 : decode cX11_house 27 = .ok (.getfield 100, 3) := by decide +kernel
theorem dX11_house_30 : decode cX11_house 30 = .ok (.putfield 121, 3) := by decide +kernel
theorem dX11_house_33 : decode cX11_house 33 = .ok (.aload_n 0, 1) := by decide +kernel
theorem dX11_house_34 : decode cX11_house 34 = .ok (.aload_n 0, 1) := by decide +kernel
theorem dX11_house_35 : decode cX11_house 35 = .ok (.getfield 103, 3) := by decide +kernel
theorem dX11_house_38 : decode cX11_house 38 = .ok (.putfield 124, 3) := by decide +kernel
theorem dX11_house_41 : decode cX11_house 41 = .ok (.iconst 0, 1) := by decide +kernel
theorem dX11_house_42 : decode cX11_house 42 = .ok (.istore_n 1, 1) := by decide +kernel
theorem dX11_house_43 : decode cX11_house 43 = .ok (.iload_n 1, 1) := by decide +kernel
theorem dX11_house_44 : decode cX11_house 44 = .ok (.bipush 6, 2) := by decide +kernel
theorem dX11_house_46 : decode cX11_house 46 = .ok (.if_icmp .ge 29, 3) := by decide +kernel
theorem dX11_house_49 : decode cX11_house 49 = .ok (.aload_n 0, 1) := by decide +kernel
theorem dX11_house_50 : decode cX11_house 50 = .ok (.getfield 17, 3) := by decide +kernel
theorem dX11_house_53 : decode cX11_house 53 = .ok (.iload_n 1, 1) := by decide +kernel
theorem dX11_house_54 : decode cX11_house 54 = .ok (.aload_n 0, 1) := by decide +kernel
theorem dX11_house_55 : decode cX11_house 55 = .ok (.getfield 29, 3) := by decide +kernel
theorem dX11_house_58 : decode cX11_house 58 = .ok (.iload_n 1, 1) := by decide +kernel
theorem dX11_house_59 : decode cX11_house 59 = .ok (.iaload, 1) := by decide +kernel
theorem dX11_house_60 : decode cX11_house 60 = .ok (.iastore, 1) := by decide +kernel
theorem dX11_house_61 : decode cX11_house 61 = .ok (.aload_n 0, 1) := by decide +kernel
theorem dX11_house_62 : decode cX11_house 62 = .ok (.getfield 44, 3) := by decide +kernel
theorem dX11_house_65 : decode cX11_house 65 = .ok (.iload_n 1, 1) := by decide +kernel
theorem dX11_house_66 : decode cX11_house 66 = .ok (.bipush 10, 2) := by decide +kernel
theorem dX11_house_68 : decode cX11_house 68 = .ok (.iastore, 1) := by decide +kernel
theorem dX11_house_69 : decode cX11_house 69 = .ok (.iinc 1 1, 3) := by decide +kernel
theorem dX11_house_72 : decode cX11_house 72 = .ok (.goto (-29), 3) := by decide +kernel
theorem dX11_house_75 : decode cX11_house 75 = .ok (.iconst 0, 1) := by decide +kernel
theorem dX11_house_76 : decode cX11_house 76 = .ok (.istore_n 1, 1) := by decide +kernel
theorem dX11_house_77 : decode cX11_house 77 = .ok (.iload_n 1, 1) := by decide +kernel
theorem dX11_house_78 : decode cX11_house 78 = .ok (.iconst 4, 1) := by decide +kernel
theorem dX11_house_79 : decode cX11_house 79 = .ok (.if_icmp .ge 33, 3) := by decide +kernel
theorem dX11_house_82 : decode cX11_house 82 = .ok (.aload_n 0, 1) := by decide +kernel
theorem dX11_house_83 : decode cX11_house 83 = .ok (.getfield 20, 3) := by decide +kernel
theorem dX11_house_86 : decode cX11_house 86 = .ok (.iload_n 1, 1) := by decide +kernel
theorem dX11_house_87 : decode cX11_house 87 = .ok (.aload_n 0, 1) := by decide +kernel
theorem dX11_house_88 : decode cX11_house 88 = .ok (.getfield 32, 3) := by decide +kernel
theorem dX11_house_91 : decode cX11_house 91 = .ok (.iload_n 1, 1) := by decide +kernel
theorem dX11_house_92 : decode cX11_house 92 = .ok (.iaload, 1) := by decide +kernel
theorem dX11_house_93 : decode cX11_house 93 = .ok (.iastore, 1) := by decide +kernel
theorem dX11_house_94 : decode cX11_house 94 = .ok (.aload_n 0, 1) := by decide +kernel
theorem dX11_house_95 : decode cX11_house 95 = .ok (.getfield 23, 3) := by decide +kernel
theorem dX11_house_98 : decode cX11_house 98 = .ok (.iload_n 1, 1) := by decide +kernel
theorem dX11_house_99 : decode cX11_house 99 = .ok (.aload_n 0, 1) := by decide +kernel
theorem dX11_house_100 : decode cX11_house 100 = .ok (.getfield 35, 3) := by decide +kernel
theorem dX11_house_103 : decode cX11_house 103 = .ok (.iload_n 1, 1) := by decide +kernel
theorem dX11_house_104 : decode cX11_house 104 = .ok (.iaload, 1) := by decide +kernel
theorem dX11_house_105 : decode cX11_house 105 = .ok (.iastore, 1) := by decide +kernel
theorem dX11_house_106 : decode cX11_house 106 = .ok (.iinc 1 1, 3) := by decide +kernel
theorem dX11_house_109 : decode cX11_house 109 = .ok (.goto (-32), 3) := by decide +kernel
theorem dX11_house_112 : decode cX11_house 112 = .ok (.aload_n 0, 1) := by decide +kernel
theorem dX11_house_113 : decode cX11_house 113 = .ok (.iconst 0, 1) := by decide +kernel
theorem dX11_house_114 : decode cX11_house 114 = .ok (.putfield 127, 3) := by decide +kernel
theorem dX11_house_117 : decode cX11_house 117 = .ok (.aload_n 0, 1) := by decide +kernel
theorem dX11_house_118 : decode cX11_house 118 = .ok (.iconst 0, 1) := by decide +kernel
theorem dX11_house_119 : decode cX11_house 119 = .ok (.putfield 130, 3) := by decide +kernel
theorem dX11_house_122 : decode cX11_house 122 = .ok (.aload_n 0, 1) := by decide +kernel
theorem dX11_house_123 : decode cX11_house 123 = .ok (.iconst 0, 1) := by decide +kernel
theorem dX11_house_124 : decode cX11_house 124 = .ok (.putfield 133, 3) := by decide +kernel
theorem dX11_house_127 : decode cX11_house 127 = .ok (.aload_n 0, 1) := by decide +kernel
theorem dX11_house_128 : decode cX11_house 128 = .ok (.iconst 0, 1) := by decide +kernel
theorem dX11_house_129 : decode cX11_house 129 = .ok (.putfield 136, 3) := by decide +kernel
theorem dX11_house_132 : decode cX11_house 132 = .ok (.aload_n 0, 1) := by decide +kernel
theorem dX11_house_133 : decode cX11_house 133 = .ok (.getfield 121, 3) := by decide +kernel
theorem dX11_house_136 : decode cX11_house 136 = .ok (.aload_n 0, 1) := by decide +kernel
theorem dX11_house_137 : decode cX11_house 137 = .ok (.getfield 124, 3) := by decide +kernel
theorem dX11_house_140 : decode cX11_house 140 = .ok (.iadd, 1) := by decide +kernel
theorem dX11_house_141 : decode cX11_house 141 = .ok (.ireturn, 1) := by decide +kernel
theorem dX11_countAt_0 : decode cX11_countAt 0 = .ok (.iconst 0, 1) := by decide +kernel
theorem dX11_countAt_1 : decode cX11_countAt 1 = .ok (.istore_n 2, 1) := by decide +kernel
theorem dX11_countAt_2 : decode cX11_countAt 2 = .ok (.iconst 0, 1) := by decide +kernel
theorem dX11_countAt_3 : decode cX11_countAt 3 = .ok (.istore_n 3, 1) := by decide +kernel
theorem dX11_countAt_4 : decode cX11_countAt 4 = .ok (.iload_n 3, 1) := by decide +kernel
theorem dX11_countAt_5 : decode cX11_countAt 5 = .ok (.bipush 6, 2) := by decide +kernel
theorem dX11_countAt_7 : decode cX11_countAt 7 = .ok (.if_icmp .ge 27, 3) := by decide +kernel
theorem dX11_countAt_10 : decode cX11_countAt 10 = .ok (.iload_n 2, 1) := by decide +kernel
theorem dX11_countAt_11 : decode cX11_countAt 11 = .ok (.aload_n 0, 1) := by decide +kernel
theorem dX11_countAt_12 : decode cX11_countAt 12 = .ok (.getfield 17, 3) := by decide +kernel
theorem dX11_countAt_15 : decode cX11_countAt 15 = .ok (.iload_n 3, 1) := by decide +kernel
theorem dX11_countAt_16 : decode cX11_countAt 16 = .ok (.iaload, 1) := by decide +kernel
theorem dX11_countAt_17 : decode cX11_countAt 17 = .ok (.iload_n 1, 1) := by decide +kernel
theorem dX11_countAt_18 : decode cX11_countAt 18 = .ok (.if_icmp .ne 7, 3) := by decide +kernel
theorem dX11_countAt_21 : decode cX11_countAt 21 = .ok (.iconst 1, 1) := by decide +kernel
theorem dX11_countAt_22 : decode cX11_countAt 22 = .ok (.goto 4, 3) := by decide +kernel
theorem dX11_countAt_25 : decode cX11_countAt 25 = .ok (.iconst 0, 1) := by decide +kernel
theorem dX11_countAt_26 : decode cX11_countAt 26 = .ok (.iadd, 1) := by decide +kernel
theorem dX11_countAt_27 : decode cX11_countAt 27 = .ok (.istore_n 2, 1) := by decide +kernel
theorem dX11_countAt_28 : decode cX11_countAt 28 = .ok (.iinc 3 1, 3) := by decide +kernel
theorem dX11_countAt_31 : decode cX11_countAt 31 = .ok (.goto (-27), 3) := by decide +kernel
theorem dX11_countAt_34 : decode cX11_countAt 34 = .ok (.iload_n 2, 1) := by decide +kernel
theorem dX11_countAt_35 : decode cX11_countAt 35 = .ok (.ireturn, 1) := by decide +kernel
theorem dX11_about_0 : decode cX11_about 0 = .ok (.aload_n 0, 1) := by decide +kernel
theorem dX11_about_1 : decode cX11_about 1 = .ok (.iconst 0, 1) := by decide +kernel
theorem dX11_about_2 : decode cX11_about 2 = .ok (.putfield 76, 3) := by decide +kernel
theorem dX11_about_5 : decode cX11_about 5 = .ok (.iload_n 1, 1) := by decide +kernel
theorem dX11_about_6 : decode cX11_about 6 = .ok (.tableswitch 108 0 9 #[54, 59, 64, 69, 76, 83, 88, 93, 98, 103], 54) := by decide +kernel
theorem dX11_about_60 : decode cX11_about 60 = .ok (.aload_n 0, 1) := by decide +kernel
theorem dX11_about_61 : decode cX11_about 61 = .ok (.getfield 13, 3) := by decide +kernel
theorem dX11_about_64 : decode cX11_about 64 = .ok (.ireturn, 1) := by decide +kernel
theorem dX11_about_65 : decode cX11_about 65 = .ok (.aload_n 0, 1) := by decide +kernel
theorem dX11_about_66 : decode cX11_about 66 = .ok (.getfield 121, 3) := by decide +kernel
theorem dX11_about_69 : decode cX11_about 69 = .ok (.ireturn, 1) := by decide +kernel
theorem dX11_about_70 : decode cX11_about 70 = .ok (.aload_n 0, 1) := by decide +kernel
theorem dX11_about_71 : decode cX11_about 71 = .ok (.getfield 124, 3) := by decide +kernel
theorem dX11_about_74 : decode cX11_about 74 = .ok (.ireturn, 1) := by decide +kernel
theorem dX11_about_75 : decode cX11_about 75 = .ok (.aload_n 0, 1) := by decide +kernel
theorem dX11_about_76 : decode cX11_about 76 = .ok (.bipush 6, 2) := by decide +kernel
theorem dX11_about_78 : decode cX11_about 78 = .ok (.invokevirtual 139, 3) := by decide +kernel
theorem dX11_about_81 : decode cX11_about 81 = .ok (.ireturn, 1) := by decide +kernel
theorem dX11_about_82 : decode cX11_about 82 = .ok (.aload_n 0, 1) := by decide +kernel
theorem dX11_about_83 : decode cX11_about 83 = .ok (.bipush 7, 2) := by decide +kernel
theorem dX11_about_85 : decode cX11_about 85 = .ok (.invokevirtual 139, 3) := by decide +kernel
theorem dX11_about_88 : decode cX11_about 88 = .ok (.ireturn, 1) := by decide +kernel
theorem dX11_about_89 : decode cX11_about 89 = .ok (.aload_n 0, 1) := by decide +kernel
theorem dX11_about_90 : decode cX11_about 90 = .ok (.getfield 127, 3) := by decide +kernel
theorem dX11_about_93 : decode cX11_about 93 = .ok (.ireturn, 1) := by decide +kernel
theorem dX11_about_94 : decode cX11_about 94 = .ok (.aload_n 0, 1) := by decide +kernel
theorem dX11_about_95 : decode cX11_about 95 = .ok (.getfield 133, 3) := by decide +kernel
theorem dX11_about_98 : decode cX11_about 98 = .ok (.ireturn, 1) := by decide +kernel
theorem dX11_about_99 : decode cX11_about 99 = .ok (.aload_n 0, 1) := by decide +kernel
theorem dX11_about_100 : decode cX11_about 100 = .ok (.getfield 130, 3) := by decide +kernel
theorem dX11_about_103 : decode cX11_about 103 = .ok (.ireturn, 1) := by decide +kernel
theorem dX11_about_104 : decode cX11_about 104 = .ok (.aload_n 0, 1) := by decide +kernel
theorem dX11_about_105 : decode cX11_about 105 = .ok (.getfield 87, 3) := by decide +kernel
theorem dX11_about_108 : decode cX11_about 108 = .ok (.ireturn, 1) := by decide +kernel
theorem dX11_about_109 : decode cX11_about 109 = .ok (.aload_n 0, 1) := by decide +kernel
theorem dX11_about_110 : decode cX11_about 110 = .ok (.getfield 136, 3) := by decide +kernel
theorem dX11_about_113 : decode cX11_about 113 = .ok (.ireturn, 1) := by decide +kernel
theorem dX11_about_114 : decode cX11_about 114 = .ok (.bipush (-2), 2) := by decide +kernel
theorem dX11_about_116 : decode cX11_about 116 = .ok (.ireturn, 1) := by decide +kernel
theorem dX11_where_0 : decode cX11_where 0 = .ok (.aload_n 0, 1) := by decide +kernel
theorem dX11_where_1 : decode cX11_where 1 = .ok (.iconst 0, 1) := by decide +kernel
theorem dX11_where_2 : decode cX11_where 2 = .ok (.putfield 76, 3) := by decide +kernel
theorem dX11_where_5 : decode cX11_where 5 = .ok (.aload_n 0, 1) := by decide +kernel
theorem dX11_where_6 : decode cX11_where 6 = .ok (.iload_n 1, 1) := by decide +kernel
theorem dX11_where_7 : decode cX11_where 7 = .ok (.invokevirtual 143, 3) := by decide +kernel
theorem dX11_where_10 : decode cX11_where 10 = .ok (.ifCond .eq 5, 3) := by decide +kernel
theorem dX11_where_13 : decode cX11_where 13 = .ok (.iconst (-1), 1) := by decide +kernel
theorem dX11_where_14 : decode cX11_where 14 = .ok (.ireturn, 1) := by decide +kernel
theorem dX11_where_15 : decode cX11_where 15 = .ok (.aload_n 0, 1) := by decide +kernel
theorem dX11_where_16 : decode cX11_where 16 = .ok (.getfield 17, 3) := by decide +kernel
theorem dX11_where_19 : decode cX11_where 19 = .ok (.iload_n 1, 1) := by decide +kernel
theorem dX11_where_20 : decode cX11_where 20 = .ok (.iaload, 1) := by decide +kernel
theorem dX11_where_21 : decode cX11_where 21 = .ok (.bipush 6, 2) := by decide +kernel
theorem dX11_where_23 : decode cX11_where 23 = .ok (.if_icmp .ne 8, 3) := by decide +kernel
theorem dX11_where_26 : decode cX11_where 26 = .ok (.bipush 100, 2) := by decide +kernel
theorem dX11_where_28 : decode cX11_where 28 = .ok (.goto 26, 3) := by decide +kernel
theorem dX11_where_31 : decode cX11_where 31 = .ok (.aload_n 0, 1) := by decide +kernel
theorem dX11_where_32 : decode cX11_where 32 = .ok (.getfield 17, 3) := by decide +kernel
theorem dX11_where_35 : decode cX11_where 35 = .ok (.iload_n 1, 1) := by decide +kernel
theorem dX11_where_36 : decode cX11_where 36 = .ok (.iaload, 1) := by decide +kernel
theorem dX11_where_37 : decode cX11_where 37 = .ok (.bipush 7, 2) := by decide +kernel
theorem dX11_where_39 : decode cX11_where 39 = .ok (.if_icmp .ne 9, 3) := by decide +kernel
theorem dX11_where_42 : decode cX11_where 42 = .ok (.sipush 200, 3) := by decide +kernel
theorem dX11_where_45 : decode cX11_where 45 = .ok (.goto 9, 3) := by decide +kernel
theorem dX11_where_48 : decode cX11_where 48 = .ok (.aload_n 0, 1) := by decide +kernel
theorem dX11_where_49 : decode cX11_where 49 = .ok (.getfield 17, 3) := by decide +kernel
theorem dX11_where_52 : decode cX11_where 52 = .ok (.iload_n 1, 1) := by decide +kernel
theorem dX11_where_53 : decode cX11_where 53 = .ok (.iaload, 1) := by decide +kernel
theorem dX11_where_54 : decode cX11_where 54 = .ok (.ireturn, 1) := by decide +kernel
theorem dX11_wants_0 : decode cX11_wants 0 = .ok (.aload_n 0, 1) := by decide +kernel
theorem dX11_wants_1 : decode cX11_wants 1 = .ok (.iconst 0, 1) := by decide +kernel
theorem dX11_wants_2 : decode cX11_wants 2 = .ok (.putfield 76, 3) := by decide +kernel
theorem dX11_wants_5 : decode cX11_wants 5 = .ok (.aload_n 0, 1) := by decide +kernel
theorem dX11_wants_6 : decode cX11_wants 6 = .ok (.iload_n 1, 1) := by decide +kernel
theorem dX11_wants_7 : decode cX11_wants 7 = .ok (.invokevirtual 143, 3) := by decide +kernel
theorem dX11_wants_10 : decode cX11_wants 10 = .ok (.ifCond .eq 5, 3) := by decide +kernel
theorem dX11_wants_13 : decode cX11_wants 13 = .ok (.iconst (-1), 1) := by decide +kernel
theorem dX11_wants_14 : decode cX11_wants 14 = .ok (.ireturn, 1) := by decide +kernel
theorem dX11_wants_15 : decode cX11_wants 15 = .ok (.iload_n 1, 1) := by decide +kernel
theorem dX11_wants_16 : decode cX11_wants 16 = .ok (.iconst 4, 1) := by decide +kernel
theorem dX11_wants_17 : decode cX11_wants 17 = .ok (.if_icmp .ge 12, 3) := by decide +kernel
theorem dX11_wants_20 : decode cX11_wants 20 = .ok (.aload_n 0, 1) := by decide +kernel
theorem dX11_wants_21 : decode cX11_wants 21 = .ok (.getfield 20, 3) := by decide +kernel
theorem dX11_wants_24 : decode cX11_wants 24 = .ok (.iload_n 1, 1) := by decide +kernel
theorem dX11_wants_25 : decode cX11_wants 25 = .ok (.iaload, 1) := by decide +kernel
theorem dX11_wants_26 : decode cX11_wants 26 = .ok (.goto 5, 3) := by decide +kernel
theorem dX11_wants_29 : decode cX11_wants 29 = .ok (.bipush (-9), 2) := by decide +kernel
theorem dX11_wants_31 : decode cX11_wants 31 = .ok (.ireturn, 1) := by decide +kernel
theorem dX11_mayOf_0 : decode cX11_mayOf 0 = .ok (.iconst 0, 1) := by decide +kernel
theorem dX11_mayOf_1 : decode cX11_mayOf 1 = .ok (.istore 4, 2) := by decide +kernel
theorem dX11_mayOf_3 : decode cX11_mayOf 3 = .ok (.iconst 0, 1) := by decide +kernel
theorem dX11_mayOf_4 : decode cX11_mayOf 4 = .ok (.istore 5, 2) := by decide +kernel
theorem dX11_mayOf_6 : decode cX11_mayOf 6 = .ok (.iload 5, 2) := by decide +kernel
theorem dX11_mayOf_8 : decode cX11_mayOf 8 = .ok (.bipush 6, 2) := by decide +kernel
theorem dX11_mayOf_10 : decode cX11_mayOf 10 = .ok (.if_icmp .ge 80, 3) := by decide +kernel
theorem dX11_mayOf_13 : decode cX11_mayOf 13 = .ok (.iload_n 3, 1) := by decide +kernel
theorem dX11_mayOf_14 : decode cX11_mayOf 14 = .ok (.ifCond .eq 37, 3) := by decide +kernel
theorem dX11_mayOf_17 : decode cX11_mayOf 17 = .ok (.aload_n 1, 1) := by decide +kernel
theorem dX11_mayOf_18 : decode cX11_mayOf 18 = .ok (.iload 5, 2) := by decide +kernel
theorem dX11_mayOf_20 : decode cX11_mayOf 20 = .ok (.iaload, 1) := by decide +kernel
theorem dX11_mayOf_21 : decode cX11_mayOf 21 = .ok (.bipush 6, 2) := by decide +kernel
theorem dX11_mayOf_23 : decode cX11_mayOf 23 = .ok (.if_icmp .ne 24, 3) := by decide +kernel
theorem dX11_mayOf_26 : decode cX11_mayOf 26 = .ok (.iload 5, 2) := by decide +kernel
theorem dX11_mayOf_28 : decode cX11_mayOf 28 = .ok (.iconst 4, 1) := by decide +kernel
theorem dX11_mayOf_29 : decode cX11_mayOf 29 = .ok (.if_icmp .ge 14, 3) := by decide +kernel
theorem dX11_mayOf_32 : decode cX11_mayOf 32 = .ok (.aload_n 0, 1) := by decide +kernel
theorem dX11_mayOf_33 : decode cX11_mayOf 33 = .ok (.getfield 20, 3) := by decide +kernel
theorem dX11_mayOf_36 : decode cX11_mayOf 36 = .ok (.iload 5, 2) := by decide +kernel
theorem dX11_mayOf_38 : decode cX11_mayOf 38 = .ok (.iaload, 1) := by decide +kernel
theorem dX11_mayOf_39 : decode cX11_mayOf 39 = .ok (.iload_n 2, 1) := by decide +kernel
theorem dX11_mayOf_40 : decode cX11_mayOf 40 = .ok (.if_icmp .ne 7, 3) := by decide +kernel
theorem dX11_mayOf_43 : decode cX11_mayOf 43 = .ok (.iconst 1, 1) := by decide +kernel
theorem dX11_mayOf_44 : decode cX11_mayOf 44 = .ok (.goto 20, 3) := by decide +kernel
theorem dX11_mayOf_47 : decode cX11_mayOf 47 = .ok (.iconst 0, 1) := by decide +kernel
theorem dX11_mayOf_48 : decode cX11_mayOf 48 = .ok (.goto 16, 3) := by decide +kernel
theorem dX11_mayOf_51 : decode cX11_mayOf 51 = .ok (.aload_n 1, 1) := by decide +kernel
theorem dX11_mayOf_52 : decode cX11_mayOf 52 = .ok (.iload 5, 2) := by decide +kernel
theorem dX11_mayOf_54 : decode cX11_mayOf 54 = .ok (.iaload, 1) := by decide +kernel
theorem dX11_mayOf_55 : decode cX11_mayOf 55 = .ok (.iload_n 2, 1) := by decide +kernel
theorem dX11_mayOf_56 : decode cX11_mayOf 56 = .ok (.if_icmp .ne 7, 3) := by decide +kernel
theorem dX11_mayOf_59 : decode cX11_mayOf 59 = .ok (.iconst 1, 1) := by decide +kernel
theorem dX11_mayOf_60 : decode cX11_mayOf 60 = .ok (.goto 4, 3) := by decide +kernel
theorem dX11_mayOf_63 : decode cX11_mayOf 63 = .ok (.iconst 0, 1) := by decide +kernel
theorem dX11_mayOf_64 : decode cX11_mayOf 64 = .ok (.istore 6, 2) := by decide +kernel
theorem dX11_mayOf_66 : decode cX11_mayOf 66 = .ok (.iload 4, 2) := by decide +kernel
theorem dX11_mayOf_68 : decode cX11_mayOf 68 = .ok (.iload 6, 2) := by decide +kernel
theorem dX11_mayOf_70 : decode cX11_mayOf 70 = .ok (.ifCond .eq 10, 3) := by decide +kernel
theorem dX11_mayOf_73 : decode cX11_mayOf 73 = .ok (.iconst 1, 1) := by decide +kernel
theorem dX11_mayOf_74 : decode cX11_mayOf 74 = .ok (.iload 5, 2) := by decide +kernel
theorem dX11_mayOf_76 : decode cX11_mayOf 76 = .ok (.ishl, 1) := by decide +kernel
theorem dX11_mayOf_77 : decode cX11_mayOf 77 = .ok (.goto 4, 3) := by decide +kernel
theorem dX11_mayOf_80 : decode cX11_mayOf 80 = .ok (.iconst 0, 1) := by decide +kernel
theorem dX11_mayOf_81 : decode cX11_mayOf 81 = .ok (.ior, 1) := by decide +kernel
theorem dX11_mayOf_82 : decode cX11_mayOf 82 = .ok (.istore 4, 2) := by decide +kernel
theorem dX11_mayOf_84 : decode cX11_mayOf 84 = .ok (.iinc 5 1, 3) := by decide +kernel
theorem dX11_mayOf_87 : decode cX11_mayOf 87 = .ok (.goto (-81), 3) := by decide +kernel
theorem dX11_mayOf_90 : decode cX11_mayOf 90 = .ok (.iload 4, 2) := by decide +kernel
theorem dX11_mayOf_92 : decode cX11_mayOf 92 = .ok (.ireturn, 1) := by decide +kernel
theorem dX11_may_0 : decode cX11_may 0 = .ok (.aload_n 0, 1) := by decide +kernel
theorem dX11_may_1 : decode cX11_may 1 = .ok (.iconst 0, 1) := by decide +kernel
theorem dX11_may_2 : decode cX11_may 2 = .ok (.putfield 76, 3) := by decide +kernel
theorem dX11_may_5 : decode cX11_may 5 = .ok (.aload_n 0, 1) := by decide +kernel
theorem dX11_may_6 : decode cX11_may 6 = .ok (.iload_n 1, 1) := by decide +kernel
theorem dX11_may_7 : decode cX11_may 7 = .ok (.invokevirtual 147, 3) := by decide +kernel
theorem dX11_may_10 : decode cX11_may 10 = .ok (.ifCond .eq 7, 3) := by decide +kernel
theorem dX11_may_13 : decode cX11_may 13 = .ok (.iconst (-1), 1) := by decide +kernel
theorem dX11_may_14 : decode cX11_may 14 = .ok (.goto 13, 3) := by decide +kernel
theorem dX11_may_17 : decode cX11_may 17 = .ok (.aload_n 0, 1) := by decide +kernel
theorem dX11_may_18 : decode cX11_may 18 = .ok (.aload_n 0, 1) := by decide +kernel
theorem dX11_may_19 : decode cX11_may 19 = .ok (.getfield 17, 3) := by decide +kernel
theorem dX11_may_22 : decode cX11_may 22 = .ok (.iload_n 1, 1) := by decide +kernel
theorem dX11_may_23 : decode cX11_may 23 = .ok (.iload_n 2, 1) := by decide +kernel
theorem dX11_may_24 : decode cX11_may 24 = .ok (.invokevirtual 150, 3) := by decide +kernel
theorem dX11_may_27 : decode cX11_may 27 = .ok (.ireturn, 1) := by decide +kernel
theorem dX11_choose_0 : decode cX11_choose 0 = .ok (.iconst 1, 1) := by decide +kernel
theorem dX11_choose_1 : decode cX11_choose 1 = .ok (.istore_n 2, 1) := by decide +kernel
theorem dX11_choose_2 : decode cX11_choose 2 = .ok (.iconst 0, 1) := by decide +kernel
theorem dX11_choose_3 : decode cX11_choose 3 = .ok (.istore_n 3, 1) := by decide +kernel
theorem dX11_choose_4 : decode cX11_choose 4 = .ok (.iload_n 3, 1) := by decide +kernel
theorem dX11_choose_5 : decode cX11_choose 5 = .ok (.iload_n 1, 1) := by decide +kernel
theorem dX11_choose_6 : decode cX11_choose 6 = .ok (.if_icmp .ge 19, 3) := by decide +kernel
theorem dX11_choose_9 : decode cX11_choose 9 = .ok (.iload_n 2, 1) := by decide +kernel
theorem dX11_choose_10 : decode cX11_choose 10 = .ok (.iload_n 0, 1) := by decide +kernel
theorem dX11_choose_11 : decode cX11_choose 11 = .ok (.iload_n 3, 1) := by decide +kernel
theorem dX11_choose_12 : decode cX11_choose 12 = .ok (.isub, 1) := by decide +kernel
theorem dX11_choose_13 : decode cX11_choose 13 = .ok (.imul, 1) := by decide +kernel
theorem dX11_choose_14 : decode cX11_choose 14 = .ok (.iload_n 3, 1) := by decide +kernel
theorem dX11_choose_15 : decode cX11_choose 15 = .ok (.iconst 1, 1) := by decide +kernel
theorem dX11_choose_16 : decode cX11_choose 16 = .ok (.iadd, 1) := by decide +kernel
theorem dX11_choose_17 : decode cX11_choose 17 = .ok (.idiv, 1) := by decide +kernel
theorem dX11_choose_18 : decode cX11_choose 18 = .ok (.istore_n 2, 1) := by decide +kernel
theorem dX11_choose_19 : decode cX11_choose 19 = .ok (.iinc 3 1, 3) := by decide +kernel
theorem dX11_choose_22 : decode cX11_choose 22 = .ok (.goto (-18), 3) := by decide +kernel
theorem dX11_choose_25 : decode cX11_choose 25 = .ok (.iload_n 1, 1) := by decide +kernel
theorem dX11_choose_26 : decode cX11_choose 26 = .ok (.iload_n 0, 1) := by decide +kernel
theorem dX11_choose_27 : decode cX11_choose 27 = .ok (.if_icmp .le 7, 3) := by decide +kernel
theorem dX11_choose_30 : decode cX11_choose 30 = .ok (.iconst 0, 1) := by decide +kernel
theorem dX11_choose_31 : decode cX11_choose 31 = .ok (.goto 4, 3) := by decide +kernel
theorem dX11_choose_34 : decode cX11_choose 34 = .ok (.iload_n 2, 1) := by decide +kernel
theorem dX11_choose_35 : decode cX11_choose 35 = .ok (.ireturn, 1) := by decide +kernel
theorem dX11_choices_0 : decode cX11_choices 0 = .ok (.aload_n 0, 1) := by decide +kernel
theorem dX11_choices_1 : decode cX11_choices 1 = .ok (.iconst 0, 1) := by decide +kernel
theorem dX11_choices_2 : decode cX11_choices 2 = .ok (.putfield 76, 3) := by decide +kernel
theorem dX11_choices_5 : decode cX11_choices 5 = .ok (.aload_n 0, 1) := by decide +kernel
theorem dX11_choices_6 : decode cX11_choices 6 = .ok (.iload_n 1, 1) := by decide +kernel
theorem dX11_choices_7 : decode cX11_choices 7 = .ok (.invokevirtual 147, 3) := by decide +kernel
theorem dX11_choices_10 : decode cX11_choices 10 = .ok (.ifCond .eq 5, 3) := by decide +kernel
theorem dX11_choices_13 : decode cX11_choices 13 = .ok (.iconst (-1), 1) := by decide +kernel
theorem dX11_choices_14 : decode cX11_choices 14 = .ok (.ireturn, 1) := by decide +kernel
theorem dX11_choices_15 : decode cX11_choices 15 = .ok (.aload_n 0, 1) := by decide +kernel
theorem dX11_choices_16 : decode cX11_choices 16 = .ok (.aload_n 0, 1) := by decide +kernel
theorem dX11_choices_17 : decode cX11_choices 17 = .ok (.getfield 17, 3) := by decide +kernel
theorem dX11_choices_20 : decode cX11_choices 20 = .ok (.iload_n 1, 1) := by decide +kernel
theorem dX11_choices_21 : decode cX11_choices 21 = .ok (.iconst 1, 1) := by decide +kernel
theorem dX11_choices_22 : decode cX11_choices 22 = .ok (.invokevirtual 150, 3) := by decide +kernel
theorem dX11_choices_25 : decode cX11_choices 25 = .ok (.invokestatic 154, 3) := by decide +kernel
theorem dX11_choices_28 : decode cX11_choices 28 = .ok (.istore_n 2, 1) := by decide +kernel
theorem dX11_choices_29 : decode cX11_choices 29 = .ok (.aload_n 0, 1) := by decide +kernel
theorem dX11_choices_30 : decode cX11_choices 30 = .ok (.aload_n 0, 1) := by decide +kernel
theorem dX11_choices_31 : decode cX11_choices 31 = .ok (.getfield 17, 3) := by decide +kernel
theorem dX11_choices_34 : decode cX11_choices 34 = .ok (.iload_n 1, 1) := by decide +kernel
theorem dX11_choices_35 : decode cX11_choices 35 = .ok (.iconst 0, 1) := by decide +kernel
theorem dX11_choices_36 : decode cX11_choices 36 = .ok (.invokevirtual 150, 3) := by decide +kernel
theorem dX11_choices_39 : decode cX11_choices 39 = .ok (.invokestatic 154, 3) := by decide +kernel
theorem dX11_choices_42 : decode cX11_choices 42 = .ok (.istore_n 3, 1) := by decide +kernel
theorem dX11_choices_43 : decode cX11_choices 43 = .ok (.iconst 0, 1) := by decide +kernel
theorem dX11_choices_44 : decode cX11_choices 44 = .ok (.istore 4, 2) := by decide +kernel
theorem dX11_choices_46 : decode cX11_choices 46 = .ok (.iconst 1, 1) := by decide +kernel
theorem dX11_choices_47 : decode cX11_choices 47 = .ok (.istore 5, 2) := by decide +kernel
theorem dX11_choices_49 : decode cX11_choices 49 = .ok (.iload 5, 2) := by decide +kernel
theorem dX11_choices_51 : decode cX11_choices 51 = .ok (.iload_n 2, 1) := by decide +kernel
theorem dX11_choices_52 : decode cX11_choices 52 = .ok (.if_icmp .gt 27, 3) := by decide +kernel
theorem dX11_choices_55 : decode cX11_choices 55 = .ok (.iload 4, 2) := by decide +kernel
theorem dX11_choices_57 : decode cX11_choices 57 = .ok (.iload_n 2, 1) := by decide +kernel
theorem dX11_choices_58 : decode cX11_choices 58 = .ok (.iload 5, 2) := by decide +kernel
theorem dX11_choices_60 : decode cX11_choices 60 = .ok (.invokestatic 157, 3) := by decide +kernel
theorem dX11_choices_63 : decode cX11_choices 63 = .ok (.iload_n 3, 1) := by decide +kernel
theorem dX11_choices_64 : decode cX11_choices 64 = .ok (.iload 5, 2) := by decide +kernel
theorem dX11_choices_66 : decode cX11_choices 66 = .ok (.invokestatic 157, 3) := by decide +kernel
theorem dX11_choices_69 : decode cX11_choices 69 = .ok (.imul, 1) := by decide +kernel
theorem dX11_choices_70 : decode cX11_choices 70 = .ok (.iadd, 1) := by decide +kernel
theorem dX11_choices_71 : decode cX11_choices 71 = .ok (.istore 4, 2) := by decide +kernel
theorem dX11_choices_73 : decode cX11_choices 73 = .ok (.iinc 5 1, 3) := by decide +kernel
theorem dX11_choices_76 : decode cX11_choices 76 = .ok (.goto (-27), 3) := by decide +kernel
theorem dX11_choices_79 : decode cX11_choices 79 = .ok (.iload 4, 2) := by decide +kernel
theorem dX11_choices_81 : decode cX11_choices 81 = .ok (.ireturn, 1) := by decide +kernel
theorem dX11_change_0 : decode cX11_change 0 = .ok (.iconst 0, 1) := by decide +kernel
theorem dX11_change_1 : decode cX11_change 1 = .ok (.istore 4, 2) := by decide +kernel
theorem dX11_change_3 : decode cX11_change 3 = .ok (.iload 4, 2) := by decide +kernel
theorem dX11_change_5 : decode cX11_change 5 = .ok (.bipush 6, 2) := by decide +kernel
theorem dX11_change_7 : decode cX11_change 7 = .ok (.if_icmp .ge 49, 3) := by decide +kernel
theorem dX11_change_10 : decode cX11_change 10 = .ok (.iload_n 2, 1) := by decide +kernel
theorem dX11_change_11 : decode cX11_change 11 = .ok (.iload 4, 2) := by decide +kernel
theorem dX11_change_13 : decode cX11_change 13 = .ok (.invokestatic 160, 3) := by decide +kernel
theorem dX11_change_16 : decode cX11_change 16 = .ok (.ifCond .eq 19, 3) := by decide +kernel
theorem dX11_change_19 : decode cX11_change 19 = .ok (.aload_n 0, 1) := by decide +kernel
theorem dX11_change_20 : decode cX11_change 20 = .ok (.iload 4, 2) := by decide +kernel
theorem dX11_change_22 : decode cX11_change 22 = .ok (.iload 4, 2) := by decide +kernel
theorem dX11_change_24 : decode cX11_change 24 = .ok (.iconst 4, 1) := by decide +kernel
theorem dX11_change_25 : decode cX11_change 25 = .ok (.if_icmp .ge 8, 3) := by decide +kernel
theorem dX11_change_28 : decode cX11_change 28 = .ok (.bipush 7, 2) := by decide +kernel
theorem dX11_change_30 : decode cX11_change 30 = .ok (.goto 4, 3) := by decide +kernel
theorem dX11_change_33 : decode cX11_change 33 = .ok (.iload_n 1, 1) := by decide +kernel
theorem dX11_change_34 : decode cX11_change 34 = .ok (.iastore, 1) := by decide +kernel
theorem dX11_change_35 : decode cX11_change 35 = .ok (.iload_n 3, 1) := by decide +kernel
theorem dX11_change_36 : decode cX11_change 36 = .ok (.iload 4, 2) := by decide +kernel
theorem dX11_change_38 : decode cX11_change 38 = .ok (.invokestatic 160, 3) := by decide +kernel
theorem dX11_change_41 : decode cX11_change 41 = .ok (.ifCond .eq 9, 3) := by decide +kernel
theorem dX11_change_44 : decode cX11_change 44 = .ok (.aload_n 0, 1) := by decide +kernel
theorem dX11_change_45 : decode cX11_change 45 = .ok (.iload 4, 2) := by decide +kernel
theorem dX11_change_47 : decode cX11_change 47 = .ok (.bipush 6, 2) := by decide +kernel
theorem dX11_change_49 : decode cX11_change 49 = .ok (.iastore, 1) := by decide +kernel
theorem dX11_change_50 : decode cX11_change 50 = .ok (.iinc 4 1, 3) := by decide +kernel
theorem dX11_change_53 : decode cX11_change 53 = .ok (.goto (-50), 3) := by decide +kernel
theorem dX11_change_56 : decode cX11_change 56 = .ok (.return_, 1) := by decide +kernel
theorem dX11_goHalt_0 : decode cX11_goHalt 0 = .ok (.aload_n 0, 1) := by decide +kernel
theorem dX11_goHalt_1 : decode cX11_goHalt 1 = .ok (.getfield 26, 3) := by decide +kernel
theorem dX11_goHalt_4 : decode cX11_goHalt 4 = .ok (.iconst 4, 1) := by decide +kernel
theorem dX11_goHalt_5 : decode cX11_goHalt 5 = .ok (.aload_n 0, 1) := by decide +kernel
theorem dX11_goHalt_6 : decode cX11_goHalt 6 = .ok (.getfield 133, 3) := by decide +kernel
theorem dX11_goHalt_9 : decode cX11_goHalt 9 = .ok (.imul, 1) := by decide +kernel
theorem dX11_goHalt_10 : decode cX11_goHalt 10 = .ok (.iload_n 1, 1) := by decide +kernel
theorem dX11_goHalt_11 : decode cX11_goHalt 11 = .ok (.iastore, 1) := by decide +kernel
theorem dX11_goHalt_12 : decode cX11_goHalt 12 = .ok (.aload_n 0, 1) := by decide +kernel
theorem dX11_goHalt_13 : decode cX11_goHalt 13 = .ok (.getfield 26, 3) := by decide +kernel
theorem dX11_goHalt_16 : decode cX11_goHalt 16 = .ok (.iconst 4, 1) := by decide +kernel
theorem dX11_goHalt_17 : decode cX11_goHalt 17 = .ok (.aload_n 0, 1) := by decide +kernel
theorem dX11_goHalt_18 : decode cX11_goHalt 18 = .ok (.getfield 133, 3) := by decide +kernel
theorem dX11_goHalt_21 : decode cX11_goHalt 21 = .ok (.imul, 1) := by decide +kernel
theorem dX11_goHalt_22 : decode cX11_goHalt 22 = .ok (.iconst 1, 1) := by decide +kernel
theorem dX11_goHalt_23 : decode cX11_goHalt 23 = .ok (.iadd, 1) := by decide +kernel
theorem dX11_goHalt_24 : decode cX11_goHalt 24 = .ok (.iload_n 2, 1) := by decide +kernel
theorem dX11_goHalt_25 : decode cX11_goHalt 25 = .ok (.iastore, 1) := by decide +kernel
theorem dX11_goHalt_26 : decode cX11_goHalt 26 = .ok (.aload_n 0, 1) := by decide +kernel
theorem dX11_goHalt_27 : decode cX11_goHalt 27 = .ok (.getfield 26, 3) := by decide +kernel
theorem dX11_goHalt_30 : decode cX11_goHalt 30 = .ok (.iconst 4, 1) := by decide +kernel
theorem dX11_goHalt_31 : decode cX11_goHalt 31 = .ok (.aload_n 0, 1) := by decide +kernel
theorem dX11_goHalt_32 : decode cX11_goHalt 32 = .ok (.getfield 133, 3) := by decide +kernel
theorem dX11_goHalt_35 : decode cX11_goHalt 35 = .ok (.imul, 1) := by decide +kernel
theorem dX11_goHalt_36 : decode cX11_goHalt 36 = .ok (.iconst 2, 1) := by decide +kernel
theorem dX11_goHalt_37 : decode cX11_goHalt 37 = .ok (.iadd, 1) := by decide +kernel
theorem dX11_goHalt_38 : decode cX11_goHalt 38 = .ok (.iload_n 3, 1) := by decide +kernel
theorem dX11_goHalt_39 : decode cX11_goHalt 39 = .ok (.iastore, 1) := by decide +kernel
theorem dX11_goHalt_40 : decode cX11_goHalt 40 = .ok (.aload_n 0, 1) := by decide +kernel
theorem dX11_goHalt_41 : decode cX11_goHalt 41 = .ok (.getfield 26, 3) := by decide +kernel
theorem dX11_goHalt_44 : decode cX11_goHalt 44 = .ok (.iconst 4, 1) := by decide +kernel
theorem dX11_goHalt_45 : decode cX11_goHalt 45 = .ok (.aload_n 0, 1) := by decide +kernel
theorem dX11_goHalt_46 : decode cX11_goHalt 46 = .ok (.getfield 133, 3) := by decide +kernel
theorem dX11_goHalt_49 : decode cX11_goHalt 49 = .ok (.imul, 1) := by decide +kernel
theorem dX11_goHalt_50 : decode cX11_goHalt 50 = .ok (.iconst 3, 1) := by decide +kernel
theorem dX11_goHalt_51 : decode cX11_goHalt 51 = .ok (.iadd, 1) := by decide +kernel
theorem dX11_goHalt_52 : decode cX11_goHalt 52 = .ok (.aload_n 0, 1) := by decide +kernel
theorem dX11_goHalt_53 : decode cX11_goHalt 53 = .ok (.getfield 127, 3) := by decide +kernel
theorem dX11_goHalt_56 : decode cX11_goHalt 56 = .ok (.iastore, 1) := by decide +kernel
theorem dX11_goHalt_57 : decode cX11_goHalt 57 = .ok (.aload_n 0, 1) := by decide +kernel
theorem dX11_goHalt_58 : decode cX11_goHalt 58 = .ok (.dup, 1) := by decide +kernel
theorem dX11_goHalt_59 : decode cX11_goHalt 59 = .ok (.getfield 133, 3) := by decide +kernel
theorem dX11_goHalt_62 : decode cX11_goHalt 62 = .ok (.iconst 1, 1) := by decide +kernel
theorem dX11_goHalt_63 : decode cX11_goHalt 63 = .ok (.iadd, 1) := by decide +kernel
theorem dX11_goHalt_64 : decode cX11_goHalt 64 = .ok (.putfield 133, 3) := by decide +kernel
theorem dX11_goHalt_67 : decode cX11_goHalt 67 = .ok (.aload_n 0, 1) := by decide +kernel
theorem dX11_goHalt_68 : decode cX11_goHalt 68 = .ok (.dup, 1) := by decide +kernel
theorem dX11_goHalt_69 : decode cX11_goHalt 69 = .ok (.getfield 130, 3) := by decide +kernel
theorem dX11_goHalt_72 : decode cX11_goHalt 72 = .ok (.iload_n 1, 1) := by decide +kernel
theorem dX11_goHalt_73 : decode cX11_goHalt 73 = .ok (.aload_n 0, 1) := by decide +kernel
theorem dX11_goHalt_74 : decode cX11_goHalt 74 = .ok (.getfield 127, 3) := by decide +kernel
theorem dX11_goHalt_77 : decode cX11_goHalt 77 = .ok (.if_icmp .le 12, 3) := by decide +kernel
theorem dX11_goHalt_80 : decode cX11_goHalt 80 = .ok (.iload_n 1, 1) := by decide +kernel
theorem dX11_goHalt_81 : decode cX11_goHalt 81 = .ok (.aload_n 0, 1) := by decide +kernel
theorem dX11_goHalt_82 : decode cX11_goHalt 82 = .ok (.getfield 127, 3) := by decide +kernel
theorem dX11_goHalt_85 : decode cX11_goHalt 85 = .ok (.isub, 1) := by decide +kernel
theorem dX11_goHalt_86 : decode cX11_goHalt 86 = .ok (.goto 9, 3) := by decide +kernel
theorem dX11_goHalt_89 : decode cX11_goHalt 89 = .ok (.aload_n 0, 1) := by decide +kernel
theorem dX11_goHalt_90 : decode cX11_goHalt 90 = .ok (.getfield 127, 3) := by decide +kernel
theorem dX11_goHalt_93 : decode cX11_goHalt 93 = .ok (.iload_n 1, 1) := by decide +kernel
theorem dX11_goHalt_94 : decode cX11_goHalt 94 = .ok (.isub, 1) := by decide +kernel
theorem dX11_goHalt_95 : decode cX11_goHalt 95 = .ok (.iadd, 1) := by decide +kernel
theorem dX11_goHalt_96 : decode cX11_goHalt 96 = .ok (.putfield 130, 3) := by decide +kernel
theorem dX11_goHalt_99 : decode cX11_goHalt 99 = .ok (.aload_n 0, 1) := by decide +kernel
theorem dX11_goHalt_100 : decode cX11_goHalt 100 = .ok (.iload_n 1, 1) := by decide +kernel
theorem dX11_goHalt_101 : decode cX11_goHalt 101 = .ok (.putfield 127, 3) := by decide +kernel
theorem dX11_goHalt_104 : decode cX11_goHalt 104 = .ok (.aload_n 0, 1) := by decide +kernel
theorem dX11_goHalt_105 : decode cX11_goHalt 105 = .ok (.getfield 17, 3) := by decide +kernel
theorem dX11_goHalt_108 : decode cX11_goHalt 108 = .ok (.iload_n 1, 1) := by decide +kernel
theorem dX11_goHalt_109 : decode cX11_goHalt 109 = .ok (.iload_n 2, 1) := by decide +kernel
theorem dX11_goHalt_110 : decode cX11_goHalt 110 = .ok (.iload_n 3, 1) := by decide +kernel
theorem dX11_goHalt_111 : decode cX11_goHalt 111 = .ok (.invokestatic 164, 3) := by decide +kernel
theorem dX11_goHalt_114 : decode cX11_goHalt 114 = .ok (.return_, 1) := by decide +kernel
theorem dX11_halt_0 : decode cX11_halt 0 = .ok (.aload_n 0, 1) := by decide +kernel
theorem dX11_halt_1 : decode cX11_halt 1 = .ok (.iconst 0, 1) := by decide +kernel
theorem dX11_halt_2 : decode cX11_halt 2 = .ok (.putfield 76, 3) := by decide +kernel
theorem dX11_halt_5 : decode cX11_halt 5 = .ok (.aload_n 0, 1) := by decide +kernel
theorem dX11_halt_6 : decode cX11_halt 6 = .ok (.iload_n 1, 1) := by decide +kernel
theorem dX11_halt_7 : decode cX11_halt 7 = .ok (.invokevirtual 147, 3) := by decide +kernel
theorem dX11_halt_10 : decode cX11_halt 10 = .ok (.ifCond .eq 5, 3) := by decide +kernel
theorem dX11_halt_13 : decode cX11_halt 13 = .ok (.iconst (-1), 1) := by decide +kernel
theorem dX11_halt_14 : decode cX11_halt 14 = .ok (.ireturn, 1) := by decide +kernel
theorem dX11_halt_15 : decode cX11_halt 15 = .ok (.iload_n 2, 1) := by decide +kernel
theorem dX11_halt_16 : decode cX11_halt 16 = .ok (.ifCond .le 45, 3) := by decide +kernel
theorem dX11_halt_19 : decode cX11_halt 19 = .ok (.iload_n 3, 1) := by decide +kernel
theorem dX11_halt_20 : decode cX11_halt 20 = .ok (.ifCond .le 41, 3) := by decide +kernel
theorem dX11_halt_23 : decode cX11_halt 23 = .ok (.iload_n 2, 1) := by decide +kernel
theorem dX11_halt_24 : decode cX11_halt 24 = .ok (.aload_n 0, 1) := by decide +kernel
theorem dX11_halt_25 : decode cX11_halt 25 = .ok (.aload_n 0, 1) := by decide +kernel
theorem dX11_halt_26 : decode cX11_halt 26 = .ok (.getfield 17, 3) := by decide +kernel
theorem dX11_halt_29 : decode cX11_halt 29 = .ok (.iload_n 1, 1) := by decide +kernel
theorem dX11_halt_30 : decode cX11_halt 30 = .ok (.iconst 1, 1) := by decide +kernel
theorem dX11_halt_31 : decode cX11_halt 31 = .ok (.invokevirtual 150, 3) := by decide +kernel
theorem dX11_halt_34 : decode cX11_halt 34 = .ok (.iconst (-1), 1) := by decide +kernel
theorem dX11_halt_35 : decode cX11_halt 35 = .ok (.ixor, 1) := by decide +kernel
theorem dX11_halt_36 : decode cX11_halt 36 = .ok (.iand, 1) := by decide +kernel
theorem dX11_halt_37 : decode cX11_halt 37 = .ok (.ifCond .ne 24, 3) := by decide +kernel
theorem dX11_halt_40 : decode cX11_halt 40 = .ok (.iload_n 3, 1) := by decide +kernel
theorem dX11_halt_41 : decode cX11_halt 41 = .ok (.aload_n 0, 1) := by decide +kernel
theorem dX11_halt_42 : decode cX11_halt 42 = .ok (.aload_n 0, 1) := by decide +kernel
theorem dX11_halt_43 : decode cX11_halt 43 = .ok (.getfield 17, 3) := by decide +kernel
theorem dX11_halt_46 : decode cX11_halt 46 = .ok (.iload_n 1, 1) := by decide +kernel
theorem dX11_halt_47 : decode cX11_halt 47 = .ok (.iconst 0, 1) := by decide +kernel
theorem dX11_halt_48 : decode cX11_halt 48 = .ok (.invokevirtual 150, 3) := by decide +kernel
theorem dX11_halt_51 : decode cX11_halt 51 = .ok (.iconst (-1), 1) := by decide +kernel
theorem dX11_halt_52 : decode cX11_halt 52 = .ok (.ixor, 1) := by decide +kernel
theorem dX11_halt_53 : decode cX11_halt 53 = .ok (.iand, 1) := by decide +kernel
theorem dX11_halt_54 : decode cX11_halt 54 = .ok (.ifCond .ne 7, 3) := by decide +kernel
theorem dX11_halt_57 : decode cX11_halt 57 = .ok (.iconst 1, 1) := by decide +kernel
theorem dX11_halt_58 : decode cX11_halt 58 = .ok (.goto 4, 3) := by decide +kernel
theorem dX11_halt_61 : decode cX11_halt 61 = .ok (.iconst 0, 1) := by decide +kernel
theorem dX11_halt_62 : decode cX11_halt 62 = .ok (.istore 4, 2) := by decide +kernel
theorem dX11_halt_64 : decode cX11_halt 64 = .ok (.iload 4, 2) := by decide +kernel
theorem dX11_halt_66 : decode cX11_halt 66 = .ok (.ifCond .eq 14, 3) := by decide +kernel
theorem dX11_halt_69 : decode cX11_halt 69 = .ok (.iload_n 2, 1) := by decide +kernel
theorem dX11_halt_70 : decode cX11_halt 70 = .ok (.invokestatic 154, 3) := by decide +kernel
theorem dX11_halt_73 : decode cX11_halt 73 = .ok (.iload_n 3, 1) := by decide +kernel
theorem dX11_halt_74 : decode cX11_halt 74 = .ok (.invokestatic 154, 3) := by decide +kernel
theorem dX11_halt_77 : decode cX11_halt 77 = .ok (.if_icmp .eq 6, 3) := by decide +kernel
theorem dX11_halt_80 : decode cX11_halt 80 = .ok (.bipush (-2), 2) := by decide +kernel
theorem dX11_halt_82 : decode cX11_halt 82 = .ok (.ireturn, 1) := by decide +kernel
theorem dX11_halt_83 : decode cX11_halt 83 = .ok (.aload_n 0, 1) := by decide +kernel
theorem dX11_halt_84 : decode cX11_halt 84 = .ok (.getfield 133, 3) := by decide +kernel
theorem dX11_halt_87 : decode cX11_halt 87 = .ok (.bipush 24, 2) := by decide +kernel
theorem dX11_halt_89 : decode cX11_halt 89 = .ok (.if_icmp .ne 6, 3) := by decide +kernel
theorem dX11_halt_92 : decode cX11_halt 92 = .ok (.bipush (-4), 2) := by decide +kernel
theorem dX11_halt_94 : decode cX11_halt 94 = .ok (.ireturn, 1) := by decide +kernel
theorem dX11_halt_95 : decode cX11_halt 95 = .ok (.aload_n 0, 1) := by decide +kernel
theorem dX11_halt_96 : decode cX11_halt 96 = .ok (.iload_n 1, 1) := by decide +kernel
theorem dX11_halt_97 : decode cX11_halt 97 = .ok (.iload_n 2, 1) := by decide +kernel
theorem dX11_halt_98 : decode cX11_halt 98 = .ok (.iload_n 3, 1) := by decide +kernel
theorem dX11_halt_99 : decode cX11_halt 99 = .ok (.invokevirtual 168, 3) := by decide +kernel
theorem dX11_halt_102 : decode cX11_halt 102 = .ok (.iload_n 2, 1) := by decide +kernel
theorem dX11_halt_103 : decode cX11_halt 103 = .ok (.invokestatic 154, 3) := by decide +kernel
theorem dX11_halt_106 : decode cX11_halt 106 = .ok (.ireturn, 1) := by decide +kernel
theorem dX11_back_0 : decode cX11_back 0 = .ok (.aload_n 0, 1) := by decide +kernel
theorem dX11_back_1 : decode cX11_back 1 = .ok (.iconst 0, 1) := by decide +kernel
theorem dX11_back_2 : decode cX11_back 2 = .ok (.putfield 76, 3) := by decide +kernel
theorem dX11_back_5 : decode cX11_back 5 = .ok (.aload_n 0, 1) := by decide +kernel
theorem dX11_back_6 : decode cX11_back 6 = .ok (.getfield 133, 3) := by decide +kernel
theorem dX11_back_9 : decode cX11_back 9 = .ok (.ifCond .ne 6, 3) := by decide +kernel
theorem dX11_back_12 : decode cX11_back 12 = .ok (.bipush (-3), 2) := by decide +kernel
theorem dX11_back_14 : decode cX11_back 14 = .ok (.ireturn, 1) := by decide +kernel
theorem dX11_back_15 : decode cX11_back 15 = .ok (.aload_n 0, 1) := by decide +kernel
theorem dX11_back_16 : decode cX11_back 16 = .ok (.dup, 1) := by decide +kernel
theorem dX11_back_17 : decode cX11_back 17 = .ok (.getfield 133, 3) := by decide +kernel
theorem dX11_back_20 : decode cX11_back 20 = .ok (.iconst 1, 1) := by decide +kernel
theorem dX11_back_21 : decode cX11_back 21 = .ok (.isub, 1) := by decide +kernel
theorem dX11_back_22 : decode cX11_back 22 = .ok (.putfield 133, 3) := by decide +kernel
theorem dX11_back_25 : decode cX11_back 25 = .ok (.aload_n 0, 1) := by decide +kernel
theorem dX11_back_26 : decode cX11_back 26 = .ok (.getfield 26, 3) := by decide +kernel
theorem dX11_back_29 : decode cX11_back 29 = .ok (.iconst 4, 1) := by decide +kernel
theorem dX11_back_30 : decode cX11_back 30 = .ok (.aload_n 0, 1) := by decide +kernel
theorem dX11_back_31 : decode cX11_back 31 = .ok (.getfield 133, 3) := by decide +kernel
theorem dX11_back_34 : decode cX11_back 34 = .ok (.imul, 1) := by decide +kernel
theorem dX11_back_35 : decode cX11_back 35 = .ok (.iaload, 1) := by decide +kernel
theorem dX11_back_36 : decode cX11_back 36 = .ok (.istore_n 1, 1) := by decide +kernel
theorem dX11_back_37 : decode cX11_back 37 = .ok (.iconst 0, 1) := by decide +kernel
theorem dX11_back_38 : decode cX11_back 38 = .ok (.istore_n 2, 1) := by decide +kernel
theorem dX11_back_39 : decode cX11_back 39 = .ok (.iload_n 2, 1) := by decide +kernel
theorem dX11_back_40 : decode cX11_back 40 = .ok (.bipush 6, 2) := by decide +kernel
theorem dX11_back_42 : decode cX11_back 42 = .ok (.if_icmp .ge 64, 3) := by decide +kernel
theorem dX11_back_45 : decode cX11_back 45 = .ok (.aload_n 0, 1) := by decide +kernel
theorem dX11_back_46 : decode cX11_back 46 = .ok (.getfield 26, 3) := by decide +kernel
theorem dX11_back_49 : decode cX11_back 49 = .ok (.iconst 4, 1) := by decide +kernel
theorem dX11_back_50 : decode cX11_back 50 = .ok (.aload_n 0, 1) := by decide +kernel
theorem dX11_back_51 : decode cX11_back 51 = .ok (.getfield 133, 3) := by decide +kernel
theorem dX11_back_54 : decode cX11_back 54 = .ok (.imul, 1) := by decide +kernel
theorem dX11_back_55 : decode cX11_back 55 = .ok (.iconst 1, 1) := by decide +kernel
theorem dX11_back_56 : decode cX11_back 56 = .ok (.iadd, 1) := by decide +kernel
theorem dX11_back_57 : decode cX11_back 57 = .ok (.iaload, 1) := by decide +kernel
theorem dX11_back_58 : decode cX11_back 58 = .ok (.iload_n 2, 1) := by decide +kernel
theorem dX11_back_59 : decode cX11_back 59 = .ok (.invokestatic 160, 3) := by decide +kernel
theorem dX11_back_62 : decode cX11_back 62 = .ok (.ifCond .eq 11, 3) := by decide +kernel
theorem dX11_back_65 : decode cX11_back 65 = .ok (.aload_n 0, 1) := by decide +kernel
theorem dX11_back_66 : decode cX11_back 66 = .ok (.getfield 17, 3) := by decide +kernel
theorem dX11_back_69 : decode cX11_back 69 = .ok (.iload_n 2, 1) := by decide +kernel
theorem dX11_back_70 : decode cX11_back 70 = .ok (.bipush 6, 2) := by decide +kernel
theorem dX11_back_72 : decode cX11_back 72 = .ok (.iastore, 1) := by decide +kernel
theorem dX11_back_73 : decode cX11_back 73 = .ok (.aload_n 0, 1) := by decide +kernel
theorem dX11_back_74 : decode cX11_back 74 = .ok (.getfield 26, 3) := by decide +kernel
theorem dX11_back_77 : decode cX11_back 77 = .ok (.iconst 4, 1) := by decide +kernel
theorem dX11_back_78 : decode cX11_back 78 = .ok (.aload_n 0, 1) := by decide +kernel
theorem dX11_back_79 : decode cX11_back 79 = .ok (.getfield 133, 3) := by decide +kernel
theorem dX11_back_82 : decode cX11_back 82 = .ok (.imul, 1) := by decide +kernel
theorem dX11_back_83 : decode cX11_back 83 = .ok (.iconst 2, 1) := by decide +kernel
theorem dX11_back_84 : decode cX11_back 84 = .ok (.iadd, 1) := by decide +kernel
theorem dX11_back_85 : decode cX11_back 85 = .ok (.iaload, 1) := by decide +kernel
theorem dX11_back_86 : decode cX11_back 86 = .ok (.iload_n 2, 1) := by decide +kernel
theorem dX11_back_87 : decode cX11_back 87 = .ok (.invokestatic 160, 3) := by decide +kernel
theorem dX11_back_90 : decode cX11_back 90 = .ok (.ifCond .eq 10, 3) := by decide +kernel
theorem dX11_back_93 : decode cX11_back 93 = .ok (.aload_n 0, 1) := by decide +kernel
theorem dX11_back_94 : decode cX11_back 94 = .ok (.getfield 17, 3) := by decide +kernel
theorem dX11_back_97 : decode cX11_back 97 = .ok (.iload_n 2, 1) := by decide +kernel
theorem dX11_back_98 : decode cX11_back 98 = .ok (.iload_n 1, 1) := by decide +kernel
theorem dX11_back_99 : decode cX11_back 99 = .ok (.iastore, 1) := by decide +kernel
theorem dX11_back_100 : decode cX11_back 100 = .ok (.iinc 2 1, 3) := by decide +kernel
theorem dX11_back_103 : decode cX11_back 103 = .ok (.goto (-64), 3) := by decide +kernel
theorem dX11_back_106 : decode cX11_back 106 = .ok (.aload_n 0, 1) := by decide +kernel
theorem dX11_back_107 : decode cX11_back 107 = .ok (.getfield 26, 3) := by decide +kernel
theorem dX11_back_110 : decode cX11_back 110 = .ok (.iconst 4, 1) := by decide +kernel
theorem dX11_back_111 : decode cX11_back 111 = .ok (.aload_n 0, 1) := by decide +kernel
theorem dX11_back_112 : decode cX11_back 112 = .ok (.getfield 133, 3) := by decide +kernel
theorem dX11_back_115 : decode cX11_back 115 = .ok (.imul, 1) := by decide +kernel
theorem dX11_back_116 : decode cX11_back 116 = .ok (.iconst 3, 1) := by decide +kernel
theorem dX11_back_117 : decode cX11_back 117 = .ok (.iadd, 1) := by decide +kernel
theorem dX11_back_118 : decode cX11_back 118 = .ok (.iaload, 1) := by decide +kernel
theorem dX11_back_119 : decode cX11_back 119 = .ok (.istore_n 2, 1) := by decide +kernel
theorem dX11_back_120 : decode cX11_back 120 = .ok (.aload_n 0, 1) := by decide +kernel
theorem dX11_back_121 : decode cX11_back 121 = .ok (.dup, 1) := by decide +kernel
theorem dX11_back_122 : decode cX11_back 122 = .ok (.getfield 130, 3) := by decide +kernel
theorem dX11_back_125 : decode cX11_back 125 = .ok (.iload_n 1, 1) := by decide +kernel
theorem dX11_back_126 : decode cX11_back 126 = .ok (.iload_n 2, 1) := by decide +kernel
theorem dX11_back_127 : decode cX11_back 127 = .ok (.if_icmp .le 9, 3) := by decide +kernel
theorem dX11_back_130 : decode cX11_back 130 = .ok (.iload_n 1, 1) := by decide +kernel
theorem dX11_back_131 : decode cX11_back 131 = .ok (.iload_n 2, 1) := by decide +kernel
theorem dX11_back_132 : decode cX11_back 132 = .ok (.isub, 1) := by decide +kernel
theorem dX11_back_133 : decode cX11_back 133 = .ok (.goto 6, 3) := by decide +kernel
theorem dX11_back_136 : decode cX11_back 136 = .ok (.iload_n 2, 1) := by decide +kernel
theorem dX11_back_137 : decode cX11_back 137 = .ok (.iload_n 1, 1) := by decide +kernel
theorem dX11_back_138 : decode cX11_back 138 = .ok (.isub, 1) := by decide +kernel
theorem dX11_back_139 : decode cX11_back 139 = .ok (.isub, 1) := by decide +kernel
theorem dX11_back_140 : decode cX11_back 140 = .ok (.putfield 130, 3) := by decide +kernel
theorem dX11_back_143 : decode cX11_back 143 = .ok (.aload_n 0, 1) := by decide +kernel
theorem dX11_back_144 : decode cX11_back 144 = .ok (.iload_n 2, 1) := by decide +kernel
theorem dX11_back_145 : decode cX11_back 145 = .ok (.putfield 127, 3) := by decide +kernel
theorem dX11_back_148 : decode cX11_back 148 = .ok (.aload_n 0, 1) := by decide +kernel
theorem dX11_back_149 : decode cX11_back 149 = .ok (.getfield 133, 3) := by decide +kernel
theorem dX11_back_152 : decode cX11_back 152 = .ok (.ireturn, 1) := by decide +kernel
theorem dX11_made_0 : decode cX11_made 0 = .ok (.aload_n 0, 1) := by decide +kernel
theorem dX11_made_1 : decode cX11_made 1 = .ok (.iconst 0, 1) := by decide +kernel
theorem dX11_made_2 : decode cX11_made 2 = .ok (.putfield 76, 3) := by decide +kernel
theorem dX11_made_5 : decode cX11_made 5 = .ok (.iload_n 2, 1) := by decide +kernel
theorem dX11_made_6 : decode cX11_made 6 = .ok (.i2l, 1) := by decide +kernel
theorem dX11_made_7 : decode cX11_made 7 = .ok (.lconst 0, 1) := by decide +kernel
theorem dX11_made_8 : decode cX11_made 8 = .ok (.ldc2_w 172, 3) := by decide +kernel
theorem dX11_made_11 : decode cX11_made 11 = .ok (.invokestatic 79, 3) := by decide +kernel
theorem dX11_made_14 : decode cX11_made 14 = .ok (.ifCond .ne 6, 3) := by decide +kernel
theorem dX11_made_17 : decode cX11_made 17 = .ok (.bipush (-2), 2) := by decide +kernel
theorem dX11_made_19 : decode cX11_made 19 = .ok (.ireturn, 1) := by decide +kernel
theorem dX11_made_20 : decode cX11_made 20 = .ok (.iload_n 1, 1) := by decide +kernel
theorem dX11_made_21 : decode cX11_made 21 = .ok (.i2l, 1) := by decide +kernel
theorem dX11_made_22 : decode cX11_made 22 = .ok (.lconst 0, 1) := by decide +kernel
theorem dX11_made_23 : decode cX11_made 23 = .ok (.aload_n 0, 1) := by decide +kernel
theorem dX11_made_24 : decode cX11_made 24 = .ok (.getfield 133, 3) := by decide +kernel
theorem dX11_made_27 : decode cX11_made 27 = .ok (.iconst 1, 1) := by decide +kernel
theorem dX11_made_28 : decode cX11_made 28 = .ok (.isub, 1) := by decide +kernel
theorem dX11_made_29 : decode cX11_made 29 = .ok (.i2l, 1) := by decide +kernel
theorem dX11_made_30 : decode cX11_made 30 = .ok (.invokestatic 79, 3) := by decide +kernel
theorem dX11_made_33 : decode cX11_made 33 = .ok (.ifCond .eq 16, 3) := by decide +kernel
theorem dX11_made_36 : decode cX11_made 36 = .ok (.aload_n 0, 1) := by decide +kernel
theorem dX11_made_37 : decode cX11_made 37 = .ok (.getfield 26, 3) := by decide +kernel
theorem dX11_made_40 : decode cX11_made 40 = .ok (.iconst 4, 1) := by decide +kernel
theorem dX11_made_41 : decode cX11_made 41 = .ok (.iload_n 1, 1) := by decide +kernel
theorem dX11_made_42 : decode cX11_made 42 = .ok (.imul, 1) := by decide +kernel
theorem dX11_made_43 : decode cX11_made 43 = .ok (.iload_n 2, 1) := by decide +kernel
theorem dX11_made_44 : decode cX11_made 44 = .ok (.iadd, 1) := by decide +kernel
theorem dX11_made_45 : decode cX11_made 45 = .ok (.iaload, 1) := by decide +kernel
theorem dX11_made_46 : decode cX11_made 46 = .ok (.goto 5, 3) := by decide +kernel
theorem dX11_made_49 : decode cX11_made 49 = .ok (.bipush (-9), 2) := by decide +kernel
theorem dX11_made_51 : decode cX11_made 51 = .ok (.ireturn, 1) := by decide +kernel
theorem dX11_codeOf_0 : decode cX11_codeOf 0 = .ok (.iconst 0, 1) := by decide +kernel
theorem dX11_codeOf_1 : decode cX11_codeOf 1 = .ok (.istore_n 1, 1) := by decide +kernel
theorem dX11_codeOf_2 : decode cX11_codeOf 2 = .ok (.iconst 0, 1) := by decide +kernel
theorem dX11_codeOf_3 : decode cX11_codeOf 3 = .ok (.istore_n 2, 1) := by decide +kernel
theorem dX11_codeOf_4 : decode cX11_codeOf 4 = .ok (.iload_n 2, 1) := by decide +kernel
theorem dX11_codeOf_5 : decode cX11_codeOf 5 = .ok (.iconst 4, 1) := by decide +kernel
theorem dX11_codeOf_6 : decode cX11_codeOf 6 = .ok (.if_icmp .ge 39, 3) := by decide +kernel
theorem dX11_codeOf_9 : decode cX11_codeOf 9 = .ok (.iconst 3, 1) := by decide +kernel
theorem dX11_codeOf_10 : decode cX11_codeOf 10 = .ok (.iload_n 1, 1) := by decide +kernel
theorem dX11_codeOf_11 : decode cX11_codeOf 11 = .ok (.imul, 1) := by decide +kernel
theorem dX11_codeOf_12 : decode cX11_codeOf 12 = .ok (.aload_n 0, 1) := by decide +kernel
theorem dX11_codeOf_13 : decode cX11_codeOf 13 = .ok (.iload_n 2, 1) := by decide +kernel
theorem dX11_codeOf_14 : decode cX11_codeOf 14 = .ok (.iaload, 1) := by decide +kernel
theorem dX11_codeOf_15 : decode cX11_codeOf 15 = .ok (.bipush 6, 2) := by decide +kernel
theorem dX11_codeOf_17 : decode cX11_codeOf 17 = .ok (.if_icmp .ge 7, 3) := by decide +kernel
theorem dX11_codeOf_20 : decode cX11_codeOf 20 = .ok (.iconst 0, 1) := by decide +kernel
theorem dX11_codeOf_21 : decode cX11_codeOf 21 = .ok (.goto 16, 3) := by decide +kernel
theorem dX11_codeOf_24 : decode cX11_codeOf 24 = .ok (.aload_n 0, 1) := by decide +kernel
theorem dX11_codeOf_25 : decode cX11_codeOf 25 = .ok (.iload_n 2, 1) := by decide +kernel
theorem dX11_codeOf_26 : decode cX11_codeOf 26 = .ok (.iaload, 1) := by decide +kernel
theorem dX11_codeOf_27 : decode cX11_codeOf 27 = .ok (.bipush 6, 2) := by decide +kernel
theorem dX11_codeOf_29 : decode cX11_codeOf 29 = .ok (.if_icmp .ne 7, 3) := by decide +kernel
theorem dX11_codeOf_32 : decode cX11_codeOf 32 = .ok (.iconst 1, 1) := by decide +kernel
theorem dX11_codeOf_33 : decode cX11_codeOf 33 = .ok (.goto 4, 3) := by decide +kernel
theorem dX11_codeOf_36 : decode cX11_codeOf 36 = .ok (.iconst 2, 1) := by decide +kernel
theorem dX11_codeOf_37 : decode cX11_codeOf 37 = .ok (.iadd, 1) := by decide +kernel
theorem dX11_codeOf_38 : decode cX11_codeOf 38 = .ok (.istore_n 1, 1) := by decide +kernel
theorem dX11_codeOf_39 : decode cX11_codeOf 39 = .ok (.iinc 2 1, 3) := by decide +kernel
theorem dX11_codeOf_42 : decode cX11_codeOf 42 = .ok (.goto (-38), 3) := by decide +kernel
theorem dX11_codeOf_45 : decode cX11_codeOf 45 = .ok (.iconst 4, 1) := by decide +kernel
theorem dX11_codeOf_46 : decode cX11_codeOf 46 = .ok (.istore_n 2, 1) := by decide +kernel
theorem dX11_codeOf_47 : decode cX11_codeOf 47 = .ok (.iload_n 2, 1) := by decide +kernel
theorem dX11_codeOf_48 : decode cX11_codeOf 48 = .ok (.bipush 6, 2) := by decide +kernel
theorem dX11_codeOf_50 : decode cX11_codeOf 50 = .ok (.if_icmp .ge 30, 3) := by decide +kernel
theorem dX11_codeOf_53 : decode cX11_codeOf 53 = .ok (.bipush 7, 2) := by decide +kernel
theorem dX11_codeOf_55 : decode cX11_codeOf 55 = .ok (.iload_n 1, 1) := by decide +kernel
theorem dX11_codeOf_56 : decode cX11_codeOf 56 = .ok (.imul, 1) := by decide +kernel
theorem dX11_codeOf_57 : decode cX11_codeOf 57 = .ok (.aload_n 0, 1) := by decide +kernel
theorem dX11_codeOf_58 : decode cX11_codeOf 58 = .ok (.iload_n 2, 1) := by decide +kernel
theorem dX11_codeOf_59 : decode cX11_codeOf 59 = .ok (.iaload, 1) := by decide +kernel
theorem dX11_codeOf_60 : decode cX11_codeOf 60 = .ok (.bipush 8, 2) := by decide +kernel
theorem dX11_codeOf_62 : decode cX11_codeOf 62 = .ok (.if_icmp .ne 7, 3) := by decide +kernel
theorem dX11_codeOf_65 : decode cX11_codeOf 65 = .ok (.iconst 0, 1) := by decide +kernel
theorem dX11_codeOf_66 : decode cX11_codeOf 66 = .ok (.goto 6, 3) := by decide +kernel
theorem dX11_codeOf_69 : decode cX11_codeOf 69 = .ok (.aload_n 0, 1) := by decide +kernel
theorem dX11_codeOf_70 : decode cX11_codeOf 70 = .ok (.iload_n 2, 1) := by decide +kernel
theorem dX11_codeOf_71 : decode cX11_codeOf 71 = .ok (.iaload, 1) := by decide +kernel
theorem dX11_codeOf_72 : decode cX11_codeOf 72 = .ok (.iadd, 1) := by decide +kernel
theorem dX11_codeOf_73 : decode cX11_codeOf 73 = .ok (.istore_n 1, 1) := by decide +kernel
theorem dX11_codeOf_74 : decode cX11_codeOf 74 = .ok (.iinc 2 1, 3) := by decide +kernel
theorem dX11_codeOf_77 : decode cX11_codeOf 77 = .ok (.goto (-30), 3) := by decide +kernel
theorem dX11_codeOf_80 : decode cX11_codeOf 80 = .ok (.iload_n 1, 1) := by decide +kernel
theorem dX11_codeOf_81 : decode cX11_codeOf 81 = .ok (.ireturn, 1) := by decide +kernel
theorem dX11_lay_0 : decode cX11_lay 0 = .ok (.iload_n 1, 1) := by decide +kernel
theorem dX11_lay_1 : decode cX11_lay 1 = .ok (.istore_n 2, 1) := by decide +kernel
theorem dX11_lay_2 : decode cX11_lay 2 = .ok (.iconst 5, 1) := by decide +kernel
theorem dX11_lay_3 : decode cX11_lay 3 = .ok (.istore_n 3, 1) := by decide +kernel
theorem dX11_lay_4 : decode cX11_lay 4 = .ok (.iload_n 3, 1) := by decide +kernel
theorem dX11_lay_5 : decode cX11_lay 5 = .ok (.ifCond .lt 92, 3) := by decide +kernel
theorem dX11_lay_8 : decode cX11_lay 8 = .ok (.iload_n 3, 1) := by decide +kernel
theorem dX11_lay_9 : decode cX11_lay 9 = .ok (.iconst 4, 1) := by decide +kernel
theorem dX11_lay_10 : decode cX11_lay 10 = .ok (.if_icmp .ge 7, 3) := by decide +kernel
theorem dX11_lay_13 : decode cX11_lay 13 = .ok (.iconst 3, 1) := by decide +kernel
theorem dX11_lay_14 : decode cX11_lay 14 = .ok (.goto 5, 3) := by decide +kernel
theorem dX11_lay_17 : decode cX11_lay 17 = .ok (.bipush 7, 2) := by decide +kernel
theorem dX11_lay_19 : decode cX11_lay 19 = .ok (.istore 4, 2) := by decide +kernel
theorem dX11_lay_21 : decode cX11_lay 21 = .ok (.iload_n 2, 1) := by decide +kernel
theorem dX11_lay_22 : decode cX11_lay 22 = .ok (.iload 4, 2) := by decide +kernel
theorem dX11_lay_24 : decode cX11_lay 24 = .ok (.irem, 1) := by decide +kernel
theorem dX11_lay_25 : decode cX11_lay 25 = .ok (.istore 5, 2) := by decide +kernel
theorem dX11_lay_27 : decode cX11_lay 27 = .ok (.iload_n 2, 1) := by decide +kernel
theorem dX11_lay_28 : decode cX11_lay 28 = .ok (.iload 4, 2) := by decide +kernel
theorem dX11_lay_30 : decode cX11_lay 30 = .ok (.idiv, 1) := by decide +kernel
theorem dX11_lay_31 : decode cX11_lay 31 = .ok (.istore_n 2, 1) := by decide +kernel
theorem dX11_lay_32 : decode cX11_lay 32 = .ok (.aload_n 0, 1) := by decide +kernel
theorem dX11_lay_33 : decode cX11_lay 33 = .ok (.getfield 54, 3) := by decide +kernel
theorem dX11_lay_36 : decode cX11_lay 36 = .ok (.iload_n 3, 1) := by decide +kernel
theorem dX11_lay_37 : decode cX11_lay 37 = .ok (.aload_n 0, 1) := by decide +kernel
theorem dX11_lay_38 : decode cX11_lay 38 = .ok (.getfield 17, 3) := by decide +kernel
theorem dX11_lay_41 : decode cX11_lay 41 = .ok (.iload_n 3, 1) := by decide +kernel
theorem dX11_lay_42 : decode cX11_lay 42 = .ok (.iaload, 1) := by decide +kernel
theorem dX11_lay_43 : decode cX11_lay 43 = .ok (.bipush 8, 2) := by decide +kernel
theorem dX11_lay_45 : decode cX11_lay 45 = .ok (.if_icmp .ne 8, 3) := by decide +kernel
theorem dX11_lay_48 : decode cX11_lay 48 = .ok (.bipush 8, 2) := by decide +kernel
theorem dX11_lay_50 : decode cX11_lay 50 = .ok (.goto 40, 3) := by decide +kernel
theorem dX11_lay_53 : decode cX11_lay 53 = .ok (.iload_n 3, 1) := by decide +kernel
theorem dX11_lay_54 : decode cX11_lay 54 = .ok (.iconst 4, 1) := by decide +kernel
theorem dX11_lay_55 : decode cX11_lay 55 = .ok (.if_icmp .lt 8, 3) := by decide +kernel
theorem dX11_lay_58 : decode cX11_lay 58 = .ok (.iload 5, 2) := by decide +kernel
theorem dX11_lay_60 : decode cX11_lay 60 = .ok (.goto 30, 3) := by decide +kernel
theorem dX11_lay_63 : decode cX11_lay 63 = .ok (.iload 5, 2) := by decide +kernel
theorem dX11_lay_65 : decode cX11_lay 65 = .ok (.ifCond .ne 12, 3) := by decide +kernel
theorem dX11_lay_68 : decode cX11_lay 68 = .ok (.aload_n 0, 1) := by decide +kernel
theorem dX11_lay_69 : decode cX11_lay 69 = .ok (.getfield 23, 3) := by decide +kernel
theorem dX11_lay_72 : decode cX11_lay 72 = .ok (.iload_n 3, 1) := by decide +kernel
theorem dX11_lay_73 : decode cX11_lay 73 = .ok (.iaload, 1) := by decide +kernel
theorem dX11_lay_74 : decode cX11_lay 74 = .ok (.goto 16, 3) := by decide +kernel
theorem dX11_lay_77 : decode cX11_lay 77 = .ok (.iload 5, 2) := by decide +kernel
theorem dX11_lay_79 : decode cX11_lay 79 = .ok (.iconst 1, 1) := by decide +kernel
theorem dX11_lay_80 : decode cX11_lay 80 = .ok (.if_icmp .ne 8, 3) := by decide +kernel
theorem dX11_lay_83 : decode cX11_lay 83 = .ok (.bipush 6, 2) := by decide +kernel
theorem dX11_lay_85 : decode cX11_lay 85 = .ok (.goto 5, 3) := by decide +kernel
theorem dX11_lay_88 : decode cX11_lay 88 = .ok (.bipush 7, 2) := by decide +kernel
theorem dX11_lay_90 : decode cX11_lay 90 = .ok (.iastore, 1) := by decide +kernel
theorem dX11_lay_91 : decode cX11_lay 91 = .ok (.iinc 3 (-1), 3) := by decide +kernel
theorem dX11_lay_94 : decode cX11_lay 94 = .ok (.goto (-90), 3) := by decide +kernel
theorem dX11_lay_97 : decode cX11_lay 97 = .ok (.return_, 1) := by decide +kernel
theorem dX11_areDone_0 : decode cX11_areDone 0 = .ok (.iconst 1, 1) := by decide +kernel
theorem dX11_areDone_1 : decode cX11_areDone 1 = .ok (.istore_n 2, 1) := by decide +kernel
theorem dX11_areDone_2 : decode cX11_areDone 2 = .ok (.iconst 0, 1) := by decide +kernel
theorem dX11_areDone_3 : decode cX11_areDone 3 = .ok (.istore_n 3, 1) := by decide +kernel
theorem dX11_areDone_4 : decode cX11_areDone 4 = .ok (.iload_n 3, 1) := by decide +kernel
theorem dX11_areDone_5 : decode cX11_areDone 5 = .ok (.iconst 4, 1) := by decide +kernel
theorem dX11_areDone_6 : decode cX11_areDone 6 = .ok (.if_icmp .ge 38, 3) := by decide +kernel
theorem dX11_areDone_9 : decode cX11_areDone 9 = .ok (.iload_n 2, 1) := by decide +kernel
theorem dX11_areDone_10 : decode cX11_areDone 10 = .ok (.ifCond .eq 26, 3) := by decide +kernel
theorem dX11_areDone_13 : decode cX11_areDone 13 = .ok (.iload_n 1, 1) := by decide +kernel
theorem dX11_areDone_14 : decode cX11_areDone 14 = .ok (.iload_n 3, 1) := by decide +kernel
theorem dX11_areDone_15 : decode cX11_areDone 15 = .ok (.invokestatic 160, 3) := by decide +kernel
theorem dX11_areDone_18 : decode cX11_areDone 18 = .ok (.ifCond .eq 14, 3) := by decide +kernel
theorem dX11_areDone_21 : decode cX11_areDone 21 = .ok (.aload_n 0, 1) := by decide +kernel
theorem dX11_areDone_22 : decode cX11_areDone 22 = .ok (.getfield 54, 3) := by decide +kernel
theorem dX11_areDone_25 : decode cX11_areDone 25 = .ok (.iload_n 3, 1) := by decide +kernel
theorem dX11_areDone_26 : decode cX11_areDone 26 = .ok (.iaload, 1) := by decide +kernel
theorem dX11_areDone_27 : decode cX11_areDone 27 = .ok (.bipush 7, 2) := by decide +kernel
theorem dX11_areDone_29 : decode cX11_areDone 29 = .ok (.if_icmp .ne 7, 3) := by decide +kernel
theorem dX11_areDone_32 : decode cX11_areDone 32 = .ok (.iconst 1, 1) := by decide +kernel
theorem dX11_areDone_33 : decode cX11_areDone 33 = .ok (.goto 4, 3) := by decide +kernel
theorem dX11_areDone_36 : decode cX11_areDone 36 = .ok (.iconst 0, 1) := by decide +kernel
theorem dX11_areDone_37 : decode cX11_areDone 37 = .ok (.istore_n 2, 1) := by decide +kernel
theorem dX11_areDone_38 : decode cX11_areDone 38 = .ok (.iinc 3 1, 3) := by decide +kernel
theorem dX11_areDone_41 : decode cX11_areDone 41 = .ok (.goto (-37), 3) := by decide +kernel
theorem dX11_areDone_44 : decode cX11_areDone 44 = .ok (.iload_n 2, 1) := by decide +kernel
theorem dX11_areDone_45 : decode cX11_areDone 45 = .ok (.ireturn, 1) := by decide +kernel
theorem dX11_come_0 : decode cX11_come 0 = .ok (.aload_n 0, 1) := by decide +kernel
theorem dX11_come_1 : decode cX11_come 1 = .ok (.getfield 57, 3) := by decide +kernel
theorem dX11_come_4 : decode cX11_come 4 = .ok (.iload_n 1, 1) := by decide +kernel
theorem dX11_come_5 : decode cX11_come 5 = .ok (.baload, 1) := by decide +kernel
theorem dX11_come_6 : decode cX11_come 6 = .ok (.ifCond .ne 30, 3) := by decide +kernel
theorem dX11_come_9 : decode cX11_come 9 = .ok (.aload_n 0, 1) := by decide +kernel
theorem dX11_come_10 : decode cX11_come 10 = .ok (.getfield 57, 3) := by decide +kernel
theorem dX11_come_13 : decode cX11_come 13 = .ok (.iload_n 1, 1) := by decide +kernel
theorem dX11_come_14 : decode cX11_come 14 = .ok (.iconst 1, 1) := by decide +kernel
theorem dX11_come_15 : decode cX11_come 15 = .ok (.bastore, 1) := by decide +kernel
theorem dX11_come_16 : decode cX11_come 16 = .ok (.aload_n 0, 1) := by decide +kernel
theorem dX11_come_17 : decode cX11_come 17 = .ok (.getfield 60, 3) := by decide +kernel
theorem dX11_come_20 : decode cX11_come 20 = .ok (.aload_n 0, 1) := by decide +kernel
theorem dX11_come_21 : decode cX11_come 21 = .ok (.getfield 174, 3) := by decide +kernel
theorem dX11_come_24 : decode cX11_come 24 = .ok (.iload_n 1, 1) := by decide +kernel
theorem dX11_come_25 : decode cX11_come 25 = .ok (.iastore, 1) := by decide +kernel
theorem dX11_come_26 : decode cX11_come 26 = .ok (.aload_n 0, 1) := by decide +kernel
theorem dX11_come_27 : decode cX11_come 27 = .ok (.dup, 1) := by decide +kernel
theorem dX11_come_28 : decode cX11_come 28 = .ok (.getfield 174, 3) := by decide +kernel
theorem dX11_come_31 : decode cX11_come 31 = .ok (.iconst 1, 1) := by decide +kernel
theorem dX11_come_32 : decode cX11_come 32 = .ok (.iadd, 1) := by decide +kernel
theorem dX11_come_33 : decode cX11_come 33 = .ok (.putfield 174, 3) := by decide +kernel
theorem dX11_come_36 : decode cX11_come 36 = .ok (.return_, 1) := by decide +kernel
theorem dX11_behind_0 : decode cX11_behind 0 = .ok (.iconst 0, 1) := by decide +kernel
theorem dX11_behind_1 : decode cX11_behind 1 = .ok (.istore 4, 2) := by decide +kernel
theorem dX11_behind_3 : decode cX11_behind 3 = .ok (.iload 4, 2) := by decide +kernel
theorem dX11_behind_5 : decode cX11_behind 5 = .ok (.bipush 6, 2) := by decide +kernel
theorem dX11_behind_7 : decode cX11_behind 7 = .ok (.if_icmp .ge 23, 3) := by decide +kernel
theorem dX11_behind_10 : decode cX11_behind 10 = .ok (.aload_n 0, 1) := by decide +kernel
theorem dX11_behind_11 : decode cX11_behind 11 = .ok (.getfield 73, 3) := by decide +kernel
theorem dX11_behind_14 : decode cX11_behind 14 = .ok (.iload 4, 2) := by decide +kernel
theorem dX11_behind_16 : decode cX11_behind 16 = .ok (.aload_n 0, 1) := by decide +kernel
theorem dX11_behind_17 : decode cX11_behind 17 = .ok (.getfield 54, 3) := by decide +kernel
theorem dX11_behind_20 : decode cX11_behind 20 = .ok (.iload 4, 2) := by decide +kernel
theorem dX11_behind_22 : decode cX11_behind 22 = .ok (.iaload, 1) := by decide +kernel
theorem dX11_behind_23 : decode cX11_behind 23 = .ok (.iastore, 1) := by decide +kernel
theorem dX11_behind_24 : decode cX11_behind 24 = .ok (.iinc 4 1, 3) := by decide +kernel
theorem dX11_behind_27 : decode cX11_behind 27 = .ok (.goto (-24), 3) := by decide +kernel
theorem dX11_behind_30 : decode cX11_behind 30 = .ok (.aload_n 0, 1) := by decide +kernel
theorem dX11_behind_31 : decode cX11_behind 31 = .ok (.getfield 73, 3) := by decide +kernel
theorem dX11_behind_34 : decode cX11_behind 34 = .ok (.iload_n 1, 1) := by decide +kernel
theorem dX11_behind_35 : decode cX11_behind 35 = .ok (.iload_n 2, 1) := by decide +kernel
theorem dX11_behind_36 : decode cX11_behind 36 = .ok (.iload_n 3, 1) := by decide +kernel
theorem dX11_behind_37 : decode cX11_behind 37 = .ok (.invokestatic 164, 3) := by decide +kernel
theorem dX11_behind_40 : decode cX11_behind 40 = .ok (.aload_n 0, 1) := by decide +kernel
theorem dX11_behind_41 : decode cX11_behind 41 = .ok (.getfield 73, 3) := by decide +kernel
theorem dX11_behind_44 : decode cX11_behind 44 = .ok (.invokestatic 177, 3) := by decide +kernel
theorem dX11_behind_47 : decode cX11_behind 47 = .ok (.ireturn, 1) := by decide +kernel
theorem dX11_goAll_0 : decode cX11_goAll 0 = .ok (.iconst 0, 1) := by decide +kernel
theorem dX11_goAll_1 : decode cX11_goAll 1 = .ok (.istore_n 1, 1) := by decide +kernel
theorem dX11_goAll_2 : decode cX11_goAll 2 = .ok (.iload_n 1, 1) := by decide +kernel
theorem dX11_goAll_3 : decode cX11_goAll 3 = .ok (.sipush 3969, 3) := by decide +kernel
theorem dX11_goAll_6 : decode cX11_goAll 6 = .ok (.if_icmp .ge 16, 3) := by decide +kernel
theorem dX11_goAll_9 : decode cX11_goAll 9 = .ok (.aload_n 0, 1) := by decide +kernel
theorem dX11_goAll_10 : decode cX11_goAll 10 = .ok (.getfield 57, 3) := by decide +kernel
theorem dX11_goAll_13 : decode cX11_goAll 13 = .ok (.iload_n 1, 1) := by decide +kernel
theorem dX11_goAll_14 : decode cX11_goAll 14 = .ok (.iconst 0, 1) := by decide +kernel
theorem dX11_goAll_15 : decode cX11_goAll 15 = .ok (.bastore, 1) := by decide +kernel
theorem dX11_goAll_16 : decode cX11_goAll 16 = .ok (.iinc 1 1, 3) := by decide +kernel
theorem dX11_goAll_19 : decode cX11_goAll 19 = .ok (.goto (-17), 3) := by decide +kernel
theorem dX11_goAll_22 : decode cX11_goAll 22 = .ok (.aload_n 0, 1) := by decide +kernel
theorem dX11_goAll_23 : decode cX11_goAll 23 = .ok (.iconst 0, 1) := by decide +kernel
theorem dX11_goAll_24 : decode cX11_goAll 24 = .ok (.putfield 174, 3) := by decide +kernel
theorem dX11_goAll_27 : decode cX11_goAll 27 = .ok (.aload_n 0, 1) := by decide +kernel
theorem dX11_goAll_28 : decode cX11_goAll 28 = .ok (.aload_n 0, 1) := by decide +kernel
theorem dX11_goAll_29 : decode cX11_goAll 29 = .ok (.getfield 17, 3) := by decide +kernel
theorem dX11_goAll_32 : decode cX11_goAll 32 = .ok (.invokestatic 177, 3) := by decide +kernel
theorem dX11_goAll_35 : decode cX11_goAll 35 = .ok (.invokevirtual 181, 3) := by decide +kernel
theorem dX11_goAll_38 : decode cX11_goAll 38 = .ok (.iconst 0, 1) := by decide +kernel
theorem dX11_goAll_39 : decode cX11_goAll 39 = .ok (.istore_n 1, 1) := by decide +kernel
theorem dX11_goAll_40 : decode cX11_goAll 40 = .ok (.iload_n 1, 1) := by decide +kernel
theorem dX11_goAll_41 : decode cX11_goAll 41 = .ok (.aload_n 0, 1) := by decide +kernel
theorem dX11_goAll_42 : decode cX11_goAll 42 = .ok (.getfield 174, 3) := by decide +kernel
theorem dX11_goAll_45 : decode cX11_goAll 45 = .ok (.if_icmp .ge 60, 3) := by decide +kernel
theorem dX11_goAll_48 : decode cX11_goAll 48 = .ok (.aload_n 0, 1) := by decide +kernel
theorem dX11_goAll_49 : decode cX11_goAll 49 = .ok (.aload_n 0, 1) := by decide +kernel
theorem dX11_goAll_50 : decode cX11_goAll 50 = .ok (.getfield 60, 3) := by decide +kernel
theorem dX11_goAll_53 : decode cX11_goAll 53 = .ok (.iload_n 1, 1) := by decide +kernel
theorem dX11_goAll_54 : decode cX11_goAll 54 = .ok (.iaload, 1) := by decide +kernel
theorem dX11_goAll_55 : decode cX11_goAll 55 = .ok (.invokevirtual 185, 3) := by decide +kernel
theorem dX11_goAll_58 : decode cX11_goAll 58 = .ok (.iconst 0, 1) := by decide +kernel
theorem dX11_goAll_59 : decode cX11_goAll 59 = .ok (.istore_n 2, 1) := by decide +kernel
theorem dX11_goAll_60 : decode cX11_goAll 60 = .ok (.iload_n 2, 1) := by decide +kernel
theorem dX11_goAll_61 : decode cX11_goAll 61 = .ok (.aload_n 0, 1) := by decide +kernel
theorem dX11_goAll_62 : decode cX11_goAll 62 = .ok (.getfield 13, 3) := by decide +kernel
theorem dX11_goAll_65 : decode cX11_goAll 65 = .ok (.if_icmp .ge 34, 3) := by decide +kernel
theorem dX11_goAll_68 : decode cX11_goAll 68 = .ok (.aload_n 0, 1) := by decide +kernel
theorem dX11_goAll_69 : decode cX11_goAll 69 = .ok (.iload_n 2, 1) := by decide +kernel
theorem dX11_goAll_70 : decode cX11_goAll 70 = .ok (.aload_n 0, 1) := by decide +kernel
theorem dX11_goAll_71 : decode cX11_goAll 71 = .ok (.aload_n 0, 1) := by decide +kernel
theorem dX11_goAll_72 : decode cX11_goAll 72 = .ok (.getfield 54, 3) := by decide +kernel
theorem dX11_goAll_75 : decode cX11_goAll 75 = .ok (.iload_n 2, 1) := by decide +kernel
theorem dX11_goAll_76 : decode cX11_goAll 76 = .ok (.iconst 1, 1) := by decide +kernel
theorem dX11_goAll_77 : decode cX11_goAll 77 = .ok (.invokevirtual 150, 3) := by decide +kernel
theorem dX11_goAll_80 : decode cX11_goAll 80 = .ok (.aload_n 0, 1) := by decide +kernel
theorem dX11_goAll_81 : decode cX11_goAll 81 = .ok (.aload_n 0, 1) := by decide +kernel
theorem dX11_goAll_82 : decode cX11_goAll 82 = .ok (.getfield 54, 3) := by decide +kernel
theorem dX11_goAll_85 : decode cX11_goAll 85 = .ok (.iload_n 2, 1) := by decide +kernel
theorem dX11_goAll_86 : decode cX11_goAll 86 = .ok (.iconst 0, 1) := by decide +kernel
theorem dX11_goAll_87 : decode cX11_goAll 87 = .ok (.invokevirtual 150, 3) := by decide +kernel
theorem dX11_goAll_90 : decode cX11_goAll 90 = .ok (.invokevirtual 188, 3) := by decide +kernel
theorem dX11_goAll_93 : decode cX11_goAll 93 = .ok (.iinc 2 1, 3) := by decide +kernel
theorem dX11_goAll_96 : decode cX11_goAll 96 = .ok (.goto (-36), 3) := by decide +kernel
theorem dX11_goAll_99 : decode cX11_goAll 99 = .ok (.iinc 1 1, 3) := by decide +kernel
theorem dX11_goAll_102 : decode cX11_goAll 102 = .ok (.goto (-62), 3) := by decide +kernel
theorem dX11_goAll_105 : decode cX11_goAll 105 = .ok (.return_, 1) := by decide +kernel
theorem dX11_next_0 : decode cX11_next 0 = .ok (.iload_n 0, 1) := by decide +kernel
theorem dX11_next_1 : decode cX11_next 1 = .ok (.iload_n 1, 1) := by decide +kernel
theorem dX11_next_2 : decode cX11_next 2 = .ok (.isub, 1) := by decide +kernel
theorem dX11_next_3 : decode cX11_next 3 = .ok (.iload_n 1, 1) := by decide +kernel
theorem dX11_next_4 : decode cX11_next 4 = .ok (.iand, 1) := by decide +kernel
theorem dX11_next_5 : decode cX11_next 5 = .ok (.ireturn, 1) := by decide +kernel
theorem dX11_comeBy_0 : decode cX11_comeBy 0 = .ok (.iconst 0, 1) := by decide +kernel
theorem dX11_comeBy_1 : decode cX11_comeBy 1 = .ok (.iload_n 2, 1) := by decide +kernel
theorem dX11_comeBy_2 : decode cX11_comeBy 2 = .ok (.invokestatic 191, 3) := by decide +kernel
theorem dX11_comeBy_5 : decode cX11_comeBy 5 = .ok (.istore 4, 2) := by decide +kernel
theorem dX11_comeBy_7 : decode cX11_comeBy 7 = .ok (.iload 4, 2) := by decide +kernel
theorem dX11_comeBy_9 : decode cX11_comeBy 9 = .ok (.ifCond .eq 63, 3) := by decide +kernel
theorem dX11_comeBy_12 : decode cX11_comeBy 12 = .ok (.iconst 0, 1) := by decide +kernel
theorem dX11_comeBy_13 : decode cX11_comeBy 13 = .ok (.iload_n 3, 1) := by decide +kernel
theorem dX11_comeBy_14 : decode cX11_comeBy 14 = .ok (.invokestatic 191, 3) := by decide +kernel
theorem dX11_comeBy_17 : decode cX11_comeBy 17 = .ok (.istore 5, 2) := by decide +kernel
theorem dX11_comeBy_19 : decode cX11_comeBy 19 = .ok (.iload 5, 2) := by decide +kernel
theorem dX11_comeBy_21 : decode cX11_comeBy 21 = .ok (.ifCond .eq 40, 3) := by decide +kernel
theorem dX11_comeBy_24 : decode cX11_comeBy 24 = .ok (.iload 4, 2) := by decide +kernel
theorem dX11_comeBy_26 : decode cX11_comeBy 26 = .ok (.invokestatic 154, 3) := by decide +kernel
theorem dX11_comeBy_29 : decode cX11_comeBy 29 = .ok (.iload 5, 2) := by decide +kernel
theorem dX11_comeBy_31 : decode cX11_comeBy 31 = .ok (.invokestatic 154, 3) := by decide +kernel
theorem dX11_comeBy_34 : decode cX11_comeBy 34 = .ok (.if_icmp .ne 16, 3) := by decide +kernel
theorem dX11_comeBy_37 : decode cX11_comeBy 37 = .ok (.aload_n 0, 1) := by decide +kernel
theorem dX11_comeBy_38 : decode cX11_comeBy 38 = .ok (.aload_n 0, 1) := by decide +kernel
theorem dX11_comeBy_39 : decode cX11_comeBy 39 = .ok (.iload_n 1, 1) := by decide +kernel
theorem dX11_comeBy_40 : decode cX11_comeBy 40 = .ok (.iload 4, 2) := by decide +kernel
theorem dX11_comeBy_42 : decode cX11_comeBy 42 = .ok (.iload 5, 2) := by decide +kernel
theorem dX11_comeBy_44 : decode cX11_comeBy 44 = .ok (.invokevirtual 194, 3) := by decide +kernel
theorem dX11_comeBy_47 : decode cX11_comeBy 47 = .ok (.invokevirtual 181, 3) := by decide +kernel
theorem dX11_comeBy_50 : decode cX11_comeBy 50 = .ok (.iload 5, 2) := by decide +kernel
theorem dX11_comeBy_52 : decode cX11_comeBy 52 = .ok (.iload_n 3, 1) := by decide +kernel
theorem dX11_comeBy_53 : decode cX11_comeBy 53 = .ok (.invokestatic 191, 3) := by decide +kernel
theorem dX11_comeBy_56 : decode cX11_comeBy 56 = .ok (.istore 5, 2) := by decide +kernel
theorem dX11_comeBy_58 : decode cX11_comeBy 58 = .ok (.goto (-39), 3) := by decide +kernel
theorem dX11_comeBy_61 : decode cX11_comeBy 61 = .ok (.iload 4, 2) := by decide +kernel
theorem dX11_comeBy_63 : decode cX11_comeBy 63 = .ok (.iload_n 2, 1) := by decide +kernel
theorem dX11_comeBy_64 : decode cX11_comeBy 64 = .ok (.invokestatic 191, 3) := by decide +kernel
theorem dX11_comeBy_67 : decode cX11_comeBy 67 = .ok (.istore 4, 2) := by decide +kernel
theorem dX11_comeBy_69 : decode cX11_comeBy 69 = .ok (.goto (-62), 3) := by decide +kernel
theorem dX11_comeBy_72 : decode cX11_comeBy 72 = .ok (.return_, 1) := by decide +kernel
theorem dX11_reached_0 : decode cX11_reached 0 = .ok (.aload_n 0, 1) := by decide +kernel
theorem dX11_reached_1 : decode cX11_reached 1 = .ok (.iconst 0, 1) := by decide +kernel
theorem dX11_reached_2 : decode cX11_reached 2 = .ok (.putfield 76, 3) := by decide +kernel
theorem dX11_reached_5 : decode cX11_reached 5 = .ok (.aload_n 0, 1) := by decide +kernel
theorem dX11_reached_6 : decode cX11_reached 6 = .ok (.invokevirtual 198, 3) := by decide +kernel
theorem dX11_reached_9 : decode cX11_reached 9 = .ok (.aload_n 0, 1) := by decide +kernel
theorem dX11_reached_10 : decode cX11_reached 10 = .ok (.getfield 174, 3) := by decide +kernel
theorem dX11_reached_13 : decode cX11_reached 13 = .ok (.ireturn, 1) := by decide +kernel
theorem dX11_leastBehind_0 : decode cX11_leastBehind 0 = .ok (.ldc 201, 2) := by decide +kernel
theorem dX11_leastBehind_2 : decode cX11_leastBehind 2 = .ok (.istore 4, 2) := by decide +kernel
theorem dX11_leastBehind_4 : decode cX11_leastBehind 4 = .ok (.iconst 0, 1) := by decide +kernel
theorem dX11_leastBehind_5 : decode cX11_leastBehind 5 = .ok (.iload_n 2, 1) := by decide +kernel
theorem dX11_leastBehind_6 : decode cX11_leastBehind 6 = .ok (.invokestatic 191, 3) := by decide +kernel
theorem dX11_leastBehind_9 : decode cX11_leastBehind 9 = .ok (.istore 5, 2) := by decide +kernel
theorem dX11_leastBehind_11 : decode cX11_leastBehind 11 = .ok (.iload 5, 2) := by decide +kernel
theorem dX11_leastBehind_13 : decode cX11_leastBehind 13 = .ok (.ifCond .eq 82, 3) := by decide +kernel
theorem dX11_leastBehind_16 : decode cX11_leastBehind 16 = .ok (.iconst 0, 1) := by decide +kernel
theorem dX11_leastBehind_17 : decode cX11_leastBehind 17 = .ok (.iload_n 3, 1) := by decide +kernel
theorem dX11_leastBehind_18 : decode cX11_leastBehind 18 = .ok (.invokestatic 191, 3) := by decide +kernel
theorem dX11_leastBehind_21 : decode cX11_leastBehind 21 = .ok (.istore 6, 2) := by decide +kernel
theorem dX11_leastBehind_23 : decode cX11_leastBehind 23 = .ok (.iload 6, 2) := by decide +kernel
theorem dX11_leastBehind_25 : decode cX11_leastBehind 25 = .ok (.ifCond .eq 59, 3) := by decide +kernel
theorem dX11_leastBehind_28 : decode cX11_leastBehind 28 = .ok (.iload 5, 2) := by decide +kernel
theorem dX11_leastBehind_30 : decode cX11_leastBehind 30 = .ok (.invokestatic 154, 3) := by decide +kernel
theorem dX11_leastBehind_33 : decode cX11_leastBehind 33 = .ok (.iload 6, 2) := by decide +kernel
theorem dX11_leastBehind_35 : decode cX11_leastBehind 35 = .ok (.invokestatic 154, 3) := by decide +kernel
theorem dX11_leastBehind_38 : decode cX11_leastBehind 38 = .ok (.if_icmp .ne 35, 3) := by decide +kernel
theorem dX11_leastBehind_41 : decode cX11_leastBehind 41 = .ok (.aload_n 0, 1) := by decide +kernel
theorem dX11_leastBehind_42 : decode cX11_leastBehind 42 = .ok (.getfield 63, 3) := by decide +kernel
theorem dX11_leastBehind_45 : decode cX11_leastBehind 45 = .ok (.aload_n 0, 1) := by decide +kernel
theorem dX11_leastBehind_46 : decode cX11_leastBehind 46 = .ok (.iload_n 1, 1) := by decide +kernel
theorem dX11_leastBehind_47 : decode cX11_leastBehind 47 = .ok (.iload 5, 2) := by decide +kernel
theorem dX11_leastBehind_49 : decode cX11_leastBehind 49 = .ok (.iload 6, 2) := by decide +kernel
theorem dX11_leastBehind_51 : decode cX11_leastBehind 51 = .ok (.invokevirtual 194, 3) := by decide +kernel
theorem dX11_leastBehind_54 : decode cX11_leastBehind 54 = .ok (.iaload, 1) := by decide +kernel
theorem dX11_leastBehind_55 : decode cX11_leastBehind 55 = .ok (.istore 7, 2) := by decide +kernel
theorem dX11_leastBehind_57 : decode cX11_leastBehind 57 = .ok (.iload 7, 2) := by decide +kernel
theorem dX11_leastBehind_59 : decode cX11_leastBehind 59 = .ok (.iload 4, 2) := by decide +kernel
theorem dX11_leastBehind_61 : decode cX11_leastBehind 61 = .ok (.if_icmp .ge 8, 3) := by decide +kernel
theorem dX11_leastBehind_64 : decode cX11_leastBehind 64 = .ok (.iload 7, 2) := by decide +kernel
theorem dX11_leastBehind_66 : decode cX11_leastBehind 66 = .ok (.goto 5, 3) := by decide +kernel
theorem dX11_leastBehind_69 : decode cX11_leastBehind 69 = .ok (.iload 4, 2) := by decide +kernel
theorem dX11_leastBehind_71 : decode cX11_leastBehind 71 = .ok (.istore 4, 2) := by decide +kernel
theorem dX11_leastBehind_73 : decode cX11_leastBehind 73 = .ok (.iload 6, 2) := by decide +kernel
theorem dX11_leastBehind_75 : decode cX11_leastBehind 75 = .ok (.iload_n 3, 1) := by decide +kernel
theorem dX11_leastBehind_76 : decode cX11_leastBehind 76 = .ok (.invokestatic 191, 3) := by decide +kernel
theorem dX11_leastBehind_79 : decode cX11_leastBehind 79 = .ok (.istore 6, 2) := by decide +kernel
theorem dX11_leastBehind_81 : decode cX11_leastBehind 81 = .ok (.goto (-58), 3) := by decide +kernel
theorem dX11_leastBehind_84 : decode cX11_leastBehind 84 = .ok (.iload 5, 2) := by decide +kernel
theorem dX11_leastBehind_86 : decode cX11_leastBehind 86 = .ok (.iload_n 2, 1) := by decide +kernel
theorem dX11_leastBehind_87 : decode cX11_leastBehind 87 = .ok (.invokestatic 191, 3) := by decide +kernel
theorem dX11_leastBehind_90 : decode cX11_leastBehind 90 = .ok (.istore 5, 2) := by decide +kernel
theorem dX11_leastBehind_92 : decode cX11_leastBehind 92 = .ok (.goto (-81), 3) := by decide +kernel
theorem dX11_leastBehind_95 : decode cX11_leastBehind 95 = .ok (.iload 4, 2) := by decide +kernel
theorem dX11_leastBehind_97 : decode cX11_leastBehind 97 = .ok (.ireturn, 1) := by decide +kernel
theorem dX11_layFar_0 : decode cX11_layFar 0 = .ok (.aload_n 0, 1) := by decide +kernel
theorem dX11_layFar_1 : decode cX11_layFar 1 = .ok (.invokevirtual 198, 3) := by decide +kernel
theorem dX11_layFar_4 : decode cX11_layFar 4 = .ok (.iconst 0, 1) := by decide +kernel
theorem dX11_layFar_5 : decode cX11_layFar 5 = .ok (.istore_n 2, 1) := by decide +kernel
theorem dX11_layFar_6 : decode cX11_layFar 6 = .ok (.iload_n 2, 1) := by decide +kernel
theorem dX11_layFar_7 : decode cX11_layFar 7 = .ok (.aload_n 0, 1) := by decide +kernel
theorem dX11_layFar_8 : decode cX11_layFar 8 = .ok (.getfield 174, 3) := by decide +kernel
theorem dX11_layFar_11 : decode cX11_layFar 11 = .ok (.if_icmp .ge 44, 3) := by decide +kernel
theorem dX11_layFar_14 : decode cX11_layFar 14 = .ok (.aload_n 0, 1) := by decide +kernel
theorem dX11_layFar_15 : decode cX11_layFar 15 = .ok (.aload_n 0, 1) := by decide +kernel
theorem dX11_layFar_16 : decode cX11_layFar 16 = .ok (.getfield 60, 3) := by decide +kernel
theorem dX11_layFar_19 : decode cX11_layFar 19 = .ok (.iload_n 2, 1) := by decide +kernel
theorem dX11_layFar_20 : decode cX11_layFar 20 = .ok (.iaload, 1) := by decide +kernel
theorem dX11_layFar_21 : decode cX11_layFar 21 = .ok (.invokevirtual 185, 3) := by decide +kernel
theorem dX11_layFar_24 : decode cX11_layFar 24 = .ok (.aload_n 0, 1) := by decide +kernel
theorem dX11_layFar_25 : decode cX11_layFar 25 = .ok (.getfield 63, 3) := by decide +kernel
theorem dX11_layFar_28 : decode cX11_layFar 28 = .ok (.aload_n 0, 1) := by decide +kernel
theorem dX11_layFar_29 : decode cX11_layFar 29 = .ok (.getfield 60, 3) := by decide +kernel
theorem dX11_layFar_32 : decode cX11_layFar 32 = .ok (.iload_n 2, 1) := by decide +kernel
theorem dX11_layFar_33 : decode cX11_layFar 33 = .ok (.iaload, 1) := by decide +kernel
theorem dX11_layFar_34 : decode cX11_layFar 34 = .ok (.aload_n 0, 1) := by decide +kernel
theorem dX11_layFar_35 : decode cX11_layFar 35 = .ok (.iload_n 1, 1) := by decide +kernel
theorem dX11_layFar_36 : decode cX11_layFar 36 = .ok (.invokevirtual 202, 3) := by decide +kernel
theorem dX11_layFar_39 : decode cX11_layFar 39 = .ok (.ifCond .eq 7, 3) := by decide +kernel
theorem dX11_layFar_42 : decode cX11_layFar 42 = .ok (.iconst 0, 1) := by decide +kernel
theorem dX11_layFar_43 : decode cX11_layFar 43 = .ok (.goto 5, 3) := by decide +kernel
theorem dX11_layFar_46 : decode cX11_layFar 46 = .ok (.ldc 201, 2) := by decide +kernel
theorem dX11_layFar_48 : decode cX11_layFar 48 = .ok (.iastore, 1) := by decide +kernel
theorem dX11_layFar_49 : decode cX11_layFar 49 = .ok (.iinc 2 1, 3) := by decide +kernel
theorem dX11_layFar_52 : decode cX11_layFar 52 = .ok (.goto (-46), 3) := by decide +kernel
theorem dX11_layFar_55 : decode cX11_layFar 55 = .ok (.iconst 1, 1) := by decide +kernel
theorem dX11_layFar_56 : decode cX11_layFar 56 = .ok (.istore_n 2, 1) := by decide +kernel
theorem dX11_layFar_57 : decode cX11_layFar 57 = .ok (.iconst 0, 1) := by decide +kernel
theorem dX11_layFar_58 : decode cX11_layFar 58 = .ok (.istore_n 3, 1) := by decide +kernel
theorem dX11_layFar_59 : decode cX11_layFar 59 = .ok (.iload_n 2, 1) := by decide +kernel
theorem dX11_layFar_60 : decode cX11_layFar 60 = .ok (.ifCond .eq 148, 3) := by decide +kernel
theorem dX11_layFar_63 : decode cX11_layFar 63 = .ok (.iconst 0, 1) := by decide +kernel
theorem dX11_layFar_64 : decode cX11_layFar 64 = .ok (.istore_n 2, 1) := by decide +kernel
theorem dX11_layFar_65 : decode cX11_layFar 65 = .ok (.iconst 0, 1) := by decide +kernel
theorem dX11_layFar_66 : decode cX11_layFar 66 = .ok (.istore 4, 2) := by decide +kernel
theorem dX11_layFar_68 : decode cX11_layFar 68 = .ok (.iload 4, 2) := by decide +kernel
theorem dX11_layFar_70 : decode cX11_layFar 70 = .ok (.aload_n 0, 1) := by decide +kernel
theorem dX11_layFar_71 : decode cX11_layFar 71 = .ok (.getfield 174, 3) := by decide +kernel
theorem dX11_layFar_74 : decode cX11_layFar 74 = .ok (.if_icmp .ge 128, 3) := by decide +kernel
theorem dX11_layFar_77 : decode cX11_layFar 77 = .ok (.aload_n 0, 1) := by decide +kernel
theorem dX11_layFar_78 : decode cX11_layFar 78 = .ok (.getfield 63, 3) := by decide +kernel
theorem dX11_layFar_81 : decode cX11_layFar 81 = .ok (.aload_n 0, 1) := by decide +kernel
theorem dX11_layFar_82 : decode cX11_layFar 82 = .ok (.getfield 60, 3) := by decide +kernel
theorem dX11_layFar_85 : decode cX11_layFar 85 = .ok (.iload 4, 2) := by decide +kernel
theorem dX11_layFar_87 : decode cX11_layFar 87 = .ok (.iaload, 1) := by decide +kernel
theorem dX11_layFar_88 : decode cX11_layFar 88 = .ok (.iaload, 1) := by decide +kernel
theorem dX11_layFar_89 : decode cX11_layFar 89 = .ok (.ldc 201, 2) := by decide +kernel
theorem dX11_layFar_91 : decode cX11_layFar 91 = .ok (.if_icmp .ne 105, 3) := by decide +kernel
theorem dX11_layFar_94 : decode cX11_layFar 94 = .ok (.aload_n 0, 1) := by decide +kernel
theorem dX11_layFar_95 : decode cX11_layFar 95 = .ok (.aload_n 0, 1) := by decide +kernel
theorem dX11_layFar_96 : decode cX11_layFar 96 = .ok (.getfield 60, 3) := by decide +kernel
theorem dX11_layFar_99 : decode cX11_layFar 99 = .ok (.iload 4, 2) := by decide +kernel
theorem dX11_layFar_101 : decode cX11_layFar 101 = .ok (.iaload, 1) := by decide +kernel
theorem dX11_layFar_102 : decode cX11_layFar 102 = .ok (.invokevirtual 185, 3) := by decide +kernel
theorem dX11_layFar_105 : decode cX11_layFar 105 = .ok (.ldc 201, 2) := by decide +kernel
theorem dX11_layFar_107 : decode cX11_layFar 107 = .ok (.istore 5, 2) := by decide +kernel
theorem dX11_layFar_109 : decode cX11_layFar 109 = .ok (.iconst 0, 1) := by decide +kernel
theorem dX11_layFar_110 : decode cX11_layFar 110 = .ok (.istore 6, 2) := by decide +kernel
theorem dX11_layFar_112 : decode cX11_layFar 112 = .ok (.iload 6, 2) := by decide +kernel
theorem dX11_layFar_114 : decode cX11_layFar 114 = .ok (.aload_n 0, 1) := by decide +kernel
theorem dX11_layFar_115 : decode cX11_layFar 115 = .ok (.getfield 13, 3) := by decide +kernel
theorem dX11_layFar_118 : decode cX11_layFar 118 = .ok (.if_icmp .ge 55, 3) := by decide +kernel
theorem dX11_layFar_121 : decode cX11_layFar 121 = .ok (.aload_n 0, 1) := by decide +kernel
theorem dX11_layFar_122 : decode cX11_layFar 122 = .ok (.iload 6, 2) := by decide +kernel
theorem dX11_layFar_124 : decode cX11_layFar 124 = .ok (.aload_n 0, 1) := by decide +kernel
theorem dX11_layFar_125 : decode cX11_layFar 125 = .ok (.aload_n 0, 1) := by decide +kernel
theorem dX11_layFar_126 : decode cX11_layFar 126 = .ok (.getfield 54, 3) := by decide +kernel
theorem dX11_layFar_129 : decode cX11_layFar 129 = .ok (.iload 6, 2) := by decide +kernel
theorem dX11_layFar_131 : decode cX11_layFar 131 = .ok (.iconst 1, 1) := by decide +kernel
theorem dX11_layFar_132 : decode cX11_layFar 132 = .ok (.invokevirtual 150, 3) := by decide +kernel
theorem dX11_layFar_135 : decode cX11_layFar 135 = .ok (.aload_n 0, 1) := by decide +kernel
theorem dX11_layFar_136 : decode cX11_layFar 136 = .ok (.aload_n 0, 1) := by decide +kernel
theorem dX11_layFar_137 : decode cX11_layFar 137 = .ok (.getfield 54, 3) := by decide +kernel
theorem dX11_layFar_140 : decode cX11_layFar 140 = .ok (.iload 6, 2) := by decide +kernel
theorem dX11_layFar_142 : decode cX11_layFar 142 = .ok (.iconst 0, 1) := by decide +kernel
theorem dX11_layFar_143 : decode cX11_layFar 143 = .ok (.invokevirtual 150, 3) := by decide +kernel
theorem dX11_layFar_146 : decode cX11_layFar 146 = .ok (.invokevirtual 205, 3) := by decide +kernel
theorem dX11_layFar_149 : decode cX11_layFar 149 = .ok (.istore 7, 2) := by decide +kernel
theorem dX11_layFar_151 : decode cX11_layFar 151 = .ok (.iload 7, 2) := by decide +kernel
theorem dX11_layFar_153 : decode cX11_layFar 153 = .ok (.iload 5, 2) := by decide +kernel
theorem dX11_layFar_155 : decode cX11_layFar 155 = .ok (.if_icmp .ge 8, 3) := by decide +kernel
theorem dX11_layFar_158 : decode cX11_layFar 158 = .ok (.iload 7, 2) := by decide +kernel
theorem dX11_layFar_160 : decode cX11_layFar 160 = .ok (.goto 5, 3) := by decide +kernel
theorem dX11_layFar_163 : decode cX11_layFar 163 = .ok (.iload 5, 2) := by decide +kernel
theorem dX11_layFar_165 : decode cX11_layFar 165 = .ok (.istore 5, 2) := by decide +kernel
theorem dX11_layFar_167 : decode cX11_layFar 167 = .ok (.iinc 6 1, 3) := by decide +kernel
theorem dX11_layFar_170 : decode cX11_layFar 170 = .ok (.goto (-58), 3) := by decide +kernel
theorem dX11_layFar_173 : decode cX11_layFar 173 = .ok (.iload 5, 2) := by decide +kernel
theorem dX11_layFar_175 : decode cX11_layFar 175 = .ok (.iload_n 3, 1) := by decide +kernel
theorem dX11_layFar_176 : decode cX11_layFar 176 = .ok (.if_icmp .ne 20, 3) := by decide +kernel
theorem dX11_layFar_179 : decode cX11_layFar 179 = .ok (.aload_n 0, 1) := by decide +kernel
theorem dX11_layFar_180 : decode cX11_layFar 180 = .ok (.getfield 63, 3) := by decide +kernel
theorem dX11_layFar_183 : decode cX11_layFar 183 = .ok (.aload_n 0, 1) := by decide +kernel
theorem dX11_layFar_184 : decode cX11_layFar 184 = .ok (.getfield 60, 3) := by decide +kernel
theorem dX11_layFar_187 : decode cX11_layFar 187 = .ok (.iload 4, 2) := by decide +kernel
theorem dX11_layFar_189 : decode cX11_layFar 189 = .ok (.iaload, 1) := by decide +kernel
theorem dX11_layFar_190 : decode cX11_layFar 190 = .ok (.iload_n 3, 1) := by decide +kernel
theorem dX11_layFar_191 : decode cX11_layFar 191 = .ok (.iconst 1, 1) := by decide +kernel
theorem dX11_layFar_192 : decode cX11_layFar 192 = .ok (.iadd, 1) := by decide +kernel
theorem dX11_layFar_193 : decode cX11_layFar 193 = .ok (.iastore, 1) := by decide +kernel
theorem dX11_layFar_194 : decode cX11_layFar 194 = .ok (.iconst 1, 1) := by decide +kernel
theorem dX11_layFar_195 : decode cX11_layFar 195 = .ok (.istore_n 2, 1) := by decide +kernel
theorem dX11_layFar_196 : decode cX11_layFar 196 = .ok (.iinc 4 1, 3) := by decide +kernel
theorem dX11_layFar_199 : decode cX11_layFar 199 = .ok (.goto (-131), 3) := by decide +kernel
theorem dX11_layFar_202 : decode cX11_layFar 202 = .ok (.iinc 3 1, 3) := by decide +kernel
theorem dX11_layFar_205 : decode cX11_layFar 205 = .ok (.goto (-146), 3) := by decide +kernel
theorem dX11_layFar_208 : decode cX11_layFar 208 = .ok (.return_, 1) := by decide +kernel
theorem dX11_fewestOf_0 : decode cX11_fewestOf 0 = .ok (.aload_n 0, 1) := by decide +kernel
theorem dX11_fewestOf_1 : decode cX11_fewestOf 1 = .ok (.iload_n 1, 1) := by decide +kernel
theorem dX11_fewestOf_2 : decode cX11_fewestOf 2 = .ok (.invokevirtual 208, 3) := by decide +kernel
theorem dX11_fewestOf_5 : decode cX11_fewestOf 5 = .ok (.aload_n 0, 1) := by decide +kernel
theorem dX11_fewestOf_6 : decode cX11_fewestOf 6 = .ok (.getfield 63, 3) := by decide +kernel
theorem dX11_fewestOf_9 : decode cX11_fewestOf 9 = .ok (.aload_n 0, 1) := by decide +kernel
theorem dX11_fewestOf_10 : decode cX11_fewestOf 10 = .ok (.getfield 17, 3) := by decide +kernel
theorem dX11_fewestOf_13 : decode cX11_fewestOf 13 = .ok (.invokestatic 177, 3) := by decide +kernel
theorem dX11_fewestOf_16 : decode cX11_fewestOf 16 = .ok (.iaload, 1) := by decide +kernel
theorem dX11_fewestOf_17 : decode cX11_fewestOf 17 = .ok (.ireturn, 1) := by decide +kernel
theorem dX11_noSet_0 : decode cX11_noSet 0 = .ok (.iload_n 1, 1) := by decide +kernel
theorem dX11_noSet_1 : decode cX11_noSet 1 = .ok (.i2l, 1) := by decide +kernel
theorem dX11_noSet_2 : decode cX11_noSet 2 = .ok (.lconst 0, 1) := by decide +kernel
theorem dX11_noSet_3 : decode cX11_noSet 3 = .ok (.iconst 1, 1) := by decide +kernel
theorem dX11_noSet_4 : decode cX11_noSet 4 = .ok (.aload_n 0, 1) := by decide +kernel
theorem dX11_noSet_5 : decode cX11_noSet 5 = .ok (.getfield 121, 3) := by decide +kernel
theorem dX11_noSet_8 : decode cX11_noSet 8 = .ok (.ishl, 1) := by decide +kernel
theorem dX11_noSet_9 : decode cX11_noSet 9 = .ok (.iconst 1, 1) := by decide +kernel
theorem dX11_noSet_10 : decode cX11_noSet 10 = .ok (.isub, 1) := by decide +kernel
theorem dX11_noSet_11 : decode cX11_noSet 11 = .ok (.i2l, 1) := by decide +kernel
theorem dX11_noSet_12 : decode cX11_noSet 12 = .ok (.invokestatic 79, 3) := by decide +kernel
theorem dX11_noSet_15 : decode cX11_noSet 15 = .ok (.ifCond .ne 7, 3) := by decide +kernel
theorem dX11_noSet_18 : decode cX11_noSet 18 = .ok (.iconst 1, 1) := by decide +kernel
theorem dX11_noSet_19 : decode cX11_noSet 19 = .ok (.goto 4, 3) := by decide +kernel
theorem dX11_noSet_22 : decode cX11_noSet 22 = .ok (.iconst 0, 1) := by decide +kernel
theorem dX11_noSet_23 : decode cX11_noSet 23 = .ok (.ireturn, 1) := by decide +kernel
theorem dX11_fewest_0 : decode cX11_fewest 0 = .ok (.aload_n 0, 1) := by decide +kernel
theorem dX11_fewest_1 : decode cX11_fewest 1 = .ok (.iconst 0, 1) := by decide +kernel
theorem dX11_fewest_2 : decode cX11_fewest 2 = .ok (.putfield 76, 3) := by decide +kernel
theorem dX11_fewest_5 : decode cX11_fewest 5 = .ok (.aload_n 0, 1) := by decide +kernel
theorem dX11_fewest_6 : decode cX11_fewest 6 = .ok (.iload_n 1, 1) := by decide +kernel
theorem dX11_fewest_7 : decode cX11_fewest 7 = .ok (.invokevirtual 211, 3) := by decide +kernel
theorem dX11_fewest_10 : decode cX11_fewest 10 = .ok (.ifCond .eq 6, 3) := by decide +kernel
theorem dX11_fewest_13 : decode cX11_fewest 13 = .ok (.bipush (-2), 2) := by decide +kernel
theorem dX11_fewest_15 : decode cX11_fewest 15 = .ok (.ireturn, 1) := by decide +kernel
theorem dX11_fewest_16 : decode cX11_fewest 16 = .ok (.aload_n 0, 1) := by decide +kernel
theorem dX11_fewest_17 : decode cX11_fewest 17 = .ok (.iload_n 1, 1) := by decide +kernel
theorem dX11_fewest_18 : decode cX11_fewest 18 = .ok (.invokevirtual 214, 3) := by decide +kernel
theorem dX11_fewest_21 : decode cX11_fewest 21 = .ok (.istore_n 2, 1) := by decide +kernel
theorem dX11_fewest_22 : decode cX11_fewest 22 = .ok (.iload_n 2, 1) := by decide +kernel
theorem dX11_fewest_23 : decode cX11_fewest 23 = .ok (.ldc 201, 2) := by decide +kernel
theorem dX11_fewest_25 : decode cX11_fewest 25 = .ok (.if_icmp .ne 8, 3) := by decide +kernel
theorem dX11_fewest_28 : decode cX11_fewest 28 = .ok (.bipush (-9), 2) := by decide +kernel
theorem dX11_fewest_30 : decode cX11_fewest 30 = .ok (.goto 4, 3) := by decide +kernel
theorem dX11_fewest_33 : decode cX11_fewest 33 = .ok (.iload_n 2, 1) := by decide +kernel
theorem dX11_fewest_34 : decode cX11_fewest 34 = .ok (.ireturn, 1) := by decide +kernel
theorem dX11_findStep_0 : decode cX11_findStep 0 = .ok (.aload_n 0, 1) := by decide +kernel
theorem dX11_findStep_1 : decode cX11_findStep 1 = .ok (.bipush (-9), 2) := by decide +kernel
theorem dX11_findStep_3 : decode cX11_findStep 3 = .ok (.putfield 217, 3) := by decide +kernel
theorem dX11_findStep_6 : decode cX11_findStep 6 = .ok (.iconst 0, 1) := by decide +kernel
theorem dX11_findStep_7 : decode cX11_findStep 7 = .ok (.istore_n 2, 1) := by decide +kernel
theorem dX11_findStep_8 : decode cX11_findStep 8 = .ok (.iload_n 2, 1) := by decide +kernel
theorem dX11_findStep_9 : decode cX11_findStep 9 = .ok (.aload_n 0, 1) := by decide +kernel
theorem dX11_findStep_10 : decode cX11_findStep 10 = .ok (.getfield 13, 3) := by decide +kernel
theorem dX11_findStep_13 : decode cX11_findStep 13 = .ok (.if_icmp .ge 155, 3) := by decide +kernel
theorem dX11_findStep_16 : decode cX11_findStep 16 = .ok (.aload_n 0, 1) := by decide +kernel
theorem dX11_findStep_17 : decode cX11_findStep 17 = .ok (.getfield 217, 3) := by decide +kernel
theorem dX11_findStep_20 : decode cX11_findStep 20 = .ok (.bipush (-9), 2) := by decide +kernel
theorem dX11_findStep_22 : decode cX11_findStep 22 = .ok (.if_icmp .ne 146, 3) := by decide +kernel
theorem dX11_findStep_25 : decode cX11_findStep 25 = .ok (.aload_n 0, 1) := by decide +kernel
theorem dX11_findStep_26 : decode cX11_findStep 26 = .ok (.aload_n 0, 1) := by decide +kernel
theorem dX11_findStep_27 : decode cX11_findStep 27 = .ok (.getfield 54, 3) := by decide +kernel
theorem dX11_findStep_30 : decode cX11_findStep 30 = .ok (.iload_n 2, 1) := by decide +kernel
theorem dX11_findStep_31 : decode cX11_findStep 31 = .ok (.iconst 1, 1) := by decide +kernel
theorem dX11_findStep_32 : decode cX11_findStep 32 = .ok (.invokevirtual 150, 3) := by decide +kernel
theorem dX11_findStep_35 : decode cX11_findStep 35 = .ok (.istore_n 3, 1) := by decide +kernel
theorem dX11_findStep_36 : decode cX11_findStep 36 = .ok (.aload_n 0, 1) := by decide +kernel
theorem dX11_findStep_37 : decode cX11_findStep 37 = .ok (.aload_n 0, 1) := by decide +kernel
theorem dX11_findStep_38 : decode cX11_findStep 38 = .ok (.getfield 54, 3) := by decide +kernel
theorem dX11_findStep_41 : decode cX11_findStep 41 = .ok (.iload_n 2, 1) := by decide +kernel
theorem dX11_findStep_42 : decode cX11_findStep 42 = .ok (.iconst 0, 1) := by decide +kernel
theorem dX11_findStep_43 : decode cX11_findStep 43 = .ok (.invokevirtual 150, 3) := by decide +kernel
theorem dX11_findStep_46 : decode cX11_findStep 46 = .ok (.istore 4, 2) := by decide +kernel
theorem dX11_findStep_48 : decode cX11_findStep 48 = .ok (.iconst 0, 1) := by decide +kernel
theorem dX11_findStep_49 : decode cX11_findStep 49 = .ok (.iload_n 3, 1) := by decide +kernel
theorem dX11_findStep_50 : decode cX11_findStep 50 = .ok (.invokestatic 191, 3) := by decide +kernel
theorem dX11_findStep_53 : decode cX11_findStep 53 = .ok (.istore 5, 2) := by decide +kernel
theorem dX11_findStep_55 : decode cX11_findStep 55 = .ok (.iload 5, 2) := by decide +kernel
theorem dX11_findStep_57 : decode cX11_findStep 57 = .ok (.ifCond .eq 105, 3) := by decide +kernel
theorem dX11_findStep_60 : decode cX11_findStep 60 = .ok (.aload_n 0, 1) := by decide +kernel
theorem dX11_findStep_61 : decode cX11_findStep 61 = .ok (.getfield 217, 3) := by decide +kernel
theorem dX11_findStep_64 : decode cX11_findStep 64 = .ok (.bipush (-9), 2) := by decide +kernel
theorem dX11_findStep_66 : decode cX11_findStep 66 = .ok (.if_icmp .ne 96, 3) := by decide +kernel
theorem dX11_findStep_69 : decode cX11_findStep 69 = .ok (.iconst 0, 1) := by decide +kernel
theorem dX11_findStep_70 : decode cX11_findStep 70 = .ok (.iload 4, 2) := by decide +kernel
theorem dX11_findStep_72 : decode cX11_findStep 72 = .ok (.invokestatic 191, 3) := by decide +kernel
theorem dX11_findStep_75 : decode cX11_findStep 75 = .ok (.istore 6, 2) := by decide +kernel
theorem dX11_findStep_77 : decode cX11_findStep 77 = .ok (.iload 6, 2) := by decide +kernel
theorem dX11_findStep_79 : decode cX11_findStep 79 = .ok (.ifCond .eq 72, 3) := by decide +kernel
theorem dX11_findStep_82 : decode cX11_findStep 82 = .ok (.aload_n 0, 1) := by decide +kernel
theorem dX11_findStep_83 : decode cX11_findStep 83 = .ok (.getfield 217, 3) := by decide +kernel
theorem dX11_findStep_86 : decode cX11_findStep 86 = .ok (.bipush (-9), 2) := by decide +kernel
theorem dX11_findStep_88 : decode cX11_findStep 88 = .ok (.if_icmp .ne 63, 3) := by decide +kernel
theorem dX11_findStep_91 : decode cX11_findStep 91 = .ok (.iload 5, 2) := by decide +kernel
theorem dX11_findStep_93 : decode cX11_findStep 93 = .ok (.invokestatic 154, 3) := by decide +kernel
theorem dX11_findStep_96 : decode cX11_findStep 96 = .ok (.iload 6, 2) := by decide +kernel
theorem dX11_findStep_98 : decode cX11_findStep 98 = .ok (.invokestatic 154, 3) := by decide +kernel
theorem dX11_findStep_101 : decode cX11_findStep 101 = .ok (.if_icmp .ne 38, 3) := by decide +kernel
theorem dX11_findStep_104 : decode cX11_findStep 104 = .ok (.aload_n 0, 1) := by decide +kernel
theorem dX11_findStep_105 : decode cX11_findStep 105 = .ok (.getfield 63, 3) := by decide +kernel
theorem dX11_findStep_108 : decode cX11_findStep 108 = .ok (.aload_n 0, 1) := by decide +kernel
theorem dX11_findStep_109 : decode cX11_findStep 109 = .ok (.iload_n 2, 1) := by decide +kernel
theorem dX11_findStep_110 : decode cX11_findStep 110 = .ok (.iload 5, 2) := by decide +kernel
theorem dX11_findStep_112 : decode cX11_findStep 112 = .ok (.iload 6, 2) := by decide +kernel
theorem dX11_findStep_114 : decode cX11_findStep 114 = .ok (.invokevirtual 194, 3) := by decide +kernel
theorem dX11_findStep_117 : decode cX11_findStep 117 = .ok (.iaload, 1) := by decide +kernel
theorem dX11_findStep_118 : decode cX11_findStep 118 = .ok (.iload_n 1, 1) := by decide +kernel
theorem dX11_findStep_119 : decode cX11_findStep 119 = .ok (.if_icmp .ne 20, 3) := by decide +kernel
theorem dX11_findStep_122 : decode cX11_findStep 122 = .ok (.aload_n 0, 1) := by decide +kernel
theorem dX11_findStep_123 : decode cX11_findStep 123 = .ok (.iload_n 2, 1) := by decide +kernel
theorem dX11_findStep_124 : decode cX11_findStep 124 = .ok (.putfield 217, 3) := by decide +kernel
theorem dX11_findStep_127 : decode cX11_findStep 127 = .ok (.aload_n 0, 1) := by decide +kernel
theorem dX11_findStep_128 : decode cX11_findStep 128 = .ok (.iload 5, 2) := by decide +kernel
theorem dX11_findStep_130 : decode cX11_findStep 130 = .ok (.putfield 220, 3) := by decide +kernel
theorem dX11_findStep_133 : decode cX11_findStep 133 = .ok (.aload_n 0, 1) := by decide +kernel
theorem dX11_findStep_134 : decode cX11_findStep 134 = .ok (.iload 6, 2) := by decide +kernel
theorem dX11_findStep_136 : decode cX11_findStep 136 = .ok (.putfield 223, 3) := by decide +kernel
theorem dX11_findStep_139 : decode cX11_findStep 139 = .ok (.iload 6, 2) := by decide +kernel
theorem dX11_findStep_141 : decode cX11_findStep 141 = .ok (.iload 4, 2) := by decide +kernel
theorem dX11_findStep_143 : decode cX11_findStep 143 = .ok (.invokestatic 191, 3) := by decide +kernel
theorem dX11_findStep_146 : decode cX11_findStep 146 = .ok (.istore 6, 2) := by decide +kernel
theorem dX11_findStep_148 : decode cX11_findStep 148 = .ok (.goto (-71), 3) := by decide +kernel
theorem dX11_findStep_151 : decode cX11_findStep 151 = .ok (.iload 5, 2) := by decide +kernel
theorem dX11_findStep_153 : decode cX11_findStep 153 = .ok (.iload_n 3, 1) := by decide +kernel
theorem dX11_findStep_154 : decode cX11_findStep 154 = .ok (.invokestatic 191, 3) := by decide +kernel
theorem dX11_findStep_157 : decode cX11_findStep 157 = .ok (.istore 5, 2) := by decide +kernel
theorem dX11_findStep_159 : decode cX11_findStep 159 = .ok (.goto (-104), 3) := by decide +kernel
theorem dX11_findStep_162 : decode cX11_findStep 162 = .ok (.iinc 2 1, 3) := by decide +kernel
theorem dX11_findStep_165 : decode cX11_findStep 165 = .ok (.goto (-157), 3) := by decide +kernel
theorem dX11_findStep_168 : decode cX11_findStep 168 = .ok (.return_, 1) := by decide +kernel
theorem dX11_plan_0 : decode cX11_plan 0 = .ok (.aload_n 0, 1) := by decide +kernel
theorem dX11_plan_1 : decode cX11_plan 1 = .ok (.iconst 0, 1) := by decide +kernel
theorem dX11_plan_2 : decode cX11_plan 2 = .ok (.putfield 76, 3) := by decide +kernel
theorem dX11_plan_5 : decode cX11_plan 5 = .ok (.aload_n 0, 1) := by decide +kernel
theorem dX11_plan_6 : decode cX11_plan 6 = .ok (.iload_n 1, 1) := by decide +kernel
theorem dX11_plan_7 : decode cX11_plan 7 = .ok (.invokevirtual 211, 3) := by decide +kernel
theorem dX11_plan_10 : decode cX11_plan 10 = .ok (.ifCond .ne 15, 3) := by decide +kernel
theorem dX11_plan_13 : decode cX11_plan 13 = .ok (.iload_n 3, 1) := by decide +kernel
theorem dX11_plan_14 : decode cX11_plan 14 = .ok (.i2l, 1) := by decide +kernel
theorem dX11_plan_15 : decode cX11_plan 15 = .ok (.lconst 0, 1) := by decide +kernel
theorem dX11_plan_16 : decode cX11_plan 16 = .ok (.ldc2_w 172, 3) := by decide +kernel
theorem dX11_plan_19 : decode cX11_plan 19 = .ok (.invokestatic 79, 3) := by decide +kernel
theorem dX11_plan_22 : decode cX11_plan 22 = .ok (.ifCond .ne 6, 3) := by decide +kernel
theorem dX11_plan_25 : decode cX11_plan 25 = .ok (.bipush (-2), 2) := by decide +kernel
theorem dX11_plan_27 : decode cX11_plan 27 = .ok (.ireturn, 1) := by decide +kernel
theorem dX11_plan_28 : decode cX11_plan 28 = .ok (.aload_n 0, 1) := by decide +kernel
theorem dX11_plan_29 : decode cX11_plan 29 = .ok (.iload_n 1, 1) := by decide +kernel
theorem dX11_plan_30 : decode cX11_plan 30 = .ok (.invokevirtual 214, 3) := by decide +kernel
theorem dX11_plan_33 : decode cX11_plan 33 = .ok (.istore 4, 2) := by decide +kernel
theorem dX11_plan_35 : decode cX11_plan 35 = .ok (.iload 4, 2) := by decide +kernel
theorem dX11_plan_37 : decode cX11_plan 37 = .ok (.ldc 201, 2) := by decide +kernel
theorem dX11_plan_39 : decode cX11_plan 39 = .ok (.if_icmp .eq 17, 3) := by decide +kernel
theorem dX11_plan_42 : decode cX11_plan 42 = .ok (.iload_n 2, 1) := by decide +kernel
theorem dX11_plan_43 : decode cX11_plan 43 = .ok (.i2l, 1) := by decide +kernel
theorem dX11_plan_44 : decode cX11_plan 44 = .ok (.lconst 0, 1) := by decide +kernel
theorem dX11_plan_45 : decode cX11_plan 45 = .ok (.iload 4, 2) := by decide +kernel
theorem dX11_plan_47 : decode cX11_plan 47 = .ok (.iconst 1, 1) := by decide +kernel
theorem dX11_plan_48 : decode cX11_plan 48 = .ok (.isub, 1) := by decide +kernel
theorem dX11_plan_49 : decode cX11_plan 49 = .ok (.i2l, 1) := by decide +kernel
theorem dX11_plan_50 : decode cX11_plan 50 = .ok (.invokestatic 79, 3) := by decide +kernel
theorem dX11_plan_53 : decode cX11_plan 53 = .ok (.ifCond .ne 6, 3) := by decide +kernel
theorem dX11_plan_56 : decode cX11_plan 56 = .ok (.bipush (-9), 2) := by decide +kernel
theorem dX11_plan_58 : decode cX11_plan 58 = .ok (.ireturn, 1) := by decide +kernel
theorem dX11_plan_59 : decode cX11_plan 59 = .ok (.aload_n 0, 1) := by decide +kernel
theorem dX11_plan_60 : decode cX11_plan 60 = .ok (.getfield 17, 3) := by decide +kernel
theorem dX11_plan_63 : decode cX11_plan 63 = .ok (.invokestatic 177, 3) := by decide +kernel
theorem dX11_plan_66 : decode cX11_plan 66 = .ok (.istore 5, 2) := by decide +kernel
theorem dX11_plan_68 : decode cX11_plan 68 = .ok (.iconst 0, 1) := by decide +kernel
theorem dX11_plan_69 : decode cX11_plan 69 = .ok (.istore 6, 2) := by decide +kernel
theorem dX11_plan_71 : decode cX11_plan 71 = .ok (.iload 6, 2) := by decide +kernel
theorem dX11_plan_73 : decode cX11_plan 73 = .ok (.iload_n 2, 1) := by decide +kernel
theorem dX11_plan_74 : decode cX11_plan 74 = .ok (.if_icmp .gt 44, 3) := by decide +kernel
theorem dX11_plan_77 : decode cX11_plan 77 = .ok (.aload_n 0, 1) := by decide +kernel
theorem dX11_plan_78 : decode cX11_plan 78 = .ok (.iload 5, 2) := by decide +kernel
theorem dX11_plan_80 : decode cX11_plan 80 = .ok (.invokevirtual 185, 3) := by decide +kernel
theorem dX11_plan_83 : decode cX11_plan 83 = .ok (.aload_n 0, 1) := by decide +kernel
theorem dX11_plan_84 : decode cX11_plan 84 = .ok (.iload 4, 2) := by decide +kernel
theorem dX11_plan_86 : decode cX11_plan 86 = .ok (.iload 6, 2) := by decide +kernel
theorem dX11_plan_88 : decode cX11_plan 88 = .ok (.isub, 1) := by decide +kernel
theorem dX11_plan_89 : decode cX11_plan 89 = .ok (.iconst 1, 1) := by decide +kernel
theorem dX11_plan_90 : decode cX11_plan 90 = .ok (.isub, 1) := by decide +kernel
theorem dX11_plan_91 : decode cX11_plan 91 = .ok (.invokevirtual 226, 3) := by decide +kernel
theorem dX11_plan_94 : decode cX11_plan 94 = .ok (.aload_n 0, 1) := by decide +kernel
theorem dX11_plan_95 : decode cX11_plan 95 = .ok (.aload_n 0, 1) := by decide +kernel
theorem dX11_plan_96 : decode cX11_plan 96 = .ok (.getfield 217, 3) := by decide +kernel
theorem dX11_plan_99 : decode cX11_plan 99 = .ok (.aload_n 0, 1) := by decide +kernel
theorem dX11_plan_100 : decode cX11_plan 100 = .ok (.getfield 220, 3) := by decide +kernel
theorem dX11_plan_103 : decode cX11_plan 103 = .ok (.aload_n 0, 1) := by decide +kernel
theorem dX11_plan_104 : decode cX11_plan 104 = .ok (.getfield 223, 3) := by decide +kernel
theorem dX11_plan_107 : decode cX11_plan 107 = .ok (.invokevirtual 194, 3) := by decide +kernel
theorem dX11_plan_110 : decode cX11_plan 110 = .ok (.istore 5, 2) := by decide +kernel
theorem dX11_plan_112 : decode cX11_plan 112 = .ok (.iinc 6 1, 3) := by decide +kernel
theorem dX11_plan_115 : decode cX11_plan 115 = .ok (.goto (-44), 3) := by decide +kernel
theorem dX11_plan_118 : decode cX11_plan 118 = .ok (.iload_n 3, 1) := by decide +kernel
theorem dX11_plan_119 : decode cX11_plan 119 = .ok (.ifCond .ne 10, 3) := by decide +kernel
theorem dX11_plan_122 : decode cX11_plan 122 = .ok (.aload_n 0, 1) := by decide +kernel
theorem dX11_plan_123 : decode cX11_plan 123 = .ok (.getfield 217, 3) := by decide +kernel
theorem dX11_plan_126 : decode cX11_plan 126 = .ok (.goto 19, 3) := by decide +kernel
theorem dX11_plan_129 : decode cX11_plan 129 = .ok (.iload_n 3, 1) := by decide +kernel
theorem dX11_plan_130 : decode cX11_plan 130 = .ok (.iconst 1, 1) := by decide +kernel
theorem dX11_plan_131 : decode cX11_plan 131 = .ok (.if_icmp .ne 10, 3) := by decide +kernel
theorem dX11_plan_134 : decode cX11_plan 134 = .ok (.aload_n 0, 1) := by decide +kernel
theorem dX11_plan_135 : decode cX11_plan 135 = .ok (.getfield 220, 3) := by decide +kernel
theorem dX11_plan_138 : decode cX11_plan 138 = .ok (.goto 7, 3) := by decide +kernel
theorem dX11_plan_141 : decode cX11_plan 141 = .ok (.aload_n 0, 1) := by decide +kernel
theorem dX11_plan_142 : decode cX11_plan 142 = .ok (.getfield 223, 3) := by decide +kernel
theorem dX11_plan_145 : decode cX11_plan 145 = .ok (.ireturn, 1) := by decide +kernel
theorem dX11_never_0 : decode cX11_never 0 = .ok (.aload_n 0, 1) := by decide +kernel
theorem dX11_never_1 : decode cX11_never 1 = .ok (.iconst 0, 1) := by decide +kernel
theorem dX11_never_2 : decode cX11_never 2 = .ok (.putfield 76, 3) := by decide +kernel
theorem dX11_never_5 : decode cX11_never 5 = .ok (.aload_n 0, 1) := by decide +kernel
theorem dX11_never_6 : decode cX11_never 6 = .ok (.invokevirtual 198, 3) := by decide +kernel
theorem dX11_never_9 : decode cX11_never 9 = .ok (.iconst 0, 1) := by decide +kernel
theorem dX11_never_10 : decode cX11_never 10 = .ok (.istore_n 1, 1) := by decide +kernel
theorem dX11_never_11 : decode cX11_never 11 = .ok (.iconst 0, 1) := by decide +kernel
theorem dX11_never_12 : decode cX11_never 12 = .ok (.istore_n 2, 1) := by decide +kernel
theorem dX11_never_13 : decode cX11_never 13 = .ok (.iload_n 2, 1) := by decide +kernel
theorem dX11_never_14 : decode cX11_never 14 = .ok (.aload_n 0, 1) := by decide +kernel
theorem dX11_never_15 : decode cX11_never 15 = .ok (.getfield 174, 3) := by decide +kernel
theorem dX11_never_18 : decode cX11_never 18 = .ok (.if_icmp .ge 56, 3) := by decide +kernel
theorem dX11_never_21 : decode cX11_never 21 = .ok (.aload_n 0, 1) := by decide +kernel
theorem dX11_never_22 : decode cX11_never 22 = .ok (.aload_n 0, 1) := by decide +kernel
theorem dX11_never_23 : decode cX11_never 23 = .ok (.getfield 60, 3) := by decide +kernel
theorem dX11_never_26 : decode cX11_never 26 = .ok (.iload_n 2, 1) := by decide +kernel
theorem dX11_never_27 : decode cX11_never 27 = .ok (.iaload, 1) := by decide +kernel
theorem dX11_never_28 : decode cX11_never 28 = .ok (.invokevirtual 185, 3) := by decide +kernel
theorem dX11_never_31 : decode cX11_never 31 = .ok (.iconst 0, 1) := by decide +kernel
theorem dX11_never_32 : decode cX11_never 32 = .ok (.istore_n 3, 1) := by decide +kernel
theorem dX11_never_33 : decode cX11_never 33 = .ok (.iload_n 3, 1) := by decide +kernel
theorem dX11_never_34 : decode cX11_never 34 = .ok (.aload_n 0, 1) := by decide +kernel
theorem dX11_never_35 : decode cX11_never 35 = .ok (.getfield 121, 3) := by decide +kernel
theorem dX11_never_38 : decode cX11_never 38 = .ok (.if_icmp .ge 30, 3) := by decide +kernel
theorem dX11_never_41 : decode cX11_never 41 = .ok (.iload_n 1, 1) := by decide +kernel
theorem dX11_never_42 : decode cX11_never 42 = .ok (.aload_n 0, 1) := by decide +kernel
theorem dX11_never_43 : decode cX11_never 43 = .ok (.getfield 54, 3) := by decide +kernel
theorem dX11_never_46 : decode cX11_never 46 = .ok (.iload_n 3, 1) := by decide +kernel
theorem dX11_never_47 : decode cX11_never 47 = .ok (.iaload, 1) := by decide +kernel
theorem dX11_never_48 : decode cX11_never 48 = .ok (.bipush 7, 2) := by decide +kernel
theorem dX11_never_50 : decode cX11_never 50 = .ok (.if_icmp .ne 9, 3) := by decide +kernel
theorem dX11_never_53 : decode cX11_never 53 = .ok (.iconst 1, 1) := by decide +kernel
theorem dX11_never_54 : decode cX11_never 54 = .ok (.iload_n 3, 1) := by decide +kernel
theorem dX11_never_55 : decode cX11_never 55 = .ok (.ishl, 1) := by decide +kernel
theorem dX11_never_56 : decode cX11_never 56 = .ok (.goto 4, 3) := by decide +kernel
theorem dX11_never_59 : decode cX11_never 59 = .ok (.iconst 0, 1) := by decide +kernel
theorem dX11_never_60 : decode cX11_never 60 = .ok (.ior, 1) := by decide +kernel
theorem dX11_never_61 : decode cX11_never 61 = .ok (.istore_n 1, 1) := by decide +kernel
theorem dX11_never_62 : decode cX11_never 62 = .ok (.iinc 3 1, 3) := by decide +kernel
theorem dX11_never_65 : decode cX11_never 65 = .ok (.goto (-32), 3) := by decide +kernel
theorem dX11_never_68 : decode cX11_never 68 = .ok (.iinc 2 1, 3) := by decide +kernel
theorem dX11_never_71 : decode cX11_never 71 = .ok (.goto (-58), 3) := by decide +kernel
theorem dX11_never_74 : decode cX11_never 74 = .ok (.iconst 1, 1) := by decide +kernel
theorem dX11_never_75 : decode cX11_never 75 = .ok (.aload_n 0, 1) := by decide +kernel
theorem dX11_never_76 : decode cX11_never 76 = .ok (.getfield 121, 3) := by decide +kernel
theorem dX11_never_79 : decode cX11_never 79 = .ok (.ishl, 1) := by decide +kernel
theorem dX11_never_80 : decode cX11_never 80 = .ok (.iconst 1, 1) := by decide +kernel
theorem dX11_never_81 : decode cX11_never 81 = .ok (.isub, 1) := by decide +kernel
theorem dX11_never_82 : decode cX11_never 82 = .ok (.iload_n 1, 1) := by decide +kernel
theorem dX11_never_83 : decode cX11_never 83 = .ok (.iconst (-1), 1) := by decide +kernel
theorem dX11_never_84 : decode cX11_never 84 = .ok (.ixor, 1) := by decide +kernel
theorem dX11_never_85 : decode cX11_never 85 = .ok (.iand, 1) := by decide +kernel
theorem dX11_never_86 : decode cX11_never 86 = .ok (.ireturn, 1) := by decide +kernel
theorem dX11_canBy_0 : decode cX11_canBy 0 = .ok (.iconst 4, 1) := by decide +kernel
theorem dX11_canBy_1 : decode cX11_canBy 1 = .ok (.aload_n 0, 1) := by decide +kernel
theorem dX11_canBy_2 : decode cX11_canBy 2 = .ok (.getfield 124, 3) := by decide +kernel
theorem dX11_canBy_5 : decode cX11_canBy 5 = .ok (.iadd, 1) := by decide +kernel
theorem dX11_canBy_6 : decode cX11_canBy 6 = .ok (.istore_n 3, 1) := by decide +kernel
theorem dX11_canBy_7 : decode cX11_canBy 7 = .ok (.iload_n 1, 1) := by decide +kernel
theorem dX11_canBy_8 : decode cX11_canBy 8 = .ok (.bipush (-9), 2) := by decide +kernel
theorem dX11_canBy_10 : decode cX11_canBy 10 = .ok (.if_icmp .eq 10, 3) := by decide +kernel
theorem dX11_canBy_13 : decode cX11_canBy 13 = .ok (.aload_n 0, 1) := by decide +kernel
theorem dX11_canBy_14 : decode cX11_canBy 14 = .ok (.getfield 17, 3) := by decide +kernel
theorem dX11_canBy_17 : decode cX11_canBy 17 = .ok (.iload_n 3, 1) := by decide +kernel
theorem dX11_canBy_18 : decode cX11_canBy 18 = .ok (.iload_n 1, 1) := by decide +kernel
theorem dX11_canBy_19 : decode cX11_canBy 19 = .ok (.iastore, 1) := by decide +kernel
theorem dX11_canBy_20 : decode cX11_canBy 20 = .ok (.iload_n 2, 1) := by decide +kernel
theorem dX11_canBy_21 : decode cX11_canBy 21 = .ok (.bipush (-9), 2) := by decide +kernel
theorem dX11_canBy_23 : decode cX11_canBy 23 = .ok (.if_icmp .eq 12, 3) := by decide +kernel
theorem dX11_canBy_26 : decode cX11_canBy 26 = .ok (.aload_n 0, 1) := by decide +kernel
theorem dX11_canBy_27 : decode cX11_canBy 27 = .ok (.getfield 17, 3) := by decide +kernel
theorem dX11_canBy_30 : decode cX11_canBy 30 = .ok (.iload_n 3, 1) := by decide +kernel
theorem dX11_canBy_31 : decode cX11_canBy 31 = .ok (.iconst 1, 1) := by decide +kernel
theorem dX11_canBy_32 : decode cX11_canBy 32 = .ok (.iadd, 1) := by decide +kernel
theorem dX11_canBy_33 : decode cX11_canBy 33 = .ok (.iload_n 2, 1) := by decide +kernel
theorem dX11_canBy_34 : decode cX11_canBy 34 = .ok (.iastore, 1) := by decide +kernel
theorem dX11_canBy_35 : decode cX11_canBy 35 = .ok (.aload_n 0, 1) := by decide +kernel
theorem dX11_canBy_36 : decode cX11_canBy 36 = .ok (.iconst 1, 1) := by decide +kernel
theorem dX11_canBy_37 : decode cX11_canBy 37 = .ok (.aload_n 0, 1) := by decide +kernel
theorem dX11_canBy_38 : decode cX11_canBy 38 = .ok (.getfield 121, 3) := by decide +kernel
theorem dX11_canBy_41 : decode cX11_canBy 41 = .ok (.ishl, 1) := by decide +kernel
theorem dX11_canBy_42 : decode cX11_canBy 42 = .ok (.iconst 1, 1) := by decide +kernel
theorem dX11_canBy_43 : decode cX11_canBy 43 = .ok (.isub, 1) := by decide +kernel
theorem dX11_canBy_44 : decode cX11_canBy 44 = .ok (.invokevirtual 214, 3) := by decide +kernel
theorem dX11_canBy_47 : decode cX11_canBy 47 = .ok (.ldc 201, 2) := by decide +kernel
theorem dX11_canBy_49 : decode cX11_canBy 49 = .ok (.if_icmp .ge 7, 3) := by decide +kernel
theorem dX11_canBy_52 : decode cX11_canBy 52 = .ok (.iconst 1, 1) := by decide +kernel
theorem dX11_canBy_53 : decode cX11_canBy 53 = .ok (.goto 4, 3) := by decide +kernel
theorem dX11_canBy_56 : decode cX11_canBy 56 = .ok (.iconst 0, 1) := by decide +kernel
theorem dX11_canBy_57 : decode cX11_canBy 57 = .ok (.istore 4, 2) := by decide +kernel
theorem dX11_canBy_59 : decode cX11_canBy 59 = .ok (.iload_n 3, 1) := by decide +kernel
theorem dX11_canBy_60 : decode cX11_canBy 60 = .ok (.istore 5, 2) := by decide +kernel
theorem dX11_canBy_62 : decode cX11_canBy 62 = .ok (.iload 5, 2) := by decide +kernel
theorem dX11_canBy_64 : decode cX11_canBy 64 = .ok (.bipush 6, 2) := by decide +kernel
theorem dX11_canBy_66 : decode cX11_canBy 66 = .ok (.if_icmp .ge 18, 3) := by decide +kernel
theorem dX11_canBy_69 : decode cX11_canBy 69 = .ok (.aload_n 0, 1) := by decide +kernel
theorem dX11_canBy_70 : decode cX11_canBy 70 = .ok (.getfield 17, 3) := by decide +kernel
theorem dX11_canBy_73 : decode cX11_canBy 73 = .ok (.iload 5, 2) := by decide +kernel
theorem dX11_canBy_75 : decode cX11_canBy 75 = .ok (.bipush 8, 2) := by decide +kernel
theorem dX11_canBy_77 : decode cX11_canBy 77 = .ok (.iastore, 1) := by decide +kernel
theorem dX11_canBy_78 : decode cX11_canBy 78 = .ok (.iinc 5 1, 3) := by decide +kernel
theorem dX11_canBy_81 : decode cX11_canBy 81 = .ok (.goto (-19), 3) := by decide +kernel
theorem dX11_canBy_84 : decode cX11_canBy 84 = .ok (.iload 4, 2) := by decide +kernel
theorem dX11_canBy_86 : decode cX11_canBy 86 = .ok (.ireturn, 1) := by decide +kernel
theorem dX11_hire_0 : decode cX11_hire 0 = .ok (.aload_n 0, 1) := by decide +kernel
theorem dX11_hire_1 : decode cX11_hire 1 = .ok (.iconst 0, 1) := by decide +kernel
theorem dX11_hire_2 : decode cX11_hire 2 = .ok (.putfield 76, 3) := by decide +kernel
theorem dX11_hire_5 : decode cX11_hire 5 = .ok (.aload_n 0, 1) := by decide +kernel
theorem dX11_hire_6 : decode cX11_hire 6 = .ok (.bipush (-9), 2) := by decide +kernel
theorem dX11_hire_8 : decode cX11_hire 8 = .ok (.bipush (-9), 2) := by decide +kernel
theorem dX11_hire_10 : decode cX11_hire 10 = .ok (.invokevirtual 229, 3) := by decide +kernel
theorem dX11_hire_13 : decode cX11_hire 13 = .ok (.ifCond .eq 5, 3) := by decide +kernel
theorem dX11_hire_16 : decode cX11_hire 16 = .ok (.iconst 0, 1) := by decide +kernel
theorem dX11_hire_17 : decode cX11_hire 17 = .ok (.ireturn, 1) := by decide +kernel
theorem dX11_hire_18 : decode cX11_hire 18 = .ok (.iconst 0, 1) := by decide +kernel
theorem dX11_hire_19 : decode cX11_hire 19 = .ok (.istore_n 1, 1) := by decide +kernel
theorem dX11_hire_20 : decode cX11_hire 20 = .ok (.iload_n 1, 1) := by decide +kernel
theorem dX11_hire_21 : decode cX11_hire 21 = .ok (.aload_n 0, 1) := by decide +kernel
theorem dX11_hire_22 : decode cX11_hire 22 = .ok (.getfield 13, 3) := by decide +kernel
theorem dX11_hire_25 : decode cX11_hire 25 = .ok (.if_icmp .ge 32, 3) := by decide +kernel
theorem dX11_hire_28 : decode cX11_hire 28 = .ok (.aload_n 0, 1) := by decide +kernel
theorem dX11_hire_29 : decode cX11_hire 29 = .ok (.getfield 124, 3) := by decide +kernel
theorem dX11_hire_32 : decode cX11_hire 32 = .ok (.iconst 2, 1) := by decide +kernel
theorem dX11_hire_33 : decode cX11_hire 33 = .ok (.if_icmp .ge 24, 3) := by decide +kernel
theorem dX11_hire_36 : decode cX11_hire 36 = .ok (.aload_n 0, 1) := by decide +kernel
theorem dX11_hire_37 : decode cX11_hire 37 = .ok (.iload_n 1, 1) := by decide +kernel
theorem dX11_hire_38 : decode cX11_hire 38 = .ok (.bipush (-9), 2) := by decide +kernel
theorem dX11_hire_40 : decode cX11_hire 40 = .ok (.invokevirtual 229, 3) := by decide +kernel
theorem dX11_hire_43 : decode cX11_hire 43 = .ok (.ifCond .eq 8, 3) := by decide +kernel
theorem dX11_hire_46 : decode cX11_hire 46 = .ok (.bipush 10, 2) := by decide +kernel
theorem dX11_hire_48 : decode cX11_hire 48 = .ok (.iload_n 1, 1) := by decide +kernel
theorem dX11_hire_49 : decode cX11_hire 49 = .ok (.iadd, 1) := by decide +kernel
theorem dX11_hire_50 : decode cX11_hire 50 = .ok (.ireturn, 1) := by decide +kernel
theorem dX11_hire_51 : decode cX11_hire 51 = .ok (.iinc 1 1, 3) := by decide +kernel
theorem dX11_hire_54 : decode cX11_hire 54 = .ok (.goto (-34), 3) := by decide +kernel
theorem dX11_hire_57 : decode cX11_hire 57 = .ok (.iconst 0, 1) := by decide +kernel
theorem dX11_hire_58 : decode cX11_hire 58 = .ok (.istore_n 1, 1) := by decide +kernel
theorem dX11_hire_59 : decode cX11_hire 59 = .ok (.iload_n 1, 1) := by decide +kernel
theorem dX11_hire_60 : decode cX11_hire 60 = .ok (.aload_n 0, 1) := by decide +kernel
theorem dX11_hire_61 : decode cX11_hire 61 = .ok (.getfield 13, 3) := by decide +kernel
theorem dX11_hire_64 : decode cX11_hire 64 = .ok (.if_icmp .ge 51, 3) := by decide +kernel
theorem dX11_hire_67 : decode cX11_hire 67 = .ok (.aload_n 0, 1) := by decide +kernel
theorem dX11_hire_68 : decode cX11_hire 68 = .ok (.getfield 124, 3) := by decide +kernel
theorem dX11_hire_71 : decode cX11_hire 71 = .ok (.ifCond .ne 44, 3) := by decide +kernel
theorem dX11_hire_74 : decode cX11_hire 74 = .ok (.iload_n 1, 1) := by decide +kernel
theorem dX11_hire_75 : decode cX11_hire 75 = .ok (.istore_n 2, 1) := by decide +kernel
theorem dX11_hire_76 : decode cX11_hire 76 = .ok (.iload_n 2, 1) := by decide +kernel
theorem dX11_hire_77 : decode cX11_hire 77 = .ok (.aload_n 0, 1) := by decide +kernel
theorem dX11_hire_78 : decode cX11_hire 78 = .ok (.getfield 13, 3) := by decide +kernel
theorem dX11_hire_81 : decode cX11_hire 81 = .ok (.if_icmp .ge 28, 3) := by decide +kernel
theorem dX11_hire_84 : decode cX11_hire 84 = .ok (.aload_n 0, 1) := by decide +kernel
theorem dX11_hire_85 : decode cX11_hire 85 = .ok (.iload_n 1, 1) := by decide +kernel
theorem dX11_hire_86 : decode cX11_hire 86 = .ok (.iload_n 2, 1) := by decide +kernel
theorem dX11_hire_87 : decode cX11_hire 87 = .ok (.invokevirtual 229, 3) := by decide +kernel
theorem dX11_hire_90 : decode cX11_hire 90 = .ok (.ifCond .eq 13, 3) := by decide +kernel
theorem dX11_hire_93 : decode cX11_hire 93 = .ok (.bipush 100, 2) := by decide +kernel
theorem dX11_hire_95 : decode cX11_hire 95 = .ok (.bipush 10, 2) := by decide +kernel
theorem dX11_hire_97 : decode cX11_hire 97 = .ok (.iload_n 1, 1) := by decide +kernel
theorem dX11_hire_98 : decode cX11_hire 98 = .ok (.imul, 1) := by decide +kernel
theorem dX11_hire_99 : decode cX11_hire 99 = .ok (.iadd, 1) := by decide +kernel
theorem dX11_hire_100 : decode cX11_hire 100 = .ok (.iload_n 2, 1) := by decide +kernel
theorem dX11_hire_101 : decode cX11_hire 101 = .ok (.iadd, 1) := by decide +kernel
theorem dX11_hire_102 : decode cX11_hire 102 = .ok (.ireturn, 1) := by decide +kernel
theorem dX11_hire_103 : decode cX11_hire 103 = .ok (.iinc 2 1, 3) := by decide +kernel
theorem dX11_hire_106 : decode cX11_hire 106 = .ok (.goto (-30), 3) := by decide +kernel
theorem dX11_hire_109 : decode cX11_hire 109 = .ok (.iinc 1 1, 3) := by decide +kernel
theorem dX11_hire_112 : decode cX11_hire 112 = .ok (.goto (-53), 3) := by decide +kernel
theorem dX11_hire_115 : decode cX11_hire 115 = .ok (.bipush (-9), 2) := by decide +kernel
theorem dX11_hire_117 : decode cX11_hire 117 = .ok (.ireturn, 1) := by decide +kernel
theorem dX11_fewestBy_0 : decode cX11_fewestBy 0 = .ok (.aload_n 0, 1) := by decide +kernel
theorem dX11_fewestBy_1 : decode cX11_fewestBy 1 = .ok (.getfield 17, 3) := by decide +kernel
theorem dX11_fewestBy_4 : decode cX11_fewestBy 4 = .ok (.iload_n 1, 1) := by decide +kernel
theorem dX11_fewestBy_5 : decode cX11_fewestBy 5 = .ok (.iaload, 1) := by decide +kernel
theorem dX11_fewestBy_6 : decode cX11_fewestBy 6 = .ok (.istore_n 3, 1) := by decide +kernel
theorem dX11_fewestBy_7 : decode cX11_fewestBy 7 = .ok (.aload_n 0, 1) := by decide +kernel
theorem dX11_fewestBy_8 : decode cX11_fewestBy 8 = .ok (.getfield 17, 3) := by decide +kernel
theorem dX11_fewestBy_11 : decode cX11_fewestBy 11 = .ok (.iload_n 1, 1) := by decide +kernel
theorem dX11_fewestBy_12 : decode cX11_fewestBy 12 = .ok (.iload_n 2, 1) := by decide +kernel
theorem dX11_fewestBy_13 : decode cX11_fewestBy 13 = .ok (.aload_n 0, 1) := by decide +kernel
theorem dX11_fewestBy_14 : decode cX11_fewestBy 14 = .ok (.getfield 20, 3) := by decide +kernel
theorem dX11_fewestBy_17 : decode cX11_fewestBy 17 = .ok (.iload_n 1, 1) := by decide +kernel
theorem dX11_fewestBy_18 : decode cX11_fewestBy 18 = .ok (.iaload, 1) := by decide +kernel
theorem dX11_fewestBy_19 : decode cX11_fewestBy 19 = .ok (.if_icmp .ne 8, 3) := by decide +kernel
theorem dX11_fewestBy_22 : decode cX11_fewestBy 22 = .ok (.bipush 7, 2) := by decide +kernel
theorem dX11_fewestBy_24 : decode cX11_fewestBy 24 = .ok (.goto 4, 3) := by decide +kernel
theorem dX11_fewestBy_27 : decode cX11_fewestBy 27 = .ok (.iload_n 2, 1) := by decide +kernel
theorem dX11_fewestBy_28 : decode cX11_fewestBy 28 = .ok (.iastore, 1) := by decide +kernel
theorem dX11_fewestBy_29 : decode cX11_fewestBy 29 = .ok (.aload_n 0, 1) := by decide +kernel
theorem dX11_fewestBy_30 : decode cX11_fewestBy 30 = .ok (.getfield 23, 3) := by decide +kernel
theorem dX11_fewestBy_33 : decode cX11_fewestBy 33 = .ok (.iload_n 1, 1) := by decide +kernel
theorem dX11_fewestBy_34 : decode cX11_fewestBy 34 = .ok (.iload_n 2, 1) := by decide +kernel
theorem dX11_fewestBy_35 : decode cX11_fewestBy 35 = .ok (.iastore, 1) := by decide +kernel
theorem dX11_fewestBy_36 : decode cX11_fewestBy 36 = .ok (.aload_n 0, 1) := by decide +kernel
theorem dX11_fewestBy_37 : decode cX11_fewestBy 37 = .ok (.iconst 1, 1) := by decide +kernel
theorem dX11_fewestBy_38 : decode cX11_fewestBy 38 = .ok (.aload_n 0, 1) := by decide +kernel
theorem dX11_fewestBy_39 : decode cX11_fewestBy 39 = .ok (.getfield 121, 3) := by decide +kernel
theorem dX11_fewestBy_42 : decode cX11_fewestBy 42 = .ok (.ishl, 1) := by decide +kernel
theorem dX11_fewestBy_43 : decode cX11_fewestBy 43 = .ok (.iconst 1, 1) := by decide +kernel
theorem dX11_fewestBy_44 : decode cX11_fewestBy 44 = .ok (.isub, 1) := by decide +kernel
theorem dX11_fewestBy_45 : decode cX11_fewestBy 45 = .ok (.invokevirtual 214, 3) := by decide +kernel
theorem dX11_fewestBy_48 : decode cX11_fewestBy 48 = .ok (.istore 4, 2) := by decide +kernel
theorem dX11_fewestBy_50 : decode cX11_fewestBy 50 = .ok (.aload_n 0, 1) := by decide +kernel
theorem dX11_fewestBy_51 : decode cX11_fewestBy 51 = .ok (.getfield 17, 3) := by decide +kernel
theorem dX11_fewestBy_54 : decode cX11_fewestBy 54 = .ok (.iload_n 1, 1) := by decide +kernel
theorem dX11_fewestBy_55 : decode cX11_fewestBy 55 = .ok (.iload_n 3, 1) := by decide +kernel
theorem dX11_fewestBy_56 : decode cX11_fewestBy 56 = .ok (.iastore, 1) := by decide +kernel
theorem dX11_fewestBy_57 : decode cX11_fewestBy 57 = .ok (.aload_n 0, 1) := by decide +kernel
theorem dX11_fewestBy_58 : decode cX11_fewestBy 58 = .ok (.getfield 23, 3) := by decide +kernel
theorem dX11_fewestBy_61 : decode cX11_fewestBy 61 = .ok (.iload_n 1, 1) := by decide +kernel
theorem dX11_fewestBy_62 : decode cX11_fewestBy 62 = .ok (.iload_n 3, 1) := by decide +kernel
theorem dX11_fewestBy_63 : decode cX11_fewestBy 63 = .ok (.iastore, 1) := by decide +kernel
theorem dX11_fewestBy_64 : decode cX11_fewestBy 64 = .ok (.iload 4, 2) := by decide +kernel
theorem dX11_fewestBy_66 : decode cX11_fewestBy 66 = .ok (.ireturn, 1) := by decide +kernel
theorem dX11_walks_0 : decode cX11_walks 0 = .ok (.aload_n 0, 1) := by decide +kernel
theorem dX11_walks_1 : decode cX11_walks 1 = .ok (.iconst 0, 1) := by decide +kernel
theorem dX11_walks_2 : decode cX11_walks 2 = .ok (.putfield 76, 3) := by decide +kernel
theorem dX11_walks_5 : decode cX11_walks 5 = .ok (.aload_n 0, 1) := by decide +kernel
theorem dX11_walks_6 : decode cX11_walks 6 = .ok (.iconst 1, 1) := by decide +kernel
theorem dX11_walks_7 : decode cX11_walks 7 = .ok (.aload_n 0, 1) := by decide +kernel
theorem dX11_walks_8 : decode cX11_walks 8 = .ok (.getfield 121, 3) := by decide +kernel
theorem dX11_walks_11 : decode cX11_walks 11 = .ok (.ishl, 1) := by decide +kernel
theorem dX11_walks_12 : decode cX11_walks 12 = .ok (.iconst 1, 1) := by decide +kernel
theorem dX11_walks_13 : decode cX11_walks 13 = .ok (.isub, 1) := by decide +kernel
theorem dX11_walks_14 : decode cX11_walks 14 = .ok (.invokevirtual 214, 3) := by decide +kernel
theorem dX11_walks_17 : decode cX11_walks 17 = .ok (.istore_n 1, 1) := by decide +kernel
theorem dX11_walks_18 : decode cX11_walks 18 = .ok (.bipush (-9), 2) := by decide +kernel
theorem dX11_walks_20 : decode cX11_walks 20 = .ok (.istore_n 2, 1) := by decide +kernel
theorem dX11_walks_21 : decode cX11_walks 21 = .ok (.iconst 0, 1) := by decide +kernel
theorem dX11_walks_22 : decode cX11_walks 22 = .ok (.istore_n 3, 1) := by decide +kernel
theorem dX11_walks_23 : decode cX11_walks 23 = .ok (.iload_n 3, 1) := by decide +kernel
theorem dX11_walks_24 : decode cX11_walks 24 = .ok (.aload_n 0, 1) := by decide +kernel
theorem dX11_walks_25 : decode cX11_walks 25 = .ok (.getfield 121, 3) := by decide +kernel
theorem dX11_walks_28 : decode cX11_walks 28 = .ok (.if_icmp .ge 104, 3) := by decide +kernel
theorem dX11_walks_31 : decode cX11_walks 31 = .ok (.iconst 0, 1) := by decide +kernel
theorem dX11_walks_32 : decode cX11_walks 32 = .ok (.istore 4, 2) := by decide +kernel
theorem dX11_walks_34 : decode cX11_walks 34 = .ok (.iload 4, 2) := by decide +kernel
theorem dX11_walks_36 : decode cX11_walks 36 = .ok (.iconst 2, 1) := by decide +kernel
theorem dX11_walks_37 : decode cX11_walks 37 = .ok (.if_icmp .ge 89, 3) := by decide +kernel
theorem dX11_walks_40 : decode cX11_walks 40 = .ok (.aload_n 0, 1) := by decide +kernel
theorem dX11_walks_41 : decode cX11_walks 41 = .ok (.getfield 17, 3) := by decide +kernel
theorem dX11_walks_44 : decode cX11_walks 44 = .ok (.iload_n 3, 1) := by decide +kernel
theorem dX11_walks_45 : decode cX11_walks 45 = .ok (.iaload, 1) := by decide +kernel
theorem dX11_walks_46 : decode cX11_walks 46 = .ok (.bipush 6, 2) := by decide +kernel
theorem dX11_walks_48 : decode cX11_walks 48 = .ok (.if_icmp .ge 78, 3) := by decide +kernel
theorem dX11_walks_51 : decode cX11_walks 51 = .ok (.aload_n 0, 1) := by decide +kernel
theorem dX11_walks_52 : decode cX11_walks 52 = .ok (.getfield 17, 3) := by decide +kernel
theorem dX11_walks_55 : decode cX11_walks 55 = .ok (.iload_n 3, 1) := by decide +kernel
theorem dX11_walks_56 : decode cX11_walks 56 = .ok (.iaload, 1) := by decide +kernel
theorem dX11_walks_57 : decode cX11_walks 57 = .ok (.iconst 2, 1) := by decide +kernel
theorem dX11_walks_58 : decode cX11_walks 58 = .ok (.iload 4, 2) := by decide +kernel
theorem dX11_walks_60 : decode cX11_walks 60 = .ok (.imul, 1) := by decide +kernel
theorem dX11_walks_61 : decode cX11_walks 61 = .ok (.iadd, 1) := by decide +kernel
theorem dX11_walks_62 : decode cX11_walks 62 = .ok (.iconst 1, 1) := by decide +kernel
theorem dX11_walks_63 : decode cX11_walks 63 = .ok (.isub, 1) := by decide +kernel
theorem dX11_walks_64 : decode cX11_walks 64 = .ok (.istore 5, 2) := by decide +kernel
theorem dX11_walks_66 : decode cX11_walks 66 = .ok (.aload_n 0, 1) := by decide +kernel
theorem dX11_walks_67 : decode cX11_walks 67 = .ok (.iload 5, 2) := by decide +kernel
theorem dX11_walks_69 : decode cX11_walks 69 = .ok (.invokevirtual 147, 3) := by decide +kernel
theorem dX11_walks_72 : decode cX11_walks 72 = .ok (.ifCond .eq 8, 3) := by decide +kernel
theorem dX11_walks_75 : decode cX11_walks 75 = .ok (.ldc 201, 2) := by decide +kernel
theorem dX11_walks_77 : decode cX11_walks 77 = .ok (.goto 10, 3) := by decide +kernel
theorem dX11_walks_80 : decode cX11_walks 80 = .ok (.aload_n 0, 1) := by decide +kernel
theorem dX11_walks_81 : decode cX11_walks 81 = .ok (.iload_n 3, 1) := by decide +kernel
theorem dX11_walks_82 : decode cX11_walks 82 = .ok (.iload 5, 2) := by decide +kernel
theorem dX11_walks_84 : decode cX11_walks 84 = .ok (.invokevirtual 232, 3) := by decide +kernel
theorem dX11_walks_87 : decode cX11_walks 87 = .ok (.istore 6, 2) := by decide +kernel
theorem dX11_walks_89 : decode cX11_walks 89 = .ok (.iload 6, 2) := by decide +kernel
theorem dX11_walks_91 : decode cX11_walks 91 = .ok (.iload_n 1, 1) := by decide +kernel
theorem dX11_walks_92 : decode cX11_walks 92 = .ok (.if_icmp .ge 13, 3) := by decide +kernel
theorem dX11_walks_95 : decode cX11_walks 95 = .ok (.bipush 10, 2) := by decide +kernel
theorem dX11_walks_97 : decode cX11_walks 97 = .ok (.iload_n 3, 1) := by decide +kernel
theorem dX11_walks_98 : decode cX11_walks 98 = .ok (.imul, 1) := by decide +kernel
theorem dX11_walks_99 : decode cX11_walks 99 = .ok (.iload 4, 2) := by decide +kernel
theorem dX11_walks_101 : decode cX11_walks 101 = .ok (.iadd, 1) := by decide +kernel
theorem dX11_walks_102 : decode cX11_walks 102 = .ok (.goto 4, 3) := by decide +kernel
theorem dX11_walks_105 : decode cX11_walks 105 = .ok (.iload_n 2, 1) := by decide +kernel
theorem dX11_walks_106 : decode cX11_walks 106 = .ok (.istore_n 2, 1) := by decide +kernel
theorem dX11_walks_107 : decode cX11_walks 107 = .ok (.iload 6, 2) := by decide +kernel
theorem dX11_walks_109 : decode cX11_walks 109 = .ok (.iload_n 1, 1) := by decide +kernel
theorem dX11_walks_110 : decode cX11_walks 110 = .ok (.if_icmp .ge 8, 3) := by decide +kernel
theorem dX11_walks_113 : decode cX11_walks 113 = .ok (.iload 6, 2) := by decide +kernel
theorem dX11_walks_115 : decode cX11_walks 115 = .ok (.goto 4, 3) := by decide +kernel
theorem dX11_walks_118 : decode cX11_walks 118 = .ok (.iload_n 1, 1) := by decide +kernel
theorem dX11_walks_119 : decode cX11_walks 119 = .ok (.istore_n 1, 1) := by decide +kernel
theorem dX11_walks_120 : decode cX11_walks 120 = .ok (.iinc 4 1, 3) := by decide +kernel
theorem dX11_walks_123 : decode cX11_walks 123 = .ok (.goto (-89), 3) := by decide +kernel
theorem dX11_walks_126 : decode cX11_walks 126 = .ok (.iinc 3 1, 3) := by decide +kernel
theorem dX11_walks_129 : decode cX11_walks 129 = .ok (.goto (-106), 3) := by decide +kernel
theorem dX11_walks_132 : decode cX11_walks 132 = .ok (.iload_n 2, 1) := by decide +kernel
theorem dX11_walks_133 : decode cX11_walks 133 = .ok (.ireturn, 1) := by decide +kernel
theorem dX11_mostAt_0 : decode cX11_mostAt 0 = .ok (.aload_n 0, 1) := by decide +kernel
theorem dX11_mostAt_1 : decode cX11_mostAt 1 = .ok (.aload_n 0, 1) := by decide +kernel
theorem dX11_mostAt_2 : decode cX11_mostAt 2 = .ok (.getfield 17, 3) := by decide +kernel
theorem dX11_mostAt_5 : decode cX11_mostAt 5 = .ok (.iload_n 1, 1) := by decide +kernel
theorem dX11_mostAt_6 : decode cX11_mostAt 6 = .ok (.iconst 1, 1) := by decide +kernel
theorem dX11_mostAt_7 : decode cX11_mostAt 7 = .ok (.invokevirtual 150, 3) := by decide +kernel
theorem dX11_mostAt_10 : decode cX11_mostAt 10 = .ok (.invokestatic 154, 3) := by decide +kernel
theorem dX11_mostAt_13 : decode cX11_mostAt 13 = .ok (.istore_n 2, 1) := by decide +kernel
theorem dX11_mostAt_14 : decode cX11_mostAt 14 = .ok (.aload_n 0, 1) := by decide +kernel
theorem dX11_mostAt_15 : decode cX11_mostAt 15 = .ok (.aload_n 0, 1) := by decide +kernel
theorem dX11_mostAt_16 : decode cX11_mostAt 16 = .ok (.getfield 17, 3) := by decide +kernel
theorem dX11_mostAt_19 : decode cX11_mostAt 19 = .ok (.iload_n 1, 1) := by decide +kernel
theorem dX11_mostAt_20 : decode cX11_mostAt 20 = .ok (.iconst 0, 1) := by decide +kernel
theorem dX11_mostAt_21 : decode cX11_mostAt 21 = .ok (.invokevirtual 150, 3) := by decide +kernel
theorem dX11_mostAt_24 : decode cX11_mostAt 24 = .ok (.invokestatic 154, 3) := by decide +kernel
theorem dX11_mostAt_27 : decode cX11_mostAt 27 = .ok (.istore_n 3, 1) := by decide +kernel
theorem dX11_mostAt_28 : decode cX11_mostAt 28 = .ok (.iload_n 2, 1) := by decide +kernel
theorem dX11_mostAt_29 : decode cX11_mostAt 29 = .ok (.iload_n 3, 1) := by decide +kernel
theorem dX11_mostAt_30 : decode cX11_mostAt 30 = .ok (.if_icmp .ge 7, 3) := by decide +kernel
theorem dX11_mostAt_33 : decode cX11_mostAt 33 = .ok (.iload_n 2, 1) := by decide +kernel
theorem dX11_mostAt_34 : decode cX11_mostAt 34 = .ok (.goto 4, 3) := by decide +kernel
theorem dX11_mostAt_37 : decode cX11_mostAt 37 = .ok (.iload_n 3, 1) := by decide +kernel
theorem dX11_mostAt_38 : decode cX11_mostAt 38 = .ok (.ireturn, 1) := by decide +kernel
theorem dX11_off_0 : decode cX11_off 0 = .ok (.iload_n 1, 1) := by decide +kernel
theorem dX11_off_1 : decode cX11_off 1 = .ok (.aload_n 0, 1) := by decide +kernel
theorem dX11_off_2 : decode cX11_off 2 = .ok (.getfield 127, 3) := by decide +kernel
theorem dX11_off_5 : decode cX11_off 5 = .ok (.if_icmp .le 12, 3) := by decide +kernel
theorem dX11_off_8 : decode cX11_off 8 = .ok (.iload_n 1, 1) := by decide +kernel
theorem dX11_off_9 : decode cX11_off 9 = .ok (.aload_n 0, 1) := by decide +kernel
theorem dX11_off_10 : decode cX11_off 10 = .ok (.getfield 127, 3) := by decide +kernel
theorem dX11_off_13 : decode cX11_off 13 = .ok (.isub, 1) := by decide +kernel
theorem dX11_off_14 : decode cX11_off 14 = .ok (.goto 9, 3) := by decide +kernel
theorem dX11_off_17 : decode cX11_off 17 = .ok (.aload_n 0, 1) := by decide +kernel
theorem dX11_off_18 : decode cX11_off 18 = .ok (.getfield 127, 3) := by decide +kernel
theorem dX11_off_21 : decode cX11_off 21 = .ok (.iload_n 1, 1) := by decide +kernel
theorem dX11_off_22 : decode cX11_off 22 = .ok (.isub, 1) := by decide +kernel
theorem dX11_off_23 : decode cX11_off 23 = .ok (.ireturn, 1) := by decide +kernel
theorem dX11_floorBy_0 : decode cX11_floorBy 0 = .ok (.bipush (-9), 2) := by decide +kernel
theorem dX11_floorBy_2 : decode cX11_floorBy 2 = .ok (.istore_n 2, 1) := by decide +kernel
theorem dX11_floorBy_3 : decode cX11_floorBy 3 = .ok (.iconst 0, 1) := by decide +kernel
theorem dX11_floorBy_4 : decode cX11_floorBy 4 = .ok (.istore_n 3, 1) := by decide +kernel
theorem dX11_floorBy_5 : decode cX11_floorBy 5 = .ok (.iload_n 3, 1) := by decide +kernel
theorem dX11_floorBy_6 : decode cX11_floorBy 6 = .ok (.aload_n 0, 1) := by decide +kernel
theorem dX11_floorBy_7 : decode cX11_floorBy 7 = .ok (.getfield 13, 3) := by decide +kernel
theorem dX11_floorBy_10 : decode cX11_floorBy 10 = .ok (.if_icmp .ge 94, 3) := by decide +kernel
theorem dX11_floorBy_13 : decode cX11_floorBy 13 = .ok (.iload_n 1, 1) := by decide +kernel
theorem dX11_floorBy_14 : decode cX11_floorBy 14 = .ok (.iconst 2, 1) := by decide +kernel
theorem dX11_floorBy_15 : decode cX11_floorBy 15 = .ok (.if_icmp .ge 89, 3) := by decide +kernel
theorem dX11_floorBy_18 : decode cX11_floorBy 18 = .ok (.iload_n 2, 1) := by decide +kernel
theorem dX11_floorBy_19 : decode cX11_floorBy 19 = .ok (.bipush (-9), 2) := by decide +kernel
theorem dX11_floorBy_21 : decode cX11_floorBy 21 = .ok (.if_icmp .ne 7, 3) := by decide +kernel
theorem dX11_floorBy_24 : decode cX11_floorBy 24 = .ok (.iconst 1, 1) := by decide +kernel
theorem dX11_floorBy_25 : decode cX11_floorBy 25 = .ok (.goto 22, 3) := by decide +kernel
theorem dX11_floorBy_28 : decode cX11_floorBy 28 = .ok (.iload_n 1, 1) := by decide +kernel
theorem dX11_floorBy_29 : decode cX11_floorBy 29 = .ok (.ifCond .ne 7, 3) := by decide +kernel
theorem dX11_floorBy_32 : decode cX11_floorBy 32 = .ok (.iconst 0, 1) := by decide +kernel
theorem dX11_floorBy_33 : decode cX11_floorBy 33 = .ok (.goto 14, 3) := by decide +kernel
theorem dX11_floorBy_36 : decode cX11_floorBy 36 = .ok (.aload_n 0, 1) := by decide +kernel
theorem dX11_floorBy_37 : decode cX11_floorBy 37 = .ok (.iload_n 3, 1) := by decide +kernel
theorem dX11_floorBy_38 : decode cX11_floorBy 38 = .ok (.invokevirtual 235, 3) := by decide +kernel
theorem dX11_floorBy_41 : decode cX11_floorBy 41 = .ok (.aload_n 0, 1) := by decide +kernel
theorem dX11_floorBy_42 : decode cX11_floorBy 42 = .ok (.iload_n 2, 1) := by decide +kernel
theorem dX11_floorBy_43 : decode cX11_floorBy 43 = .ok (.invokevirtual 235, 3) := by decide +kernel
theorem dX11_floorBy_46 : decode cX11_floorBy 46 = .ok (.isub, 1) := by decide +kernel
theorem dX11_floorBy_47 : decode cX11_floorBy 47 = .ok (.istore 4, 2) := by decide +kernel
theorem dX11_floorBy_49 : decode cX11_floorBy 49 = .ok (.iload 4, 2) := by decide +kernel
theorem dX11_floorBy_51 : decode cX11_floorBy 51 = .ok (.ifCond .gt 21, 3) := by decide +kernel
theorem dX11_floorBy_54 : decode cX11_floorBy 54 = .ok (.iload 4, 2) := by decide +kernel
theorem dX11_floorBy_56 : decode cX11_floorBy 56 = .ok (.ifCond .ne 20, 3) := by decide +kernel
theorem dX11_floorBy_59 : decode cX11_floorBy 59 = .ok (.aload_n 0, 1) := by decide +kernel
theorem dX11_floorBy_60 : decode cX11_floorBy 60 = .ok (.iload_n 3, 1) := by decide +kernel
theorem dX11_floorBy_61 : decode cX11_floorBy 61 = .ok (.invokevirtual 238, 3) := by decide +kernel
theorem dX11_floorBy_64 : decode cX11_floorBy 64 = .ok (.aload_n 0, 1) := by decide +kernel
theorem dX11_floorBy_65 : decode cX11_floorBy 65 = .ok (.iload_n 2, 1) := by decide +kernel
theorem dX11_floorBy_66 : decode cX11_floorBy 66 = .ok (.invokevirtual 238, 3) := by decide +kernel
theorem dX11_floorBy_69 : decode cX11_floorBy 69 = .ok (.if_icmp .ge 7, 3) := by decide +kernel
theorem dX11_floorBy_72 : decode cX11_floorBy 72 = .ok (.iconst 1, 1) := by decide +kernel
theorem dX11_floorBy_73 : decode cX11_floorBy 73 = .ok (.goto 4, 3) := by decide +kernel
theorem dX11_floorBy_76 : decode cX11_floorBy 76 = .ok (.iconst 0, 1) := by decide +kernel
theorem dX11_floorBy_77 : decode cX11_floorBy 77 = .ok (.istore 5, 2) := by decide +kernel
theorem dX11_floorBy_79 : decode cX11_floorBy 79 = .ok (.aload_n 0, 1) := by decide +kernel
theorem dX11_floorBy_80 : decode cX11_floorBy 80 = .ok (.iload_n 3, 1) := by decide +kernel
theorem dX11_floorBy_81 : decode cX11_floorBy 81 = .ok (.invokevirtual 235, 3) := by decide +kernel
theorem dX11_floorBy_84 : decode cX11_floorBy 84 = .ok (.ifCond .le 12, 3) := by decide +kernel
theorem dX11_floorBy_87 : decode cX11_floorBy 87 = .ok (.iload 5, 2) := by decide +kernel
theorem dX11_floorBy_89 : decode cX11_floorBy 89 = .ok (.ifCond .eq 7, 3) := by decide +kernel
theorem dX11_floorBy_92 : decode cX11_floorBy 92 = .ok (.iload_n 3, 1) := by decide +kernel
theorem dX11_floorBy_93 : decode cX11_floorBy 93 = .ok (.goto 4, 3) := by decide +kernel
theorem dX11_floorBy_96 : decode cX11_floorBy 96 = .ok (.iload_n 2, 1) := by decide +kernel
theorem dX11_floorBy_97 : decode cX11_floorBy 97 = .ok (.istore_n 2, 1) := by decide +kernel
theorem dX11_floorBy_98 : decode cX11_floorBy 98 = .ok (.iinc 3 1, 3) := by decide +kernel
theorem dX11_floorBy_101 : decode cX11_floorBy 101 = .ok (.goto (-96), 3) := by decide +kernel
theorem dX11_floorBy_104 : decode cX11_floorBy 104 = .ok (.aload_n 0, 1) := by decide +kernel
theorem dX11_floorBy_105 : decode cX11_floorBy 105 = .ok (.getfield 127, 3) := by decide +kernel
theorem dX11_floorBy_108 : decode cX11_floorBy 108 = .ok (.istore_n 3, 1) := by decide +kernel
theorem dX11_floorBy_109 : decode cX11_floorBy 109 = .ok (.iload_n 3, 1) := by decide +kernel
theorem dX11_floorBy_110 : decode cX11_floorBy 110 = .ok (.aload_n 0, 1) := by decide +kernel
theorem dX11_floorBy_111 : decode cX11_floorBy 111 = .ok (.getfield 13, 3) := by decide +kernel
theorem dX11_floorBy_114 : decode cX11_floorBy 114 = .ok (.if_icmp .ge 35, 3) := by decide +kernel
theorem dX11_floorBy_117 : decode cX11_floorBy 117 = .ok (.iload_n 1, 1) := by decide +kernel
theorem dX11_floorBy_118 : decode cX11_floorBy 118 = .ok (.iconst 2, 1) := by decide +kernel
theorem dX11_floorBy_119 : decode cX11_floorBy 119 = .ok (.if_icmp .ne 30, 3) := by decide +kernel
theorem dX11_floorBy_122 : decode cX11_floorBy 122 = .ok (.iload_n 2, 1) := by decide +kernel
theorem dX11_floorBy_123 : decode cX11_floorBy 123 = .ok (.bipush (-9), 2) := by decide +kernel
theorem dX11_floorBy_125 : decode cX11_floorBy 125 = .ok (.if_icmp .ne 24, 3) := by decide +kernel
theorem dX11_floorBy_128 : decode cX11_floorBy 128 = .ok (.aload_n 0, 1) := by decide +kernel
theorem dX11_floorBy_129 : decode cX11_floorBy 129 = .ok (.iload_n 3, 1) := by decide +kernel
theorem dX11_floorBy_130 : decode cX11_floorBy 130 = .ok (.invokevirtual 235, 3) := by decide +kernel
theorem dX11_floorBy_133 : decode cX11_floorBy 133 = .ok (.ifCond .le 7, 3) := by decide +kernel
theorem dX11_floorBy_136 : decode cX11_floorBy 136 = .ok (.iload_n 3, 1) := by decide +kernel
theorem dX11_floorBy_137 : decode cX11_floorBy 137 = .ok (.goto 5, 3) := by decide +kernel
theorem dX11_floorBy_140 : decode cX11_floorBy 140 = .ok (.bipush (-9), 2) := by decide +kernel
theorem dX11_floorBy_142 : decode cX11_floorBy 142 = .ok (.istore_n 2, 1) := by decide +kernel
theorem dX11_floorBy_143 : decode cX11_floorBy 143 = .ok (.iinc 3 1, 3) := by decide +kernel
theorem dX11_floorBy_146 : decode cX11_floorBy 146 = .ok (.goto (-37), 3) := by decide +kernel
theorem dX11_floorBy_149 : decode cX11_floorBy 149 = .ok (.aload_n 0, 1) := by decide +kernel
theorem dX11_floorBy_150 : decode cX11_floorBy 150 = .ok (.getfield 13, 3) := by decide +kernel
theorem dX11_floorBy_153 : decode cX11_floorBy 153 = .ok (.iconst 1, 1) := by decide +kernel
theorem dX11_floorBy_154 : decode cX11_floorBy 154 = .ok (.isub, 1) := by decide +kernel
theorem dX11_floorBy_155 : decode cX11_floorBy 155 = .ok (.istore_n 3, 1) := by decide +kernel
theorem dX11_floorBy_156 : decode cX11_floorBy 156 = .ok (.iload_n 3, 1) := by decide +kernel
theorem dX11_floorBy_157 : decode cX11_floorBy 157 = .ok (.ifCond .lt 35, 3) := by decide +kernel
theorem dX11_floorBy_160 : decode cX11_floorBy 160 = .ok (.iload_n 1, 1) := by decide +kernel
theorem dX11_floorBy_161 : decode cX11_floorBy 161 = .ok (.iconst 2, 1) := by decide +kernel
theorem dX11_floorBy_162 : decode cX11_floorBy 162 = .ok (.if_icmp .ne 30, 3) := by decide +kernel
theorem dX11_floorBy_165 : decode cX11_floorBy 165 = .ok (.iload_n 2, 1) := by decide +kernel
theorem dX11_floorBy_166 : decode cX11_floorBy 166 = .ok (.bipush (-9), 2) := by decide +kernel
theorem dX11_floorBy_168 : decode cX11_floorBy 168 = .ok (.if_icmp .ne 24, 3) := by decide +kernel
theorem dX11_floorBy_171 : decode cX11_floorBy 171 = .ok (.aload_n 0, 1) := by decide +kernel
theorem dX11_floorBy_172 : decode cX11_floorBy 172 = .ok (.iload_n 3, 1) := by decide +kernel
theorem dX11_floorBy_173 : decode cX11_floorBy 173 = .ok (.invokevirtual 235, 3) := by decide +kernel
theorem dX11_floorBy_176 : decode cX11_floorBy 176 = .ok (.ifCond .le 7, 3) := by decide +kernel
theorem dX11_floorBy_179 : decode cX11_floorBy 179 = .ok (.iload_n 3, 1) := by decide +kernel
theorem dX11_floorBy_180 : decode cX11_floorBy 180 = .ok (.goto 5, 3) := by decide +kernel
theorem dX11_floorBy_183 : decode cX11_floorBy 183 = .ok (.bipush (-9), 2) := by decide +kernel
theorem dX11_floorBy_185 : decode cX11_floorBy 185 = .ok (.istore_n 2, 1) := by decide +kernel
theorem dX11_floorBy_186 : decode cX11_floorBy 186 = .ok (.iinc 3 (-1), 3) := by decide +kernel
theorem dX11_floorBy_189 : decode cX11_floorBy 189 = .ok (.goto (-33), 3) := by decide +kernel
theorem dX11_floorBy_192 : decode cX11_floorBy 192 = .ok (.iload_n 2, 1) := by decide +kernel
theorem dX11_floorBy_193 : decode cX11_floorBy 193 = .ok (.ireturn, 1) := by decide +kernel
theorem dX11_leastOf_0 : decode cX11_leastOf 0 = .ok (.iconst 0, 1) := by decide +kernel
theorem dX11_leastOf_1 : decode cX11_leastOf 1 = .ok (.istore_n 2, 1) := by decide +kernel
theorem dX11_leastOf_2 : decode cX11_leastOf 2 = .ok (.iconst 0, 1) := by decide +kernel
theorem dX11_leastOf_3 : decode cX11_leastOf 3 = .ok (.istore_n 3, 1) := by decide +kernel
theorem dX11_leastOf_4 : decode cX11_leastOf 4 = .ok (.iload_n 3, 1) := by decide +kernel
theorem dX11_leastOf_5 : decode cX11_leastOf 5 = .ok (.bipush 6, 2) := by decide +kernel
theorem dX11_leastOf_7 : decode cX11_leastOf 7 = .ok (.if_icmp .ge 25, 3) := by decide +kernel
theorem dX11_leastOf_10 : decode cX11_leastOf 10 = .ok (.iload_n 2, 1) := by decide +kernel
theorem dX11_leastOf_11 : decode cX11_leastOf 11 = .ok (.invokestatic 154, 3) := by decide +kernel
theorem dX11_leastOf_14 : decode cX11_leastOf 14 = .ok (.iload_n 1, 1) := by decide +kernel
theorem dX11_leastOf_15 : decode cX11_leastOf 15 = .ok (.if_icmp .ge 17, 3) := by decide +kernel
theorem dX11_leastOf_18 : decode cX11_leastOf 18 = .ok (.iload_n 2, 1) := by decide +kernel
theorem dX11_leastOf_19 : decode cX11_leastOf 19 = .ok (.iload_n 0, 1) := by decide +kernel
theorem dX11_leastOf_20 : decode cX11_leastOf 20 = .ok (.iconst 1, 1) := by decide +kernel
theorem dX11_leastOf_21 : decode cX11_leastOf 21 = .ok (.iload_n 3, 1) := by decide +kernel
theorem dX11_leastOf_22 : decode cX11_leastOf 22 = .ok (.ishl, 1) := by decide +kernel
theorem dX11_leastOf_23 : decode cX11_leastOf 23 = .ok (.iand, 1) := by decide +kernel
theorem dX11_leastOf_24 : decode cX11_leastOf 24 = .ok (.ior, 1) := by decide +kernel
theorem dX11_leastOf_25 : decode cX11_leastOf 25 = .ok (.istore_n 2, 1) := by decide +kernel
theorem dX11_leastOf_26 : decode cX11_leastOf 26 = .ok (.iinc 3 1, 3) := by decide +kernel
theorem dX11_leastOf_29 : decode cX11_leastOf 29 = .ok (.goto (-25), 3) := by decide +kernel
theorem dX11_leastOf_32 : decode cX11_leastOf 32 = .ok (.iload_n 2, 1) := by decide +kernel
theorem dX11_leastOf_33 : decode cX11_leastOf 33 = .ok (.ireturn, 1) := by decide +kernel
theorem dX11_call_0 : decode cX11_call 0 = .ok (.aload_n 0, 1) := by decide +kernel
theorem dX11_call_1 : decode cX11_call 1 = .ok (.iconst 0, 1) := by decide +kernel
theorem dX11_call_2 : decode cX11_call 2 = .ok (.putfield 76, 3) := by decide +kernel
theorem dX11_call_5 : decode cX11_call 5 = .ok (.iload_n 1, 1) := by decide +kernel
theorem dX11_call_6 : decode cX11_call 6 = .ok (.i2l, 1) := by decide +kernel
theorem dX11_call_7 : decode cX11_call 7 = .ok (.lconst 0, 1) := by decide +kernel
theorem dX11_call_8 : decode cX11_call 8 = .ok (.ldc2_w 172, 3) := by decide +kernel
theorem dX11_call_11 : decode cX11_call 11 = .ok (.invokestatic 79, 3) := by decide +kernel
theorem dX11_call_14 : decode cX11_call 14 = .ok (.ifCond .ne 5, 3) := by decide +kernel
theorem dX11_call_17 : decode cX11_call 17 = .ok (.iconst (-1), 1) := by decide +kernel
theorem dX11_call_18 : decode cX11_call 18 = .ok (.ireturn, 1) := by decide +kernel
theorem dX11_call_19 : decode cX11_call 19 = .ok (.aload_n 0, 1) := by decide +kernel
theorem dX11_call_20 : decode cX11_call 20 = .ok (.getfield 133, 3) := by decide +kernel
theorem dX11_call_23 : decode cX11_call 23 = .ok (.bipush 24, 2) := by decide +kernel
theorem dX11_call_25 : decode cX11_call 25 = .ok (.if_icmp .ne 6, 3) := by decide +kernel
theorem dX11_call_28 : decode cX11_call 28 = .ok (.bipush (-4), 2) := by decide +kernel
theorem dX11_call_30 : decode cX11_call 30 = .ok (.ireturn, 1) := by decide +kernel
theorem dX11_call_31 : decode cX11_call 31 = .ok (.aload_n 0, 1) := by decide +kernel
theorem dX11_call_32 : decode cX11_call 32 = .ok (.iload_n 1, 1) := by decide +kernel
theorem dX11_call_33 : decode cX11_call 33 = .ok (.invokevirtual 241, 3) := by decide +kernel
theorem dX11_call_36 : decode cX11_call 36 = .ok (.istore_n 2, 1) := by decide +kernel
theorem dX11_call_37 : decode cX11_call 37 = .ok (.iload_n 2, 1) := by decide +kernel
theorem dX11_call_38 : decode cX11_call 38 = .ok (.bipush (-9), 2) := by decide +kernel
theorem dX11_call_40 : decode cX11_call 40 = .ok (.if_icmp .eq 42, 3) := by decide +kernel
theorem dX11_call_43 : decode cX11_call 43 = .ok (.aload_n 0, 1) := by decide +kernel
theorem dX11_call_44 : decode cX11_call 44 = .ok (.iload_n 2, 1) := by decide +kernel
theorem dX11_call_45 : decode cX11_call 45 = .ok (.invokevirtual 235, 3) := by decide +kernel
theorem dX11_call_48 : decode cX11_call 48 = .ok (.istore_n 3, 1) := by decide +kernel
theorem dX11_call_49 : decode cX11_call 49 = .ok (.aload_n 0, 1) := by decide +kernel
theorem dX11_call_50 : decode cX11_call 50 = .ok (.iload_n 2, 1) := by decide +kernel
theorem dX11_call_51 : decode cX11_call 51 = .ok (.aload_n 0, 1) := by decide +kernel
theorem dX11_call_52 : decode cX11_call 52 = .ok (.aload_n 0, 1) := by decide +kernel
theorem dX11_call_53 : decode cX11_call 53 = .ok (.getfield 17, 3) := by decide +kernel
theorem dX11_call_56 : decode cX11_call 56 = .ok (.iload_n 2, 1) := by decide +kernel
theorem dX11_call_57 : decode cX11_call 57 = .ok (.iconst 1, 1) := by decide +kernel
theorem dX11_call_58 : decode cX11_call 58 = .ok (.invokevirtual 150, 3) := by decide +kernel
theorem dX11_call_61 : decode cX11_call 61 = .ok (.iload_n 3, 1) := by decide +kernel
theorem dX11_call_62 : decode cX11_call 62 = .ok (.invokestatic 244, 3) := by decide +kernel
theorem dX11_call_65 : decode cX11_call 65 = .ok (.aload_n 0, 1) := by decide +kernel
theorem dX11_call_66 : decode cX11_call 66 = .ok (.aload_n 0, 1) := by decide +kernel
theorem dX11_call_67 : decode cX11_call 67 = .ok (.getfield 17, 3) := by decide +kernel
theorem dX11_call_70 : decode cX11_call 70 = .ok (.iload_n 2, 1) := by decide +kernel
theorem dX11_call_71 : decode cX11_call 71 = .ok (.iconst 0, 1) := by decide +kernel
theorem dX11_call_72 : decode cX11_call 72 = .ok (.invokevirtual 150, 3) := by decide +kernel
theorem dX11_call_75 : decode cX11_call 75 = .ok (.iload_n 3, 1) := by decide +kernel
theorem dX11_call_76 : decode cX11_call 76 = .ok (.invokestatic 244, 3) := by decide +kernel
theorem dX11_call_79 : decode cX11_call 79 = .ok (.invokevirtual 168, 3) := by decide +kernel
theorem dX11_call_82 : decode cX11_call 82 = .ok (.iload_n 2, 1) := by decide +kernel
theorem dX11_call_83 : decode cX11_call 83 = .ok (.ireturn, 1) := by decide +kernel
theorem dX11_see_0 : decode cX11_see 0 = .ok (.aload_n 0, 1) := by decide +kernel
theorem dX11_see_1 : decode cX11_see 1 = .ok (.iconst 0, 1) := by decide +kernel
theorem dX11_see_2 : decode cX11_see 2 = .ok (.putfield 76, 3) := by decide +kernel
theorem dX11_see_5 : decode cX11_see 5 = .ok (.aload_n 0, 1) := by decide +kernel
theorem dX11_see_6 : decode cX11_see 6 = .ok (.iload_n 1, 1) := by decide +kernel
theorem dX11_see_7 : decode cX11_see 7 = .ok (.invokevirtual 147, 3) := by decide +kernel
theorem dX11_see_10 : decode cX11_see 10 = .ok (.ifCond .eq 5, 3) := by decide +kernel
theorem dX11_see_13 : decode cX11_see 13 = .ok (.iconst (-1), 1) := by decide +kernel
theorem dX11_see_14 : decode cX11_see 14 = .ok (.ireturn, 1) := by decide +kernel
theorem dX11_see_15 : decode cX11_see 15 = .ok (.iload_n 2, 1) := by decide +kernel
theorem dX11_see_16 : decode cX11_see 16 = .ok (.i2l, 1) := by decide +kernel
theorem dX11_see_17 : decode cX11_see 17 = .ok (.lconst 1, 1) := by decide +kernel
theorem dX11_see_18 : decode cX11_see 18 = .ok (.ldc2_w 247, 3) := by decide +kernel
theorem dX11_see_21 : decode cX11_see 21 = .ok (.invokestatic 79, 3) := by decide +kernel
theorem dX11_see_24 : decode cX11_see 24 = .ok (.ifCond .ne 6, 3) := by decide +kernel
theorem dX11_see_27 : decode cX11_see 27 = .ok (.bipush (-2), 2) := by decide +kernel
theorem dX11_see_29 : decode cX11_see 29 = .ok (.ireturn, 1) := by decide +kernel
theorem dX11_see_30 : decode cX11_see 30 = .ok (.aload_n 0, 1) := by decide +kernel
theorem dX11_see_31 : decode cX11_see 31 = .ok (.getfield 136, 3) := by decide +kernel
theorem dX11_see_34 : decode cX11_see 34 = .ok (.bipush 8, 2) := by decide +kernel
theorem dX11_see_36 : decode cX11_see 36 = .ok (.if_icmp .ne 6, 3) := by decide +kernel
theorem dX11_see_39 : decode cX11_see 39 = .ok (.bipush (-4), 2) := by decide +kernel
theorem dX11_see_41 : decode cX11_see 41 = .ok (.ireturn, 1) := by decide +kernel
theorem dX11_see_42 : decode cX11_see 42 = .ok (.aload_n 0, 1) := by decide +kernel
theorem dX11_see_43 : decode cX11_see 43 = .ok (.getfield 38, 3) := by decide +kernel
theorem dX11_see_46 : decode cX11_see 46 = .ok (.aload_n 0, 1) := by decide +kernel
theorem dX11_see_47 : decode cX11_see 47 = .ok (.getfield 136, 3) := by decide +kernel
theorem dX11_see_50 : decode cX11_see 50 = .ok (.iload_n 1, 1) := by decide +kernel
theorem dX11_see_51 : decode cX11_see 51 = .ok (.iastore, 1) := by decide +kernel
theorem dX11_see_52 : decode cX11_see 52 = .ok (.aload_n 0, 1) := by decide +kernel
theorem dX11_see_53 : decode cX11_see 53 = .ok (.getfield 41, 3) := by decide +kernel
theorem dX11_see_56 : decode cX11_see 56 = .ok (.aload_n 0, 1) := by decide +kernel
theorem dX11_see_57 : decode cX11_see 57 = .ok (.getfield 136, 3) := by decide +kernel
theorem dX11_see_60 : decode cX11_see 60 = .ok (.iload_n 2, 1) := by decide +kernel
theorem dX11_see_61 : decode cX11_see 61 = .ok (.iastore, 1) := by decide +kernel
theorem dX11_see_62 : decode cX11_see 62 = .ok (.aload_n 0, 1) := by decide +kernel
theorem dX11_see_63 : decode cX11_see 63 = .ok (.dup, 1) := by decide +kernel
theorem dX11_see_64 : decode cX11_see 64 = .ok (.getfield 136, 3) := by decide +kernel
theorem dX11_see_67 : decode cX11_see 67 = .ok (.iconst 1, 1) := by decide +kernel
theorem dX11_see_68 : decode cX11_see 68 = .ok (.iadd, 1) := by decide +kernel
theorem dX11_see_69 : decode cX11_see 69 = .ok (.putfield 136, 3) := by decide +kernel
theorem dX11_see_72 : decode cX11_see 72 = .ok (.aload_n 0, 1) := by decide +kernel
theorem dX11_see_73 : decode cX11_see 73 = .ok (.getfield 136, 3) := by decide +kernel
theorem dX11_see_76 : decode cX11_see 76 = .ok (.ireturn, 1) := by decide +kernel
theorem dX11_unsee_0 : decode cX11_unsee 0 = .ok (.aload_n 0, 1) := by decide +kernel
theorem dX11_unsee_1 : decode cX11_unsee 1 = .ok (.iconst 0, 1) := by decide +kernel
theorem dX11_unsee_2 : decode cX11_unsee 2 = .ok (.putfield 76, 3) := by decide +kernel
theorem dX11_unsee_5 : decode cX11_unsee 5 = .ok (.aload_n 0, 1) := by decide +kernel
theorem dX11_unsee_6 : decode cX11_unsee 6 = .ok (.getfield 136, 3) := by decide +kernel
theorem dX11_unsee_9 : decode cX11_unsee 9 = .ok (.istore_n 1, 1) := by decide +kernel
theorem dX11_unsee_10 : decode cX11_unsee 10 = .ok (.aload_n 0, 1) := by decide +kernel
theorem dX11_unsee_11 : decode cX11_unsee 11 = .ok (.iconst 0, 1) := by decide +kernel
theorem dX11_unsee_12 : decode cX11_unsee 12 = .ok (.putfield 136, 3) := by decide +kernel
theorem dX11_unsee_15 : decode cX11_unsee 15 = .ok (.iload_n 1, 1) := by decide +kernel
theorem dX11_unsee_16 : decode cX11_unsee 16 = .ok (.ireturn, 1) := by decide +kernel
theorem dX11_addBehind_0 : decode cX11_addBehind 0 = .ok (.aload_n 0, 1) := by decide +kernel
theorem dX11_addBehind_1 : decode cX11_addBehind 1 = .ok (.aload_n 0, 1) := by decide +kernel
theorem dX11_addBehind_2 : decode cX11_addBehind 2 = .ok (.getfield 54, 3) := by decide +kernel
theorem dX11_addBehind_5 : decode cX11_addBehind 5 = .ok (.iload_n 1, 1) := by decide +kernel
theorem dX11_addBehind_6 : decode cX11_addBehind 6 = .ok (.iconst 1, 1) := by decide +kernel
theorem dX11_addBehind_7 : decode cX11_addBehind 7 = .ok (.invokevirtual 150, 3) := by decide +kernel
theorem dX11_addBehind_10 : decode cX11_addBehind 10 = .ok (.istore 5, 2) := by decide +kernel
theorem dX11_addBehind_12 : decode cX11_addBehind 12 = .ok (.aload_n 0, 1) := by decide +kernel
theorem dX11_addBehind_13 : decode cX11_addBehind 13 = .ok (.aload_n 0, 1) := by decide +kernel
theorem dX11_addBehind_14 : decode cX11_addBehind 14 = .ok (.getfield 54, 3) := by decide +kernel
theorem dX11_addBehind_17 : decode cX11_addBehind 17 = .ok (.iload_n 1, 1) := by decide +kernel
theorem dX11_addBehind_18 : decode cX11_addBehind 18 = .ok (.iconst 0, 1) := by decide +kernel
theorem dX11_addBehind_19 : decode cX11_addBehind 19 = .ok (.invokevirtual 150, 3) := by decide +kernel
theorem dX11_addBehind_22 : decode cX11_addBehind 22 = .ok (.istore 6, 2) := by decide +kernel
theorem dX11_addBehind_24 : decode cX11_addBehind 24 = .ok (.iconst 0, 1) := by decide +kernel
theorem dX11_addBehind_25 : decode cX11_addBehind 25 = .ok (.iload 5, 2) := by decide +kernel
theorem dX11_addBehind_27 : decode cX11_addBehind 27 = .ok (.invokestatic 191, 3) := by decide +kernel
theorem dX11_addBehind_30 : decode cX11_addBehind 30 = .ok (.istore 7, 2) := by decide +kernel
theorem dX11_addBehind_32 : decode cX11_addBehind 32 = .ok (.iload 7, 2) := by decide +kernel
theorem dX11_addBehind_34 : decode cX11_addBehind 34 = .ok (.ifCond .eq 76, 3) := by decide +kernel
theorem dX11_addBehind_37 : decode cX11_addBehind 37 = .ok (.iconst 0, 1) := by decide +kernel
theorem dX11_addBehind_38 : decode cX11_addBehind 38 = .ok (.iload 6, 2) := by decide +kernel
theorem dX11_addBehind_40 : decode cX11_addBehind 40 = .ok (.invokestatic 191, 3) := by decide +kernel
theorem dX11_addBehind_43 : decode cX11_addBehind 43 = .ok (.istore 8, 2) := by decide +kernel
theorem dX11_addBehind_45 : decode cX11_addBehind 45 = .ok (.iload 8, 2) := by decide +kernel
theorem dX11_addBehind_47 : decode cX11_addBehind 47 = .ok (.ifCond .eq 51, 3) := by decide +kernel
theorem dX11_addBehind_50 : decode cX11_addBehind 50 = .ok (.iload 7, 2) := by decide +kernel
theorem dX11_addBehind_52 : decode cX11_addBehind 52 = .ok (.invokestatic 154, 3) := by decide +kernel
theorem dX11_addBehind_55 : decode cX11_addBehind 55 = .ok (.iload_n 2, 1) := by decide +kernel
theorem dX11_addBehind_56 : decode cX11_addBehind 56 = .ok (.if_icmp .ne 42, 3) := by decide +kernel
theorem dX11_addBehind_59 : decode cX11_addBehind 59 = .ok (.iload 8, 2) := by decide +kernel
theorem dX11_addBehind_61 : decode cX11_addBehind 61 = .ok (.invokestatic 154, 3) := by decide +kernel
theorem dX11_addBehind_64 : decode cX11_addBehind 64 = .ok (.iload_n 2, 1) := by decide +kernel
theorem dX11_addBehind_65 : decode cX11_addBehind 65 = .ok (.if_icmp .ne 21, 3) := by decide +kernel
theorem dX11_addBehind_68 : decode cX11_addBehind 68 = .ok (.aload_n 0, 1) := by decide +kernel
theorem dX11_addBehind_69 : decode cX11_addBehind 69 = .ok (.getfield 70, 3) := by decide +kernel
theorem dX11_addBehind_72 : decode cX11_addBehind 72 = .ok (.aload_n 0, 1) := by decide +kernel
theorem dX11_addBehind_73 : decode cX11_addBehind 73 = .ok (.iload_n 1, 1) := by decide +kernel
theorem dX11_addBehind_74 : decode cX11_addBehind 74 = .ok (.iload 7, 2) := by decide +kernel
theorem dX11_addBehind_76 : decode cX11_addBehind 76 = .ok (.iload 8, 2) := by decide +kernel
theorem dX11_addBehind_78 : decode cX11_addBehind 78 = .ok (.invokevirtual 194, 3) := by decide +kernel
theorem dX11_addBehind_81 : decode cX11_addBehind 81 = .ok (.dup2, 1) := by decide +kernel
theorem dX11_addBehind_82 : decode cX11_addBehind 82 = .ok (.laload, 1) := by decide +kernel
theorem dX11_addBehind_83 : decode cX11_addBehind 83 = .ok (.lload_n 3, 1) := by decide +kernel
theorem dX11_addBehind_84 : decode cX11_addBehind 84 = .ok (.ladd, 1) := by decide +kernel
theorem dX11_addBehind_85 : decode cX11_addBehind 85 = .ok (.lastore, 1) := by decide +kernel
theorem dX11_addBehind_86 : decode cX11_addBehind 86 = .ok (.iload 8, 2) := by decide +kernel
theorem dX11_addBehind_88 : decode cX11_addBehind 88 = .ok (.iload 6, 2) := by decide +kernel
theorem dX11_addBehind_90 : decode cX11_addBehind 90 = .ok (.invokestatic 191, 3) := by decide +kernel
theorem dX11_addBehind_93 : decode cX11_addBehind 93 = .ok (.istore 8, 2) := by decide +kernel
theorem dX11_addBehind_95 : decode cX11_addBehind 95 = .ok (.goto (-50), 3) := by decide +kernel
theorem dX11_addBehind_98 : decode cX11_addBehind 98 = .ok (.iload 7, 2) := by decide +kernel
theorem dX11_addBehind_100 : decode cX11_addBehind 100 = .ok (.iload 5, 2) := by decide +kernel
theorem dX11_addBehind_102 : decode cX11_addBehind 102 = .ok (.invokestatic 191, 3) := by decide +kernel
theorem dX11_addBehind_105 : decode cX11_addBehind 105 = .ok (.istore 7, 2) := by decide +kernel
theorem dX11_addBehind_107 : decode cX11_addBehind 107 = .ok (.goto (-75), 3) := by decide +kernel
theorem dX11_addBehind_110 : decode cX11_addBehind 110 = .ok (.return_, 1) := by decide +kernel
theorem dX11_layWays_0 : decode cX11_layWays 0 = .ok (.iconst 0, 1) := by decide +kernel
theorem dX11_layWays_1 : decode cX11_layWays 1 = .ok (.istore_n 1, 1) := by decide +kernel
theorem dX11_layWays_2 : decode cX11_layWays 2 = .ok (.iload_n 1, 1) := by decide +kernel
theorem dX11_layWays_3 : decode cX11_layWays 3 = .ok (.sipush 3969, 3) := by decide +kernel
theorem dX11_layWays_6 : decode cX11_layWays 6 = .ok (.if_icmp .ge 16, 3) := by decide +kernel
theorem dX11_layWays_9 : decode cX11_layWays 9 = .ok (.aload_n 0, 1) := by decide +kernel
theorem dX11_layWays_10 : decode cX11_layWays 10 = .ok (.getfield 66, 3) := by decide +kernel
theorem dX11_layWays_13 : decode cX11_layWays 13 = .ok (.iload_n 1, 1) := by decide +kernel
theorem dX11_layWays_14 : decode cX11_layWays 14 = .ok (.lconst 0, 1) := by decide +kernel
theorem dX11_layWays_15 : decode cX11_layWays 15 = .ok (.lastore, 1) := by decide +kernel
theorem dX11_layWays_16 : decode cX11_layWays 16 = .ok (.iinc 1 1, 3) := by decide +kernel
theorem dX11_layWays_19 : decode cX11_layWays 19 = .ok (.goto (-17), 3) := by decide +kernel
theorem dX11_layWays_22 : decode cX11_layWays 22 = .ok (.aload_n 0, 1) := by decide +kernel
theorem dX11_layWays_23 : decode cX11_layWays 23 = .ok (.getfield 66, 3) := by decide +kernel
theorem dX11_layWays_26 : decode cX11_layWays 26 = .ok (.aload_n 0, 1) := by decide +kernel
theorem dX11_layWays_27 : decode cX11_layWays 27 = .ok (.getfield 17, 3) := by decide +kernel
theorem dX11_layWays_30 : decode cX11_layWays 30 = .ok (.invokestatic 177, 3) := by decide +kernel
theorem dX11_layWays_33 : decode cX11_layWays 33 = .ok (.lconst 1, 1) := by decide +kernel
theorem dX11_layWays_34 : decode cX11_layWays 34 = .ok (.lastore, 1) := by decide +kernel
theorem dX11_layWays_35 : decode cX11_layWays 35 = .ok (.iconst 0, 1) := by decide +kernel
theorem dX11_layWays_36 : decode cX11_layWays 36 = .ok (.istore_n 1, 1) := by decide +kernel
theorem dX11_layWays_37 : decode cX11_layWays 37 = .ok (.iload_n 1, 1) := by decide +kernel
theorem dX11_layWays_38 : decode cX11_layWays 38 = .ok (.aload_n 0, 1) := by decide +kernel
theorem dX11_layWays_39 : decode cX11_layWays 39 = .ok (.getfield 136, 3) := by decide +kernel
theorem dX11_layWays_42 : decode cX11_layWays 42 = .ok (.if_icmp .ge 111, 3) := by decide +kernel
theorem dX11_layWays_45 : decode cX11_layWays 45 = .ok (.iconst 0, 1) := by decide +kernel
theorem dX11_layWays_46 : decode cX11_layWays 46 = .ok (.istore_n 2, 1) := by decide +kernel
theorem dX11_layWays_47 : decode cX11_layWays 47 = .ok (.iload_n 2, 1) := by decide +kernel
theorem dX11_layWays_48 : decode cX11_layWays 48 = .ok (.sipush 3969, 3) := by decide +kernel
theorem dX11_layWays_51 : decode cX11_layWays 51 = .ok (.if_icmp .ge 16, 3) := by decide +kernel
theorem dX11_layWays_54 : decode cX11_layWays 54 = .ok (.aload_n 0, 1) := by decide +kernel
theorem dX11_layWays_55 : decode cX11_layWays 55 = .ok (.getfield 70, 3) := by decide +kernel
theorem dX11_layWays_58 : decode cX11_layWays 58 = .ok (.iload_n 2, 1) := by decide +kernel
theorem dX11_layWays_59 : decode cX11_layWays 59 = .ok (.lconst 0, 1) := by decide +kernel
theorem dX11_layWays_60 : decode cX11_layWays 60 = .ok (.lastore, 1) := by decide +kernel
theorem dX11_layWays_61 : decode cX11_layWays 61 = .ok (.iinc 2 1, 3) := by decide +kernel
theorem dX11_layWays_64 : decode cX11_layWays 64 = .ok (.goto (-17), 3) := by decide +kernel
theorem dX11_layWays_67 : decode cX11_layWays 67 = .ok (.iconst 0, 1) := by decide +kernel
theorem dX11_layWays_68 : decode cX11_layWays 68 = .ok (.istore_n 2, 1) := by decide +kernel
theorem dX11_layWays_69 : decode cX11_layWays 69 = .ok (.iload_n 2, 1) := by decide +kernel
theorem dX11_layWays_70 : decode cX11_layWays 70 = .ok (.sipush 3969, 3) := by decide +kernel
theorem dX11_layWays_73 : decode cX11_layWays 73 = .ok (.if_icmp .ge 47, 3) := by decide +kernel
theorem dX11_layWays_76 : decode cX11_layWays 76 = .ok (.aload_n 0, 1) := by decide +kernel
theorem dX11_layWays_77 : decode cX11_layWays 77 = .ok (.getfield 66, 3) := by decide +kernel
theorem dX11_layWays_80 : decode cX11_layWays 80 = .ok (.iload_n 2, 1) := by decide +kernel
theorem dX11_layWays_81 : decode cX11_layWays 81 = .ok (.laload, 1) := by decide +kernel
theorem dX11_layWays_82 : decode cX11_layWays 82 = .ok (.lconst 0, 1) := by decide +kernel
theorem dX11_layWays_83 : decode cX11_layWays 83 = .ok (.lcmp, 1) := by decide +kernel
theorem dX11_layWays_84 : decode cX11_layWays 84 = .ok (.ifCond .le 30, 3) := by decide +kernel
theorem dX11_layWays_87 : decode cX11_layWays 87 = .ok (.aload_n 0, 1) := by decide +kernel
theorem dX11_layWays_88 : decode cX11_layWays 88 = .ok (.iload_n 2, 1) := by decide +kernel
theorem dX11_layWays_89 : decode cX11_layWays 89 = .ok (.invokevirtual 185, 3) := by decide +kernel
theorem dX11_layWays_92 : decode cX11_layWays 92 = .ok (.aload_n 0, 1) := by decide +kernel
theorem dX11_layWays_93 : decode cX11_layWays 93 = .ok (.aload_n 0, 1) := by decide +kernel
theorem dX11_layWays_94 : decode cX11_layWays 94 = .ok (.getfield 38, 3) := by decide +kernel
theorem dX11_layWays_97 : decode cX11_layWays 97 = .ok (.iload_n 1, 1) := by decide +kernel
theorem dX11_layWays_98 : decode cX11_layWays 98 = .ok (.iaload, 1) := by decide +kernel
theorem dX11_layWays_99 : decode cX11_layWays 99 = .ok (.aload_n 0, 1) := by decide +kernel
theorem dX11_layWays_100 : decode cX11_layWays 100 = .ok (.getfield 41, 3) := by decide +kernel
theorem dX11_layWays_103 : decode cX11_layWays 103 = .ok (.iload_n 1, 1) := by decide +kernel
theorem dX11_layWays_104 : decode cX11_layWays 104 = .ok (.iaload, 1) := by decide +kernel
theorem dX11_layWays_105 : decode cX11_layWays 105 = .ok (.aload_n 0, 1) := by decide +kernel
theorem dX11_layWays_106 : decode cX11_layWays 106 = .ok (.getfield 66, 3) := by decide +kernel
theorem dX11_layWays_109 : decode cX11_layWays 109 = .ok (.iload_n 2, 1) := by decide +kernel
theorem dX11_layWays_110 : decode cX11_layWays 110 = .ok (.laload, 1) := by decide +kernel
theorem dX11_layWays_111 : decode cX11_layWays 111 = .ok (.invokevirtual 249, 3) := by decide +kernel
theorem dX11_layWays_114 : decode cX11_layWays 114 = .ok (.iinc 2 1, 3) := by decide +kernel
theorem dX11_layWays_117 : decode cX11_layWays 117 = .ok (.goto (-48), 3) := by decide +kernel
theorem dX11_layWays_120 : decode cX11_layWays 120 = .ok (.iconst 0, 1) := by decide +kernel
theorem dX11_layWays_121 : decode cX11_layWays 121 = .ok (.istore_n 2, 1) := by decide +kernel
theorem dX11_layWays_122 : decode cX11_layWays 122 = .ok (.iload_n 2, 1) := by decide +kernel
theorem dX11_layWays_123 : decode cX11_layWays 123 = .ok (.sipush 3969, 3) := by decide +kernel
theorem dX11_layWays_126 : decode cX11_layWays 126 = .ok (.if_icmp .ge 21, 3) := by decide +kernel
theorem dX11_layWays_129 : decode cX11_layWays 129 = .ok (.aload_n 0, 1) := by decide +kernel
theorem dX11_layWays_130 : decode cX11_layWays 130 = .ok (.getfield 66, 3) := by decide +kernel
theorem dX11_layWays_133 : decode cX11_layWays 133 = .ok (.iload_n 2, 1) := by decide +kernel
theorem dX11_layWays_134 : decode cX11_layWays 134 = .ok (.aload_n 0, 1) := by decide +kernel
theorem dX11_layWays_135 : decode cX11_layWays 135 = .ok (.getfield 70, 3) := by decide +kernel
theorem dX11_layWays_138 : decode cX11_layWays 138 = .ok (.iload_n 2, 1) := by decide +kernel
theorem dX11_layWays_139 : decode cX11_layWays 139 = .ok (.laload, 1) := by decide +kernel
theorem dX11_layWays_140 : decode cX11_layWays 140 = .ok (.lastore, 1) := by decide +kernel
theorem dX11_layWays_141 : decode cX11_layWays 141 = .ok (.iinc 2 1, 3) := by decide +kernel
theorem dX11_layWays_144 : decode cX11_layWays 144 = .ok (.goto (-22), 3) := by decide +kernel
theorem dX11_layWays_147 : decode cX11_layWays 147 = .ok (.iinc 1 1, 3) := by decide +kernel
theorem dX11_layWays_150 : decode cX11_layWays 150 = .ok (.goto (-113), 3) := by decide +kernel
theorem dX11_layWays_153 : decode cX11_layWays 153 = .ok (.return_, 1) := by decide +kernel
theorem dX11_ways_0 : decode cX11_ways 0 = .ok (.aload_n 0, 1) := by decide +kernel
theorem dX11_ways_1 : decode cX11_ways 1 = .ok (.iconst 0, 1) := by decide +kernel
theorem dX11_ways_2 : decode cX11_ways 2 = .ok (.putfield 76, 3) := by decide +kernel
theorem dX11_ways_5 : decode cX11_ways 5 = .ok (.aload_n 0, 1) := by decide +kernel
theorem dX11_ways_6 : decode cX11_ways 6 = .ok (.invokevirtual 253, 3) := by decide +kernel
theorem dX11_ways_9 : decode cX11_ways 9 = .ok (.lconst 0, 1) := by decide +kernel
theorem dX11_ways_10 : decode cX11_ways 10 = .ok (.lstore_n 1, 1) := by decide +kernel
theorem dX11_ways_11 : decode cX11_ways 11 = .ok (.iconst 0, 1) := by decide +kernel
theorem dX11_ways_12 : decode cX11_ways 12 = .ok (.istore_n 3, 1) := by decide +kernel
theorem dX11_ways_13 : decode cX11_ways 13 = .ok (.iload_n 3, 1) := by decide +kernel
theorem dX11_ways_14 : decode cX11_ways 14 = .ok (.sipush 3969, 3) := by decide +kernel
theorem dX11_ways_17 : decode cX11_ways 17 = .ok (.if_icmp .ge 18, 3) := by decide +kernel
theorem dX11_ways_20 : decode cX11_ways 20 = .ok (.lload_n 1, 1) := by decide +kernel
theorem dX11_ways_21 : decode cX11_ways 21 = .ok (.aload_n 0, 1) := by decide +kernel
theorem dX11_ways_22 : decode cX11_ways 22 = .ok (.getfield 66, 3) := by decide +kernel
theorem dX11_ways_25 : decode cX11_ways 25 = .ok (.iload_n 3, 1) := by decide +kernel
theorem dX11_ways_26 : decode cX11_ways 26 = .ok (.laload, 1) := by decide +kernel
theorem dX11_ways_27 : decode cX11_ways 27 = .ok (.ladd, 1) := by decide +kernel
theorem dX11_ways_28 : decode cX11_ways 28 = .ok (.lstore_n 1, 1) := by decide +kernel
theorem dX11_ways_29 : decode cX11_ways 29 = .ok (.iinc 3 1, 3) := by decide +kernel
theorem dX11_ways_32 : decode cX11_ways 32 = .ok (.goto (-19), 3) := by decide +kernel
theorem dX11_ways_35 : decode cX11_ways 35 = .ok (.lload_n 1, 1) := by decide +kernel
theorem dX11_ways_36 : decode cX11_ways 36 = .ok (.lreturn, 1) := by decide +kernel
theorem dX11_byThen_0 : decode cX11_byThen 0 = .ok (.aload_n 0, 1) := by decide +kernel
theorem dX11_byThen_1 : decode cX11_byThen 1 = .ok (.iconst 0, 1) := by decide +kernel
theorem dX11_byThen_2 : decode cX11_byThen 2 = .ok (.putfield 76, 3) := by decide +kernel
theorem dX11_byThen_5 : decode cX11_byThen 5 = .ok (.aload_n 0, 1) := by decide +kernel
theorem dX11_byThen_6 : decode cX11_byThen 6 = .ok (.iload_n 1, 1) := by decide +kernel
theorem dX11_byThen_7 : decode cX11_byThen 7 = .ok (.invokevirtual 143, 3) := by decide +kernel
theorem dX11_byThen_10 : decode cX11_byThen 10 = .ok (.ifCond .eq 7, 3) := by decide +kernel
theorem dX11_byThen_13 : decode cX11_byThen 13 = .ok (.ldc2_w 256, 3) := by decide +kernel
theorem dX11_byThen_16 : decode cX11_byThen 16 = .ok (.lreturn, 1) := by decide +kernel
theorem dX11_byThen_17 : decode cX11_byThen 17 = .ok (.aload_n 0, 1) := by decide +kernel
theorem dX11_byThen_18 : decode cX11_byThen 18 = .ok (.invokevirtual 253, 3) := by decide +kernel
theorem dX11_byThen_21 : decode cX11_byThen 21 = .ok (.lconst 0, 1) := by decide +kernel
theorem dX11_byThen_22 : decode cX11_byThen 22 = .ok (.lstore_n 2, 1) := by decide +kernel
theorem dX11_byThen_23 : decode cX11_byThen 23 = .ok (.iconst 0, 1) := by decide +kernel
theorem dX11_byThen_24 : decode cX11_byThen 24 = .ok (.istore 4, 2) := by decide +kernel
theorem dX11_byThen_26 : decode cX11_byThen 26 = .ok (.iload 4, 2) := by decide +kernel
theorem dX11_byThen_28 : decode cX11_byThen 28 = .ok (.sipush 3969, 3) := by decide +kernel
theorem dX11_byThen_31 : decode cX11_byThen 31 = .ok (.if_icmp .ge 62, 3) := by decide +kernel
theorem dX11_byThen_34 : decode cX11_byThen 34 = .ok (.aload_n 0, 1) := by decide +kernel
theorem dX11_byThen_35 : decode cX11_byThen 35 = .ok (.getfield 66, 3) := by decide +kernel
theorem dX11_byThen_38 : decode cX11_byThen 38 = .ok (.iload 4, 2) := by decide +kernel
theorem dX11_byThen_40 : decode cX11_byThen 40 = .ok (.laload, 1) := by decide +kernel
theorem dX11_byThen_41 : decode cX11_byThen 41 = .ok (.lconst 0, 1) := by decide +kernel
theorem dX11_byThen_42 : decode cX11_byThen 42 = .ok (.lcmp, 1) := by decide +kernel
theorem dX11_byThen_43 : decode cX11_byThen 43 = .ok (.ifCond .le 44, 3) := by decide +kernel
theorem dX11_byThen_46 : decode cX11_byThen 46 = .ok (.aload_n 0, 1) := by decide +kernel
theorem dX11_byThen_47 : decode cX11_byThen 47 = .ok (.iload 4, 2) := by decide +kernel
theorem dX11_byThen_49 : decode cX11_byThen 49 = .ok (.invokevirtual 185, 3) := by decide +kernel
theorem dX11_byThen_52 : decode cX11_byThen 52 = .ok (.lload_n 2, 1) := by decide +kernel
theorem dX11_byThen_53 : decode cX11_byThen 53 = .ok (.aload_n 0, 1) := by decide +kernel
theorem dX11_byThen_54 : decode cX11_byThen 54 = .ok (.getfield 54, 3) := by decide +kernel
theorem dX11_byThen_57 : decode cX11_byThen 57 = .ok (.iload_n 1, 1) := by decide +kernel
theorem dX11_byThen_58 : decode cX11_byThen 58 = .ok (.iaload, 1) := by decide +kernel
theorem dX11_byThen_59 : decode cX11_byThen 59 = .ok (.iload_n 1, 1) := by decide +kernel
theorem dX11_byThen_60 : decode cX11_byThen 60 = .ok (.iconst 4, 1) := by decide +kernel
theorem dX11_byThen_61 : decode cX11_byThen 61 = .ok (.if_icmp .ge 8, 3) := by decide +kernel
theorem dX11_byThen_64 : decode cX11_byThen 64 = .ok (.bipush 7, 2) := by decide +kernel
theorem dX11_byThen_66 : decode cX11_byThen 66 = .ok (.goto 5, 3) := by decide +kernel
theorem dX11_byThen_69 : decode cX11_byThen 69 = .ok (.bipush 6, 2) := by decide +kernel
theorem dX11_byThen_71 : decode cX11_byThen 71 = .ok (.if_icmp .ne 13, 3) := by decide +kernel
theorem dX11_byThen_74 : decode cX11_byThen 74 = .ok (.aload_n 0, 1) := by decide +kernel
theorem dX11_byThen_75 : decode cX11_byThen 75 = .ok (.getfield 66, 3) := by decide +kernel
theorem dX11_byThen_78 : decode cX11_byThen 78 = .ok (.iload 4, 2) := by decide +kernel
theorem dX11_byThen_80 : decode cX11_byThen 80 = .ok (.laload, 1) := by decide +kernel
theorem dX11_byThen_81 : decode cX11_byThen 81 = .ok (.goto 4, 3) := by decide +kernel
theorem dX11_byThen_84 : decode cX11_byThen 84 = .ok (.lconst 0, 1) := by decide +kernel
theorem dX11_byThen_85 : decode cX11_byThen 85 = .ok (.ladd, 1) := by decide +kernel
theorem dX11_byThen_86 : decode cX11_byThen 86 = .ok (.lstore_n 2, 1) := by decide +kernel
theorem dX11_byThen_87 : decode cX11_byThen 87 = .ok (.iinc 4 1, 3) := by decide +kernel
theorem dX11_byThen_90 : decode cX11_byThen 90 = .ok (.goto (-64), 3) := by decide +kernel
theorem dX11_byThen_93 : decode cX11_byThen 93 = .ok (.lload_n 2, 1) := by decide +kernel
theorem dX11_byThen_94 : decode cX11_byThen 94 = .ok (.lreturn, 1) := by decide +kernel
theorem dX11_likely_0 : decode cX11_likely 0 = .ok (.aload_n 0, 1) := by decide +kernel
theorem dX11_likely_1 : decode cX11_likely 1 = .ok (.iconst 0, 1) := by decide +kernel
theorem dX11_likely_2 : decode cX11_likely 2 = .ok (.putfield 76, 3) := by decide +kernel
theorem dX11_likely_5 : decode cX11_likely 5 = .ok (.aload_n 0, 1) := by decide +kernel
theorem dX11_likely_6 : decode cX11_likely 6 = .ok (.iload_n 1, 1) := by decide +kernel
theorem dX11_likely_7 : decode cX11_likely 7 = .ok (.invokevirtual 143, 3) := by decide +kernel
theorem dX11_likely_10 : decode cX11_likely 10 = .ok (.ifCond .eq 5, 3) := by decide +kernel
theorem dX11_likely_13 : decode cX11_likely 13 = .ok (.iconst (-1), 1) := by decide +kernel
theorem dX11_likely_14 : decode cX11_likely 14 = .ok (.ireturn, 1) := by decide +kernel
theorem dX11_likely_15 : decode cX11_likely 15 = .ok (.iload_n 2, 1) := by decide +kernel
theorem dX11_likely_16 : decode cX11_likely 16 = .ok (.i2l, 1) := by decide +kernel
theorem dX11_likely_17 : decode cX11_likely 17 = .ok (.lconst 0, 1) := by decide +kernel
theorem dX11_likely_18 : decode cX11_likely 18 = .ok (.ldc2_w 258, 3) := by decide +kernel
theorem dX11_likely_21 : decode cX11_likely 21 = .ok (.invokestatic 79, 3) := by decide +kernel
theorem dX11_likely_24 : decode cX11_likely 24 = .ok (.ifCond .ne 6, 3) := by decide +kernel
theorem dX11_likely_27 : decode cX11_likely 27 = .ok (.bipush (-2), 2) := by decide +kernel
theorem dX11_likely_29 : decode cX11_likely 29 = .ok (.ireturn, 1) := by decide +kernel
theorem dX11_likely_30 : decode cX11_likely 30 = .ok (.aload_n 0, 1) := by decide +kernel
theorem dX11_likely_31 : decode cX11_likely 31 = .ok (.getfield 44, 3) := by decide +kernel
theorem dX11_likely_34 : decode cX11_likely 34 = .ok (.iload_n 1, 1) := by decide +kernel
theorem dX11_likely_35 : decode cX11_likely 35 = .ok (.iaload, 1) := by decide +kernel
theorem dX11_likely_36 : decode cX11_likely 36 = .ok (.istore_n 3, 1) := by decide +kernel
theorem dX11_likely_37 : decode cX11_likely 37 = .ok (.aload_n 0, 1) := by decide +kernel
theorem dX11_likely_38 : decode cX11_likely 38 = .ok (.getfield 44, 3) := by decide +kernel
theorem dX11_likely_41 : decode cX11_likely 41 = .ok (.iload_n 1, 1) := by decide +kernel
theorem dX11_likely_42 : decode cX11_likely 42 = .ok (.iload_n 2, 1) := by decide +kernel
theorem dX11_likely_43 : decode cX11_likely 43 = .ok (.iastore, 1) := by decide +kernel
theorem dX11_likely_44 : decode cX11_likely 44 = .ok (.iload_n 3, 1) := by decide +kernel
theorem dX11_likely_45 : decode cX11_likely 45 = .ok (.ireturn, 1) := by decide +kernel
theorem dX11_even_0 : decode cX11_even 0 = .ok (.aload_n 0, 1) := by decide +kernel
theorem dX11_even_1 : decode cX11_even 1 = .ok (.iconst 0, 1) := by decide +kernel
theorem dX11_even_2 : decode cX11_even 2 = .ok (.putfield 76, 3) := by decide +kernel
theorem dX11_even_5 : decode cX11_even 5 = .ok (.aload_n 0, 1) := by decide +kernel
theorem dX11_even_6 : decode cX11_even 6 = .ok (.iload_n 1, 1) := by decide +kernel
theorem dX11_even_7 : decode cX11_even 7 = .ok (.invokevirtual 147, 3) := by decide +kernel
theorem dX11_even_10 : decode cX11_even 10 = .ok (.ifCond .eq 7, 3) := by decide +kernel
theorem dX11_even_13 : decode cX11_even 13 = .ok (.ldc2_w 256, 3) := by decide +kernel
theorem dX11_even_16 : decode cX11_even 16 = .ok (.lreturn, 1) := by decide +kernel
theorem dX11_even_17 : decode cX11_even 17 = .ok (.aload_n 0, 1) := by decide +kernel
theorem dX11_even_18 : decode cX11_even 18 = .ok (.aload_n 0, 1) := by decide +kernel
theorem dX11_even_19 : decode cX11_even 19 = .ok (.getfield 17, 3) := by decide +kernel
theorem dX11_even_22 : decode cX11_even 22 = .ok (.iload_n 1, 1) := by decide +kernel
theorem dX11_even_23 : decode cX11_even 23 = .ok (.iconst 1, 1) := by decide +kernel
theorem dX11_even_24 : decode cX11_even 24 = .ok (.invokevirtual 150, 3) := by decide +kernel
theorem dX11_even_27 : decode cX11_even 27 = .ok (.istore_n 3, 1) := by decide +kernel
theorem dX11_even_28 : decode cX11_even 28 = .ok (.aload_n 0, 1) := by decide +kernel
theorem dX11_even_29 : decode cX11_even 29 = .ok (.aload_n 0, 1) := by decide +kernel
theorem dX11_even_30 : decode cX11_even 30 = .ok (.getfield 17, 3) := by decide +kernel
theorem dX11_even_33 : decode cX11_even 33 = .ok (.iload_n 1, 1) := by decide +kernel
theorem dX11_even_34 : decode cX11_even 34 = .ok (.iconst 0, 1) := by decide +kernel
theorem dX11_even_35 : decode cX11_even 35 = .ok (.invokevirtual 150, 3) := by decide +kernel
theorem dX11_even_38 : decode cX11_even 38 = .ok (.istore 4, 2) := by decide +kernel
theorem dX11_even_40 : decode cX11_even 40 = .ok (.lconst 0, 1) := by decide +kernel
theorem dX11_even_41 : decode cX11_even 41 = .ok (.lstore 5, 2) := by decide +kernel
theorem dX11_even_43 : decode cX11_even 43 = .ok (.iconst 0, 1) := by decide +kernel
theorem dX11_even_44 : decode cX11_even 44 = .ok (.iload_n 3, 1) := by decide +kernel
theorem dX11_even_45 : decode cX11_even 45 = .ok (.invokestatic 191, 3) := by decide +kernel
theorem dX11_even_48 : decode cX11_even 48 = .ok (.istore 7, 2) := by decide +kernel
theorem dX11_even_50 : decode cX11_even 50 = .ok (.iload 7, 2) := by decide +kernel
theorem dX11_even_52 : decode cX11_even 52 = .ok (.ifCond .eq 70, 3) := by decide +kernel
theorem dX11_even_55 : decode cX11_even 55 = .ok (.iconst 0, 1) := by decide +kernel
theorem dX11_even_56 : decode cX11_even 56 = .ok (.iload 4, 2) := by decide +kernel
theorem dX11_even_58 : decode cX11_even 58 = .ok (.invokestatic 191, 3) := by decide +kernel
theorem dX11_even_61 : decode cX11_even 61 = .ok (.istore 8, 2) := by decide +kernel
theorem dX11_even_63 : decode cX11_even 63 = .ok (.iload 8, 2) := by decide +kernel
theorem dX11_even_65 : decode cX11_even 65 = .ok (.ifCond .eq 46, 3) := by decide +kernel
theorem dX11_even_68 : decode cX11_even 68 = .ok (.iload 7, 2) := by decide +kernel
theorem dX11_even_70 : decode cX11_even 70 = .ok (.invokestatic 154, 3) := by decide +kernel
theorem dX11_even_73 : decode cX11_even 73 = .ok (.iload 8, 2) := by decide +kernel
theorem dX11_even_75 : decode cX11_even 75 = .ok (.invokestatic 154, 3) := by decide +kernel
theorem dX11_even_78 : decode cX11_even 78 = .ok (.if_icmp .ne 21, 3) := by decide +kernel
theorem dX11_even_81 : decode cX11_even 81 = .ok (.lload 5, 2) := by decide +kernel
theorem dX11_even_83 : decode cX11_even 83 = .ok (.aload_n 0, 1) := by decide +kernel
theorem dX11_even_84 : decode cX11_even 84 = .ok (.iload_n 3, 1) := by decide +kernel
theorem dX11_even_85 : decode cX11_even 85 = .ok (.iload 4, 2) := by decide +kernel
theorem dX11_even_87 : decode cX11_even 87 = .ok (.ior, 1) := by decide +kernel
theorem dX11_even_88 : decode cX11_even 88 = .ok (.iload 7, 2) := by decide +kernel
theorem dX11_even_90 : decode cX11_even 90 = .ok (.iload 8, 2) := by decide +kernel
theorem dX11_even_92 : decode cX11_even 92 = .ok (.ior, 1) := by decide +kernel
theorem dX11_even_93 : decode cX11_even 93 = .ok (.invokevirtual 260, 3) := by decide +kernel
theorem dX11_even_96 : decode cX11_even 96 = .ok (.ladd, 1) := by decide +kernel
theorem dX11_even_97 : decode cX11_even 97 = .ok (.lstore 5, 2) := by decide +kernel
theorem dX11_even_99 : decode cX11_even 99 = .ok (.iload 8, 2) := by decide +kernel
theorem dX11_even_101 : decode cX11_even 101 = .ok (.iload 4, 2) := by decide +kernel
theorem dX11_even_103 : decode cX11_even 103 = .ok (.invokestatic 191, 3) := by decide +kernel
theorem dX11_even_106 : decode cX11_even 106 = .ok (.istore 8, 2) := by decide +kernel
theorem dX11_even_108 : decode cX11_even 108 = .ok (.goto (-45), 3) := by decide +kernel
theorem dX11_even_111 : decode cX11_even 111 = .ok (.iload 7, 2) := by decide +kernel
theorem dX11_even_113 : decode cX11_even 113 = .ok (.iload_n 3, 1) := by decide +kernel
theorem dX11_even_114 : decode cX11_even 114 = .ok (.invokestatic 191, 3) := by decide +kernel
theorem dX11_even_117 : decode cX11_even 117 = .ok (.istore 7, 2) := by decide +kernel
theorem dX11_even_119 : decode cX11_even 119 = .ok (.goto (-69), 3) := by decide +kernel
theorem dX11_even_122 : decode cX11_even 122 = .ok (.ldc2_w 264, 3) := by decide +kernel
theorem dX11_even_125 : decode cX11_even 125 = .ok (.lstore 7, 2) := by decide +kernel
theorem dX11_even_127 : decode cX11_even 127 = .ok (.lload 5, 2) := by decide +kernel
theorem dX11_even_129 : decode cX11_even 129 = .ok (.lstore 9, 2) := by decide +kernel
theorem dX11_even_131 : decode cX11_even 131 = .ok (.lload 7, 2) := by decide +kernel
theorem dX11_even_133 : decode cX11_even 133 = .ok (.lstore 11, 2) := by decide +kernel
theorem dX11_even_135 : decode cX11_even 135 = .ok (.lload 11, 2) := by decide +kernel
theorem dX11_even_137 : decode cX11_even 137 = .ok (.lconst 0, 1) := by decide +kernel
theorem dX11_even_138 : decode cX11_even 138 = .ok (.lcmp, 1) := by decide +kernel
theorem dX11_even_139 : decode cX11_even 139 = .ok (.ifCond .eq 21, 3) := by decide +kernel
theorem dX11_even_142 : decode cX11_even 142 = .ok (.lload 9, 2) := by decide +kernel
theorem dX11_even_144 : decode cX11_even 144 = .ok (.lload 11, 2) := by decide +kernel
theorem dX11_even_146 : decode cX11_even 146 = .ok (.lrem, 1) := by decide +kernel
theorem dX11_even_147 : decode cX11_even 147 = .ok (.lstore 13, 2) := by decide +kernel
theorem dX11_even_149 : decode cX11_even 149 = .ok (.lload 11, 2) := by decide +kernel
theorem dX11_even_151 : decode cX11_even 151 = .ok (.lstore 9, 2) := by decide +kernel
theorem dX11_even_153 : decode cX11_even 153 = .ok (.lload 13, 2) := by decide +kernel
theorem dX11_even_155 : decode cX11_even 155 = .ok (.lstore 11, 2) := by decide +kernel
theorem dX11_even_157 : decode cX11_even 157 = .ok (.goto (-22), 3) := by decide +kernel
theorem dX11_even_160 : decode cX11_even 160 = .ok (.iload_n 2, 1) := by decide +kernel
theorem dX11_even_161 : decode cX11_even 161 = .ok (.ifCond .eq 11, 3) := by decide +kernel
theorem dX11_even_164 : decode cX11_even 164 = .ok (.lload 5, 2) := by decide +kernel
theorem dX11_even_166 : decode cX11_even 166 = .ok (.lload 9, 2) := by decide +kernel
theorem dX11_even_168 : decode cX11_even 168 = .ok (.ldiv, 1) := by decide +kernel
theorem dX11_even_169 : decode cX11_even 169 = .ok (.goto 8, 3) := by decide +kernel
theorem dX11_even_172 : decode cX11_even 172 = .ok (.lload 7, 2) := by decide +kernel
theorem dX11_even_174 : decode cX11_even 174 = .ok (.lload 9, 2) := by decide +kernel
theorem dX11_even_176 : decode cX11_even 176 = .ok (.ldiv, 1) := by decide +kernel
theorem dX11_even_177 : decode cX11_even 177 = .ok (.lreturn, 1) := by decide +kernel
theorem dX11_weight_0 : decode cX11_weight 0 = .ok (.lconst 1, 1) := by decide +kernel
theorem dX11_weight_1 : decode cX11_weight 1 = .ok (.lstore_n 3, 1) := by decide +kernel
theorem dX11_weight_2 : decode cX11_weight 2 = .ok (.iconst 0, 1) := by decide +kernel
theorem dX11_weight_3 : decode cX11_weight 3 = .ok (.istore 5, 2) := by decide +kernel
theorem dX11_weight_5 : decode cX11_weight 5 = .ok (.iload 5, 2) := by decide +kernel
theorem dX11_weight_7 : decode cX11_weight 7 = .ok (.bipush 6, 2) := by decide +kernel
theorem dX11_weight_9 : decode cX11_weight 9 = .ok (.if_icmp .ge 59, 3) := by decide +kernel
theorem dX11_weight_12 : decode cX11_weight 12 = .ok (.lload_n 3, 1) := by decide +kernel
theorem dX11_weight_13 : decode cX11_weight 13 = .ok (.iload_n 1, 1) := by decide +kernel
theorem dX11_weight_14 : decode cX11_weight 14 = .ok (.iload 5, 2) := by decide +kernel
theorem dX11_weight_16 : decode cX11_weight 16 = .ok (.invokestatic 160, 3) := by decide +kernel
theorem dX11_weight_19 : decode cX11_weight 19 = .ok (.ifCond .ne 9, 3) := by decide +kernel
theorem dX11_weight_22 : decode cX11_weight 22 = .ok (.ldc2_w 258, 3) := by decide +kernel
theorem dX11_weight_25 : decode cX11_weight 25 = .ok (.goto 35, 3) := by decide +kernel
theorem dX11_weight_28 : decode cX11_weight 28 = .ok (.iload_n 2, 1) := by decide +kernel
theorem dX11_weight_29 : decode cX11_weight 29 = .ok (.iload 5, 2) := by decide +kernel
theorem dX11_weight_31 : decode cX11_weight 31 = .ok (.invokestatic 160, 3) := by decide +kernel
theorem dX11_weight_34 : decode cX11_weight 34 = .ok (.ifCond .eq 14, 3) := by decide +kernel
theorem dX11_weight_37 : decode cX11_weight 37 = .ok (.aload_n 0, 1) := by decide +kernel
theorem dX11_weight_38 : decode cX11_weight 38 = .ok (.getfield 44, 3) := by decide +kernel
theorem dX11_weight_41 : decode cX11_weight 41 = .ok (.iload 5, 2) := by decide +kernel
theorem dX11_weight_43 : decode cX11_weight 43 = .ok (.iaload, 1) := by decide +kernel
theorem dX11_weight_44 : decode cX11_weight 44 = .ok (.i2l, 1) := by decide +kernel
theorem dX11_weight_45 : decode cX11_weight 45 = .ok (.goto 15, 3) := by decide +kernel
theorem dX11_weight_48 : decode cX11_weight 48 = .ok (.ldc2_w 258, 3) := by decide +kernel
theorem dX11_weight_51 : decode cX11_weight 51 = .ok (.aload_n 0, 1) := by decide +kernel
theorem dX11_weight_52 : decode cX11_weight 52 = .ok (.getfield 44, 3) := by decide +kernel
theorem dX11_weight_55 : decode cX11_weight 55 = .ok (.iload 5, 2) := by decide +kernel
theorem dX11_weight_57 : decode cX11_weight 57 = .ok (.iaload, 1) := by decide +kernel
theorem dX11_weight_58 : decode cX11_weight 58 = .ok (.i2l, 1) := by decide +kernel
theorem dX11_weight_59 : decode cX11_weight 59 = .ok (.lsub, 1) := by decide +kernel
theorem dX11_weight_60 : decode cX11_weight 60 = .ok (.lmul, 1) := by decide +kernel
theorem dX11_weight_61 : decode cX11_weight 61 = .ok (.lstore_n 3, 1) := by decide +kernel
theorem dX11_weight_62 : decode cX11_weight 62 = .ok (.iinc 5 1, 3) := by decide +kernel
theorem dX11_weight_65 : decode cX11_weight 65 = .ok (.goto (-60), 3) := by decide +kernel
theorem dX11_weight_68 : decode cX11_weight 68 = .ok (.lload_n 3, 1) := by decide +kernel
theorem dX11_weight_69 : decode cX11_weight 69 = .ok (.lreturn, 1) := by decide +kernel
theorem dX11_keep_0 : decode cX11_keep 0 = .ok (.aload_n 0, 1) := by decide +kernel
theorem dX11_keep_1 : decode cX11_keep 1 = .ok (.iconst 0, 1) := by decide +kernel
theorem dX11_keep_2 : decode cX11_keep 2 = .ok (.putfield 76, 3) := by decide +kernel
theorem dX11_keep_5 : decode cX11_keep 5 = .ok (.iload_n 1, 1) := by decide +kernel
theorem dX11_keep_6 : decode cX11_keep 6 = .ok (.i2l, 1) := by decide +kernel
theorem dX11_keep_7 : decode cX11_keep 7 = .ok (.lconst 0, 1) := by decide +kernel
theorem dX11_keep_8 : decode cX11_keep 8 = .ok (.lconst 1, 1) := by decide +kernel
theorem dX11_keep_9 : decode cX11_keep 9 = .ok (.invokestatic 79, 3) := by decide +kernel
theorem dX11_keep_12 : decode cX11_keep 12 = .ok (.ifCond .ne 5, 3) := by decide +kernel
theorem dX11_keep_15 : decode cX11_keep 15 = .ok (.iconst (-1), 1) := by decide +kernel
theorem dX11_keep_16 : decode cX11_keep 16 = .ok (.ireturn, 1) := by decide +kernel
theorem dX11_keep_17 : decode cX11_keep 17 = .ok (.aload_n 0, 1) := by decide +kernel
theorem dX11_keep_18 : decode cX11_keep 18 = .ok (.getfield 50, 3) := by decide +kernel
theorem dX11_keep_21 : decode cX11_keep 21 = .ok (.iload_n 1, 1) := by decide +kernel
theorem dX11_keep_22 : decode cX11_keep 22 = .ok (.iconst 1, 1) := by decide +kernel
theorem dX11_keep_23 : decode cX11_keep 23 = .ok (.bastore, 1) := by decide +kernel
theorem dX11_keep_24 : decode cX11_keep 24 = .ok (.iconst 0, 1) := by decide +kernel
theorem dX11_keep_25 : decode cX11_keep 25 = .ok (.istore_n 2, 1) := by decide +kernel
theorem dX11_keep_26 : decode cX11_keep 26 = .ok (.iload_n 2, 1) := by decide +kernel
theorem dX11_keep_27 : decode cX11_keep 27 = .ok (.bipush 96, 2) := by decide +kernel
theorem dX11_keep_29 : decode cX11_keep 29 = .ok (.if_icmp .ge 26, 3) := by decide +kernel
theorem dX11_keep_32 : decode cX11_keep 32 = .ok (.aload_n 0, 1) := by decide +kernel
theorem dX11_keep_33 : decode cX11_keep 33 = .ok (.getfield 47, 3) := by decide +kernel
theorem dX11_keep_36 : decode cX11_keep 36 = .ok (.bipush 120, 2) := by decide +kernel
theorem dX11_keep_38 : decode cX11_keep 38 = .ok (.iload_n 1, 1) := by decide +kernel
theorem dX11_keep_39 : decode cX11_keep 39 = .ok (.imul, 1) := by decide +kernel
theorem dX11_keep_40 : decode cX11_keep 40 = .ok (.iload_n 2, 1) := by decide +kernel
theorem dX11_keep_41 : decode cX11_keep 41 = .ok (.iadd, 1) := by decide +kernel
theorem dX11_keep_42 : decode cX11_keep 42 = .ok (.aload_n 0, 1) := by decide +kernel
theorem dX11_keep_43 : decode cX11_keep 43 = .ok (.getfield 26, 3) := by decide +kernel
theorem dX11_keep_46 : decode cX11_keep 46 = .ok (.iload_n 2, 1) := by decide +kernel
theorem dX11_keep_47 : decode cX11_keep 47 = .ok (.iaload, 1) := by decide +kernel
theorem dX11_keep_48 : decode cX11_keep 48 = .ok (.iastore, 1) := by decide +kernel
theorem dX11_keep_49 : decode cX11_keep 49 = .ok (.iinc 2 1, 3) := by decide +kernel
theorem dX11_keep_52 : decode cX11_keep 52 = .ok (.goto (-26), 3) := by decide +kernel
theorem dX11_keep_55 : decode cX11_keep 55 = .ok (.iconst 0, 1) := by decide +kernel
theorem dX11_keep_56 : decode cX11_keep 56 = .ok (.istore_n 2, 1) := by decide +kernel
theorem dX11_keep_57 : decode cX11_keep 57 = .ok (.iload_n 2, 1) := by decide +kernel
theorem dX11_keep_58 : decode cX11_keep 58 = .ok (.bipush 6, 2) := by decide +kernel
theorem dX11_keep_60 : decode cX11_keep 60 = .ok (.if_icmp .ge 29, 3) := by decide +kernel
theorem dX11_keep_63 : decode cX11_keep 63 = .ok (.aload_n 0, 1) := by decide +kernel
theorem dX11_keep_64 : decode cX11_keep 64 = .ok (.getfield 47, 3) := by decide +kernel
theorem dX11_keep_67 : decode cX11_keep 67 = .ok (.bipush 120, 2) := by decide +kernel
theorem dX11_keep_69 : decode cX11_keep 69 = .ok (.iload_n 1, 1) := by decide +kernel
theorem dX11_keep_70 : decode cX11_keep 70 = .ok (.imul, 1) := by decide +kernel
theorem dX11_keep_71 : decode cX11_keep 71 = .ok (.bipush 96, 2) := by decide +kernel
theorem dX11_keep_73 : decode cX11_keep 73 = .ok (.iadd, 1) := by decide +kernel
theorem dX11_keep_74 : decode cX11_keep 74 = .ok (.iload_n 2, 1) := by decide +kernel
theorem dX11_keep_75 : decode cX11_keep 75 = .ok (.iadd, 1) := by decide +kernel
theorem dX11_keep_76 : decode cX11_keep 76 = .ok (.aload_n 0, 1) := by decide +kernel
theorem dX11_keep_77 : decode cX11_keep 77 = .ok (.getfield 17, 3) := by decide +kernel
theorem dX11_keep_80 : decode cX11_keep 80 = .ok (.iload_n 2, 1) := by decide +kernel
theorem dX11_keep_81 : decode cX11_keep 81 = .ok (.iaload, 1) := by decide +kernel
theorem dX11_keep_82 : decode cX11_keep 82 = .ok (.iastore, 1) := by decide +kernel
theorem dX11_keep_83 : decode cX11_keep 83 = .ok (.iinc 2 1, 3) := by decide +kernel
theorem dX11_keep_86 : decode cX11_keep 86 = .ok (.goto (-29), 3) := by decide +kernel
theorem dX11_keep_89 : decode cX11_keep 89 = .ok (.iconst 0, 1) := by decide +kernel
theorem dX11_keep_90 : decode cX11_keep 90 = .ok (.istore_n 2, 1) := by decide +kernel
theorem dX11_keep_91 : decode cX11_keep 91 = .ok (.iload_n 2, 1) := by decide +kernel
theorem dX11_keep_92 : decode cX11_keep 92 = .ok (.iconst 4, 1) := by decide +kernel
theorem dX11_keep_93 : decode cX11_keep 93 = .ok (.if_icmp .ge 49, 3) := by decide +kernel
theorem dX11_keep_96 : decode cX11_keep 96 = .ok (.aload_n 0, 1) := by decide +kernel
theorem dX11_keep_97 : decode cX11_keep 97 = .ok (.getfield 47, 3) := by decide +kernel
theorem dX11_keep_100 : decode cX11_keep 100 = .ok (.bipush 120, 2) := by decide +kernel
theorem dX11_keep_102 : decode cX11_keep 102 = .ok (.iload_n 1, 1) := by decide +kernel
theorem dX11_keep_103 : decode cX11_keep 103 = .ok (.imul, 1) := by decide +kernel
theorem dX11_keep_104 : decode cX11_keep 104 = .ok (.bipush 102, 2) := by decide +kernel
theorem dX11_keep_106 : decode cX11_keep 106 = .ok (.iadd, 1) := by decide +kernel
theorem dX11_keep_107 : decode cX11_keep 107 = .ok (.iload_n 2, 1) := by decide +kernel
theorem dX11_keep_108 : decode cX11_keep 108 = .ok (.iadd, 1) := by decide +kernel
theorem dX11_keep_109 : decode cX11_keep 109 = .ok (.aload_n 0, 1) := by decide +kernel
theorem dX11_keep_110 : decode cX11_keep 110 = .ok (.getfield 20, 3) := by decide +kernel
theorem dX11_keep_113 : decode cX11_keep 113 = .ok (.iload_n 2, 1) := by decide +kernel
theorem dX11_keep_114 : decode cX11_keep 114 = .ok (.iaload, 1) := by decide +kernel
theorem dX11_keep_115 : decode cX11_keep 115 = .ok (.iastore, 1) := by decide +kernel
theorem dX11_keep_116 : decode cX11_keep 116 = .ok (.aload_n 0, 1) := by decide +kernel
theorem dX11_keep_117 : decode cX11_keep 117 = .ok (.getfield 47, 3) := by decide +kernel
theorem dX11_keep_120 : decode cX11_keep 120 = .ok (.bipush 120, 2) := by decide +kernel
theorem dX11_keep_122 : decode cX11_keep 122 = .ok (.iload_n 1, 1) := by decide +kernel
theorem dX11_keep_123 : decode cX11_keep 123 = .ok (.imul, 1) := by decide +kernel
theorem dX11_keep_124 : decode cX11_keep 124 = .ok (.bipush 106, 2) := by decide +kernel
theorem dX11_keep_126 : decode cX11_keep 126 = .ok (.iadd, 1) := by decide +kernel
theorem dX11_keep_127 : decode cX11_keep 127 = .ok (.iload_n 2, 1) := by decide +kernel
theorem dX11_keep_128 : decode cX11_keep 128 = .ok (.iadd, 1) := by decide +kernel
theorem dX11_keep_129 : decode cX11_keep 129 = .ok (.aload_n 0, 1) := by decide +kernel
theorem dX11_keep_130 : decode cX11_keep 130 = .ok (.getfield 23, 3) := by decide +kernel
theorem dX11_keep_133 : decode cX11_keep 133 = .ok (.iload_n 2, 1) := by decide +kernel
theorem dX11_keep_134 : decode cX11_keep 134 = .ok (.iaload, 1) := by decide +kernel
theorem dX11_keep_135 : decode cX11_keep 135 = .ok (.iastore, 1) := by decide +kernel
theorem dX11_keep_136 : decode cX11_keep 136 = .ok (.iinc 2 1, 3) := by decide +kernel
theorem dX11_keep_139 : decode cX11_keep 139 = .ok (.goto (-48), 3) := by decide +kernel
theorem dX11_keep_142 : decode cX11_keep 142 = .ok (.aload_n 0, 1) := by decide +kernel
theorem dX11_keep_143 : decode cX11_keep 143 = .ok (.getfield 47, 3) := by decide +kernel
theorem dX11_keep_146 : decode cX11_keep 146 = .ok (.bipush 120, 2) := by decide +kernel
theorem dX11_keep_148 : decode cX11_keep 148 = .ok (.iload_n 1, 1) := by decide +kernel
theorem dX11_keep_149 : decode cX11_keep 149 = .ok (.imul, 1) := by decide +kernel
theorem dX11_keep_150 : decode cX11_keep 150 = .ok (.bipush 110, 2) := by decide +kernel
theorem dX11_keep_152 : decode cX11_keep 152 = .ok (.iadd, 1) := by decide +kernel
theorem dX11_keep_153 : decode cX11_keep 153 = .ok (.aload_n 0, 1) := by decide +kernel
theorem dX11_keep_154 : decode cX11_keep 154 = .ok (.getfield 13, 3) := by decide +kernel
theorem dX11_keep_157 : decode cX11_keep 157 = .ok (.iastore, 1) := by decide +kernel
theorem dX11_keep_158 : decode cX11_keep 158 = .ok (.aload_n 0, 1) := by decide +kernel
theorem dX11_keep_159 : decode cX11_keep 159 = .ok (.getfield 47, 3) := by decide +kernel
theorem dX11_keep_162 : decode cX11_keep 162 = .ok (.bipush 120, 2) := by decide +kernel
theorem dX11_keep_164 : decode cX11_keep 164 = .ok (.iload_n 1, 1) := by decide +kernel
theorem dX11_keep_165 : decode cX11_keep 165 = .ok (.imul, 1) := by decide +kernel
theorem dX11_keep_166 : decode cX11_keep 166 = .ok (.bipush 111, 2) := by decide +kernel
theorem dX11_keep_168 : decode cX11_keep 168 = .ok (.iadd, 1) := by decide +kernel
theorem dX11_keep_169 : decode cX11_keep 169 = .ok (.aload_n 0, 1) := by decide +kernel
theorem dX11_keep_170 : decode cX11_keep 170 = .ok (.getfield 121, 3) := by decide +kernel
theorem dX11_keep_173 : decode cX11_keep 173 = .ok (.iastore, 1) := by decide +kernel
theorem dX11_keep_174 : decode cX11_keep 174 = .ok (.aload_n 0, 1) := by decide +kernel
theorem dX11_keep_175 : decode cX11_keep 175 = .ok (.getfield 47, 3) := by decide +kernel
theorem dX11_keep_178 : decode cX11_keep 178 = .ok (.bipush 120, 2) := by decide +kernel
theorem dX11_keep_180 : decode cX11_keep 180 = .ok (.iload_n 1, 1) := by decide +kernel
theorem dX11_keep_181 : decode cX11_keep 181 = .ok (.imul, 1) := by decide +kernel
theorem dX11_keep_182 : decode cX11_keep 182 = .ok (.bipush 112, 2) := by decide +kernel
theorem dX11_keep_184 : decode cX11_keep 184 = .ok (.iadd, 1) := by decide +kernel
theorem dX11_keep_185 : decode cX11_keep 185 = .ok (.aload_n 0, 1) := by decide +kernel
theorem dX11_keep_186 : decode cX11_keep 186 = .ok (.getfield 124, 3) := by decide +kernel
theorem dX11_keep_189 : decode cX11_keep 189 = .ok (.iastore, 1) := by decide +kernel
theorem dX11_keep_190 : decode cX11_keep 190 = .ok (.aload_n 0, 1) := by decide +kernel
theorem dX11_keep_191 : decode cX11_keep 191 = .ok (.getfield 47, 3) := by decide +kernel
theorem dX11_keep_194 : decode cX11_keep 194 = .ok (.bipush 120, 2) := by decide +kernel
theorem dX11_keep_196 : decode cX11_keep 196 = .ok (.iload_n 1, 1) := by decide +kernel
theorem dX11_keep_197 : decode cX11_keep 197 = .ok (.imul, 1) := by decide +kernel
theorem dX11_keep_198 : decode cX11_keep 198 = .ok (.bipush 113, 2) := by decide +kernel
theorem dX11_keep_200 : decode cX11_keep 200 = .ok (.iadd, 1) := by decide +kernel
theorem dX11_keep_201 : decode cX11_keep 201 = .ok (.aload_n 0, 1) := by decide +kernel
theorem dX11_keep_202 : decode cX11_keep 202 = .ok (.getfield 127, 3) := by decide +kernel
theorem dX11_keep_205 : decode cX11_keep 205 = .ok (.iastore, 1) := by decide +kernel
theorem dX11_keep_206 : decode cX11_keep 206 = .ok (.aload_n 0, 1) := by decide +kernel
theorem dX11_keep_207 : decode cX11_keep 207 = .ok (.getfield 47, 3) := by decide +kernel
theorem dX11_keep_210 : decode cX11_keep 210 = .ok (.bipush 120, 2) := by decide +kernel
theorem dX11_keep_212 : decode cX11_keep 212 = .ok (.iload_n 1, 1) := by decide +kernel
theorem dX11_keep_213 : decode cX11_keep 213 = .ok (.imul, 1) := by decide +kernel
theorem dX11_keep_214 : decode cX11_keep 214 = .ok (.bipush 114, 2) := by decide +kernel
theorem dX11_keep_216 : decode cX11_keep 216 = .ok (.iadd, 1) := by decide +kernel
theorem dX11_keep_217 : decode cX11_keep 217 = .ok (.aload_n 0, 1) := by decide +kernel
theorem dX11_keep_218 : decode cX11_keep 218 = .ok (.getfield 130, 3) := by decide +kernel
theorem dX11_keep_221 : decode cX11_keep 221 = .ok (.iastore, 1) := by decide +kernel
theorem dX11_keep_222 : decode cX11_keep 222 = .ok (.aload_n 0, 1) := by decide +kernel
theorem dX11_keep_223 : decode cX11_keep 223 = .ok (.getfield 47, 3) := by decide +kernel
theorem dX11_keep_226 : decode cX11_keep 226 = .ok (.bipush 120, 2) := by decide +kernel
theorem dX11_keep_228 : decode cX11_keep 228 = .ok (.iload_n 1, 1) := by decide +kernel
theorem dX11_keep_229 : decode cX11_keep 229 = .ok (.imul, 1) := by decide +kernel
theorem dX11_keep_230 : decode cX11_keep 230 = .ok (.bipush 115, 2) := by decide +kernel
theorem dX11_keep_232 : decode cX11_keep 232 = .ok (.iadd, 1) := by decide +kernel
theorem dX11_keep_233 : decode cX11_keep 233 = .ok (.aload_n 0, 1) := by decide +kernel
theorem dX11_keep_234 : decode cX11_keep 234 = .ok (.getfield 133, 3) := by decide +kernel
theorem dX11_keep_237 : decode cX11_keep 237 = .ok (.iastore, 1) := by decide +kernel
theorem dX11_keep_238 : decode cX11_keep 238 = .ok (.aload_n 0, 1) := by decide +kernel
theorem dX11_keep_239 : decode cX11_keep 239 = .ok (.getfield 121, 3) := by decide +kernel
theorem dX11_keep_242 : decode cX11_keep 242 = .ok (.aload_n 0, 1) := by decide +kernel
theorem dX11_keep_243 : decode cX11_keep 243 = .ok (.getfield 124, 3) := by decide +kernel
theorem dX11_keep_246 : decode cX11_keep 246 = .ok (.iadd, 1) := by decide +kernel
theorem dX11_keep_247 : decode cX11_keep 247 = .ok (.ireturn, 1) := by decide +kernel
theorem dX11_again_0 : decode cX11_again 0 = .ok (.aload_n 0, 1) := by decide +kernel
theorem dX11_again_1 : decode cX11_again 1 = .ok (.iconst 0, 1) := by decide +kernel
theorem dX11_again_2 : decode cX11_again 2 = .ok (.putfield 76, 3) := by decide +kernel
theorem dX11_again_5 : decode cX11_again 5 = .ok (.iload_n 1, 1) := by decide +kernel
theorem dX11_again_6 : decode cX11_again 6 = .ok (.i2l, 1) := by decide +kernel
theorem dX11_again_7 : decode cX11_again 7 = .ok (.lconst 0, 1) := by decide +kernel
theorem dX11_again_8 : decode cX11_again 8 = .ok (.lconst 1, 1) := by decide +kernel
theorem dX11_again_9 : decode cX11_again 9 = .ok (.invokestatic 79, 3) := by decide +kernel
theorem dX11_again_12 : decode cX11_again 12 = .ok (.ifCond .ne 5, 3) := by decide +kernel
theorem dX11_again_15 : decode cX11_again 15 = .ok (.iconst (-1), 1) := by decide +kernel
theorem dX11_again_16 : decode cX11_again 16 = .ok (.ireturn, 1) := by decide +kernel
theorem dX11_again_17 : decode cX11_again 17 = .ok (.aload_n 0, 1) := by decide +kernel
theorem dX11_again_18 : decode cX11_again 18 = .ok (.getfield 50, 3) := by decide +kernel
theorem dX11_again_21 : decode cX11_again 21 = .ok (.iload_n 1, 1) := by decide +kernel
theorem dX11_again_22 : decode cX11_again 22 = .ok (.baload, 1) := by decide +kernel
theorem dX11_again_23 : decode cX11_again 23 = .ok (.ifCond .ne 6, 3) := by decide +kernel
theorem dX11_again_26 : decode cX11_again 26 = .ok (.bipush (-3), 2) := by decide +kernel
theorem dX11_again_28 : decode cX11_again 28 = .ok (.ireturn, 1) := by decide +kernel
theorem dX11_again_29 : decode cX11_again 29 = .ok (.iconst 0, 1) := by decide +kernel
theorem dX11_again_30 : decode cX11_again 30 = .ok (.istore_n 2, 1) := by decide +kernel
theorem dX11_again_31 : decode cX11_again 31 = .ok (.iload_n 2, 1) := by decide +kernel
theorem dX11_again_32 : decode cX11_again 32 = .ok (.bipush 96, 2) := by decide +kernel
theorem dX11_again_34 : decode cX11_again 34 = .ok (.if_icmp .ge 26, 3) := by decide +kernel
theorem dX11_again_37 : decode cX11_again 37 = .ok (.aload_n 0, 1) := by decide +kernel
theorem dX11_again_38 : decode cX11_again 38 = .ok (.getfield 26, 3) := by decide +kernel
theorem dX11_again_41 : decode cX11_again 41 = .ok (.iload_n 2, 1) := by decide +kernel
theorem dX11_again_42 : decode cX11_again 42 = .ok (.aload_n 0, 1) := by decide +kernel
theorem dX11_again_43 : decode cX11_again 43 = .ok (.getfield 47, 3) := by decide +kernel
theorem dX11_again_46 : decode cX11_again 46 = .ok (.bipush 120, 2) := by decide +kernel
theorem dX11_again_48 : decode cX11_again 48 = .ok (.iload_n 1, 1) := by decide +kernel
theorem dX11_again_49 : decode cX11_again 49 = .ok (.imul, 1) := by decide +kernel
theorem dX11_again_50 : decode cX11_again 50 = .ok (.iload_n 2, 1) := by decide +kernel
theorem dX11_again_51 : decode cX11_again 51 = .ok (.iadd, 1) := by decide +kernel
theorem dX11_again_52 : decode cX11_again 52 = .ok (.iaload, 1) := by decide +kernel
theorem dX11_again_53 : decode cX11_again 53 = .ok (.iastore, 1) := by decide +kernel
theorem dX11_again_54 : decode cX11_again 54 = .ok (.iinc 2 1, 3) := by decide +kernel
theorem dX11_again_57 : decode cX11_again 57 = .ok (.goto (-26), 3) := by decide +kernel
theorem dX11_again_60 : decode cX11_again 60 = .ok (.iconst 0, 1) := by decide +kernel
theorem dX11_again_61 : decode cX11_again 61 = .ok (.istore_n 2, 1) := by decide +kernel
theorem dX11_again_62 : decode cX11_again 62 = .ok (.iload_n 2, 1) := by decide +kernel
theorem dX11_again_63 : decode cX11_again 63 = .ok (.bipush 6, 2) := by decide +kernel
theorem dX11_again_65 : decode cX11_again 65 = .ok (.if_icmp .ge 29, 3) := by decide +kernel
theorem dX11_again_68 : decode cX11_again 68 = .ok (.aload_n 0, 1) := by decide +kernel
theorem dX11_again_69 : decode cX11_again 69 = .ok (.getfield 17, 3) := by decide +kernel
theorem dX11_again_72 : decode cX11_again 72 = .ok (.iload_n 2, 1) := by decide +kernel
theorem dX11_again_73 : decode cX11_again 73 = .ok (.aload_n 0, 1) := by decide +kernel
theorem dX11_again_74 : decode cX11_again 74 = .ok (.getfield 47, 3) := by decide +kernel
theorem dX11_again_77 : decode cX11_again 77 = .ok (.bipush 120, 2) := by decide +kernel
theorem dX11_again_79 : decode cX11_again 79 = .ok (.iload_n 1, 1) := by decide +kernel
theorem dX11_again_80 : decode cX11_again 80 = .ok (.imul, 1) := by decide +kernel
theorem dX11_again_81 : decode cX11_again 81 = .ok (.bipush 96, 2) := by decide +kernel
theorem dX11_again_83 : decode cX11_again 83 = .ok (.iadd, 1) := by decide +kernel
theorem dX11_again_84 : decode cX11_again 84 = .ok (.iload_n 2, 1) := by decide +kernel
theorem dX11_again_85 : decode cX11_again 85 = .ok (.iadd, 1) := by decide +kernel
theorem dX11_again_86 : decode cX11_again 86 = .ok (.iaload, 1) := by decide +kernel
theorem dX11_again_87 : decode cX11_again 87 = .ok (.iastore, 1) := by decide +kernel
theorem dX11_again_88 : decode cX11_again 88 = .ok (.iinc 2 1, 3) := by decide +kernel
theorem dX11_again_91 : decode cX11_again 91 = .ok (.goto (-29), 3) := by decide +kernel
theorem dX11_again_94 : decode cX11_again 94 = .ok (.iconst 0, 1) := by decide +kernel
theorem dX11_again_95 : decode cX11_again 95 = .ok (.istore_n 2, 1) := by decide +kernel
theorem dX11_again_96 : decode cX11_again 96 = .ok (.iload_n 2, 1) := by decide +kernel
theorem dX11_again_97 : decode cX11_again 97 = .ok (.iconst 4, 1) := by decide +kernel
theorem dX11_again_98 : decode cX11_again 98 = .ok (.if_icmp .ge 49, 3) := by decide +kernel
theorem dX11_again_101 : decode cX11_again 101 = .ok (.aload_n 0, 1) := by decide +kernel
theorem dX11_again_102 : decode cX11_again 102 = .ok (.getfield 20, 3) := by decide +kernel
theorem dX11_again_105 : decode cX11_again 105 = .ok (.iload_n 2, 1) := by decide +kernel
theorem dX11_again_106 : decode cX11_again 106 = .ok (.aload_n 0, 1) := by decide +kernel
theorem dX11_again_107 : decode cX11_again 107 = .ok (.getfield 47, 3) := by decide +kernel
theorem dX11_again_110 : decode cX11_again 110 = .ok (.bipush 120, 2) := by decide +kernel
theorem dX11_again_112 : decode cX11_again 112 = .ok (.iload_n 1, 1) := by decide +kernel
theorem dX11_again_113 : decode cX11_again 113 = .ok (.imul, 1) := by decide +kernel
theorem dX11_again_114 : decode cX11_again 114 = .ok (.bipush 102, 2) := by decide +kernel
theorem dX11_again_116 : decode cX11_again 116 = .ok (.iadd, 1) := by decide +kernel
theorem dX11_again_117 : decode cX11_again 117 = .ok (.iload_n 2, 1) := by decide +kernel
theorem dX11_again_118 : decode cX11_again 118 = .ok (.iadd, 1) := by decide +kernel
theorem dX11_again_119 : decode cX11_again 119 = .ok (.iaload, 1) := by decide +kernel
theorem dX11_again_120 : decode cX11_again 120 = .ok (.iastore, 1) := by decide +kernel
theorem dX11_again_121 : decode cX11_again 121 = .ok (.aload_n 0, 1) := by decide +kernel
theorem dX11_again_122 : decode cX11_again 122 = .ok (.getfield 23, 3) := by decide +kernel
theorem dX11_again_125 : decode cX11_again 125 = .ok (.iload_n 2, 1) := by decide +kernel
theorem dX11_again_126 : decode cX11_again 126 = .ok (.aload_n 0, 1) := by decide +kernel
theorem dX11_again_127 : decode cX11_again 127 = .ok (.getfield 47, 3) := by decide +kernel
theorem dX11_again_130 : decode cX11_again 130 = .ok (.bipush 120, 2) := by decide +kernel
theorem dX11_again_132 : decode cX11_again 132 = .ok (.iload_n 1, 1) := by decide +kernel
theorem dX11_again_133 : decode cX11_again 133 = .ok (.imul, 1) := by decide +kernel
theorem dX11_again_134 : decode cX11_again 134 = .ok (.bipush 106, 2) := by decide +kernel
theorem dX11_again_136 : decode cX11_again 136 = .ok (.iadd, 1) := by decide +kernel
theorem dX11_again_137 : decode cX11_again 137 = .ok (.iload_n 2, 1) := by decide +kernel
theorem dX11_again_138 : decode cX11_again 138 = .ok (.iadd, 1) := by decide +kernel
theorem dX11_again_139 : decode cX11_again 139 = .ok (.iaload, 1) := by decide +kernel
theorem dX11_again_140 : decode cX11_again 140 = .ok (.iastore, 1) := by decide +kernel
theorem dX11_again_141 : decode cX11_again 141 = .ok (.iinc 2 1, 3) := by decide +kernel
theorem dX11_again_144 : decode cX11_again 144 = .ok (.goto (-48), 3) := by decide +kernel
theorem dX11_again_147 : decode cX11_again 147 = .ok (.aload_n 0, 1) := by decide +kernel
theorem dX11_again_148 : decode cX11_again 148 = .ok (.aload_n 0, 1) := by decide +kernel
theorem dX11_again_149 : decode cX11_again 149 = .ok (.getfield 47, 3) := by decide +kernel
theorem dX11_again_152 : decode cX11_again 152 = .ok (.bipush 120, 2) := by decide +kernel
theorem dX11_again_154 : decode cX11_again 154 = .ok (.iload_n 1, 1) := by decide +kernel
theorem dX11_again_155 : decode cX11_again 155 = .ok (.imul, 1) := by decide +kernel
theorem dX11_again_156 : decode cX11_again 156 = .ok (.bipush 110, 2) := by decide +kernel
theorem dX11_again_158 : decode cX11_again 158 = .ok (.iadd, 1) := by decide +kernel
theorem dX11_again_159 : decode cX11_again 159 = .ok (.iaload, 1) := by decide +kernel
theorem dX11_again_160 : decode cX11_again 160 = .ok (.putfield 13, 3) := by decide +kernel
theorem dX11_again_163 : decode cX11_again 163 = .ok (.aload_n 0, 1) := by decide +kernel
theorem dX11_again_164 : decode cX11_again 164 = .ok (.aload_n 0, 1) := by decide +kernel
theorem dX11_again_165 : decode cX11_again 165 = .ok (.getfield 47, 3) := by decide +kernel
theorem dX11_again_168 : decode cX11_again 168 = .ok (.bipush 120, 2) := by decide +kernel
theorem dX11_again_170 : decode cX11_again 170 = .ok (.iload_n 1, 1) := by decide +kernel
theorem dX11_again_171 : decode cX11_again 171 = .ok (.imul, 1) := by decide +kernel
theorem dX11_again_172 : decode cX11_again 172 = .ok (.bipush 111, 2) := by decide +kernel
theorem dX11_again_174 : decode cX11_again 174 = .ok (.iadd, 1) := by decide +kernel
theorem dX11_again_175 : decode cX11_again 175 = .ok (.iaload, 1) := by decide +kernel
theorem dX11_again_176 : decode cX11_again 176 = .ok (.putfield 121, 3) := by decide +kernel
theorem dX11_again_179 : decode cX11_again 179 = .ok (.aload_n 0, 1) := by decide +kernel
theorem dX11_again_180 : decode cX11_again 180 = .ok (.aload_n 0, 1) := by decide +kernel
theorem dX11_again_181 : decode cX11_again 181 = .ok (.getfield 47, 3) := by decide +kernel
theorem dX11_again_184 : decode cX11_again 184 = .ok (.bipush 120, 2) := by decide +kernel
theorem dX11_again_186 : decode cX11_again 186 = .ok (.iload_n 1, 1) := by decide +kernel
theorem dX11_again_187 : decode cX11_again 187 = .ok (.imul, 1) := by decide +kernel
theorem dX11_again_188 : decode cX11_again 188 = .ok (.bipush 112, 2) := by decide +kernel
theorem dX11_again_190 : decode cX11_again 190 = .ok (.iadd, 1) := by decide +kernel
theorem dX11_again_191 : decode cX11_again 191 = .ok (.iaload, 1) := by decide +kernel
theorem dX11_again_192 : decode cX11_again 192 = .ok (.putfield 124, 3) := by decide +kernel
theorem dX11_again_195 : decode cX11_again 195 = .ok (.aload_n 0, 1) := by decide +kernel
theorem dX11_again_196 : decode cX11_again 196 = .ok (.aload_n 0, 1) := by decide +kernel
theorem dX11_again_197 : decode cX11_again 197 = .ok (.getfield 47, 3) := by decide +kernel
theorem dX11_again_200 : decode cX11_again 200 = .ok (.bipush 120, 2) := by decide +kernel
theorem dX11_again_202 : decode cX11_again 202 = .ok (.iload_n 1, 1) := by decide +kernel
theorem dX11_again_203 : decode cX11_again 203 = .ok (.imul, 1) := by decide +kernel
theorem dX11_again_204 : decode cX11_again 204 = .ok (.bipush 113, 2) := by decide +kernel
theorem dX11_again_206 : decode cX11_again 206 = .ok (.iadd, 1) := by decide +kernel
theorem dX11_again_207 : decode cX11_again 207 = .ok (.iaload, 1) := by decide +kernel
theorem dX11_again_208 : decode cX11_again 208 = .ok (.putfield 127, 3) := by decide +kernel
theorem dX11_again_211 : decode cX11_again 211 = .ok (.aload_n 0, 1) := by decide +kernel
theorem dX11_again_212 : decode cX11_again 212 = .ok (.aload_n 0, 1) := by decide +kernel
theorem dX11_again_213 : decode cX11_again 213 = .ok (.getfield 47, 3) := by decide +kernel
theorem dX11_again_216 : decode cX11_again 216 = .ok (.bipush 120, 2) := by decide +kernel
theorem dX11_again_218 : decode cX11_again 218 = .ok (.iload_n 1, 1) := by decide +kernel
theorem dX11_again_219 : decode cX11_again 219 = .ok (.imul, 1) := by decide +kernel
theorem dX11_again_220 : decode cX11_again 220 = .ok (.bipush 114, 2) := by decide +kernel
theorem dX11_again_222 : decode cX11_again 222 = .ok (.iadd, 1) := by decide +kernel
theorem dX11_again_223 : decode cX11_again 223 = .ok (.iaload, 1) := by decide +kernel
theorem dX11_again_224 : decode cX11_again 224 = .ok (.putfield 130, 3) := by decide +kernel
theorem dX11_again_227 : decode cX11_again 227 = .ok (.aload_n 0, 1) := by decide +kernel
theorem dX11_again_228 : decode cX11_again 228 = .ok (.aload_n 0, 1) := by decide +kernel
theorem dX11_again_229 : decode cX11_again 229 = .ok (.getfield 47, 3) := by decide +kernel
theorem dX11_again_232 : decode cX11_again 232 = .ok (.bipush 120, 2) := by decide +kernel
theorem dX11_again_234 : decode cX11_again 234 = .ok (.iload_n 1, 1) := by decide +kernel
theorem dX11_again_235 : decode cX11_again 235 = .ok (.imul, 1) := by decide +kernel
theorem dX11_again_236 : decode cX11_again 236 = .ok (.bipush 115, 2) := by decide +kernel
theorem dX11_again_238 : decode cX11_again 238 = .ok (.iadd, 1) := by decide +kernel
theorem dX11_again_239 : decode cX11_again 239 = .ok (.iaload, 1) := by decide +kernel
theorem dX11_again_240 : decode cX11_again 240 = .ok (.putfield 133, 3) := by decide +kernel
theorem dX11_again_243 : decode cX11_again 243 = .ok (.aload_n 0, 1) := by decide +kernel
theorem dX11_again_244 : decode cX11_again 244 = .ok (.getfield 121, 3) := by decide +kernel
theorem dX11_again_247 : decode cX11_again 247 = .ok (.aload_n 0, 1) := by decide +kernel
theorem dX11_again_248 : decode cX11_again 248 = .ok (.getfield 124, 3) := by decide +kernel
theorem dX11_again_251 : decode cX11_again 251 = .ok (.iadd, 1) := by decide +kernel
theorem dX11_again_252 : decode cX11_again 252 = .ok (.ireturn, 1) := by decide +kernel
