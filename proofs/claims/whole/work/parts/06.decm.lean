theorem dX11_init_0 : decode cX11_init 0 = .ok (.aload_n 0, 1) := by decide +kernel
theorem dX11_init_1 : decode cX11_init 1 = .ok (.invokespecial 1, 3) := by decide +kernel
theorem dX11_init_4 : decode cX11_init 4 = .ok (.aload_n 0, 1) := by decide +kernel
theorem dX11_init_5 : decode cX11_init 5 = .ok (.sipush 300, 3) := by decide +kernel
theorem dX11_init_8 : decode cX11_init 8 = .ok (.newarray .int, 2) := by decide +kernel
theorem dX11_init_10 : decode cX11_init 10 = .ok (.putfield 7, 3) := by decide +kernel
theorem dX11_init_13 : decode cX11_init 13 = .ok (.aload_n 0, 1) := by decide +kernel
theorem dX11_init_14 : decode cX11_init 14 = .ok (.iconst 2, 1) := by decide +kernel
theorem dX11_init_15 : decode cX11_init 15 = .ok (.newarray .int, 2) := by decide +kernel
theorem dX11_init_17 : decode cX11_init 17 = .ok (.putfield 13, 3) := by decide +kernel
theorem dX11_init_20 : decode cX11_init 20 = .ok (.aload_n 0, 1) := by decide +kernel
theorem dX11_init_21 : decode cX11_init 21 = .ok (.bipush 40, 2) := by decide +kernel
theorem dX11_init_23 : decode cX11_init 23 = .ok (.newarray .int, 2) := by decide +kernel
theorem dX11_init_25 : decode cX11_init 25 = .ok (.putfield 16, 3) := by decide +kernel
theorem dX11_init_28 : decode cX11_init 28 = .ok (.aload_n 0, 1) := by decide +kernel
theorem dX11_init_29 : decode cX11_init 29 = .ok (.bipush 40, 2) := by decide +kernel
theorem dX11_init_31 : decode cX11_init 31 = .ok (.newarray .int, 2) := by decide +kernel
theorem dX11_init_33 : decode cX11_init 33 = .ok (.putfield 19, 3) := by decide +kernel
theorem dX11_init_36 : decode cX11_init 36 = .ok (.aload_n 0, 1) := by decide +kernel
theorem dX11_init_37 : decode cX11_init 37 = .ok (.bipush 40, 2) := by decide +kernel
theorem dX11_init_39 : decode cX11_init 39 = .ok (.newarray .int, 2) := by decide +kernel
theorem dX11_init_41 : decode cX11_init 41 = .ok (.putfield 22, 3) := by decide +kernel
theorem dX11_init_44 : decode cX11_init 44 = .ok (.aload_n 0, 1) := by decide +kernel
theorem dX11_init_45 : decode cX11_init 45 = .ok (.bipush 10, 2) := by decide +kernel
theorem dX11_init_47 : decode cX11_init 47 = .ok (.newarray .int, 2) := by decide +kernel
theorem dX11_init_49 : decode cX11_init 49 = .ok (.putfield 25, 3) := by decide +kernel
theorem dX11_init_52 : decode cX11_init 52 = .ok (.aload_n 0, 1) := by decide +kernel
theorem dX11_init_53 : decode cX11_init 53 = .ok (.iconst 3, 1) := by decide +kernel
theorem dX11_init_54 : decode cX11_init 54 = .ok (.newarray .int, 2) := by decide +kernel
theorem dX11_init_56 : decode cX11_init 56 = .ok (.putfield 28, 3) := by decide +kernel
theorem dX11_init_59 : decode cX11_init 59 = .ok (.aload_n 0, 1) := by decide +kernel
theorem dX11_init_60 : decode cX11_init 60 = .ok (.sipush 600, 3) := by decide +kernel
theorem dX11_init_63 : decode cX11_init 63 = .ok (.newarray .int, 2) := by decide +kernel
theorem dX11_init_65 : decode cX11_init 65 = .ok (.putfield 31, 3) := by decide +kernel
theorem dX11_init_68 : decode cX11_init 68 = .ok (.aload_n 0, 1) := by decide +kernel
theorem dX11_init_69 : decode cX11_init 69 = .ok (.sipush 600, 3) := by decide +kernel
theorem dX11_init_72 : decode cX11_init 72 = .ok (.newarray .int, 2) := by decide +kernel
theorem dX11_init_74 : decode cX11_init 74 = .ok (.putfield 34, 3) := by decide +kernel
theorem dX11_init_77 : decode cX11_init 77 = .ok (.aload_n 0, 1) := by decide +kernel
theorem dX11_init_78 : decode cX11_init 78 = .ok (.sipush 600, 3) := by decide +kernel
theorem dX11_init_81 : decode cX11_init 81 = .ok (.newarray .int, 2) := by decide +kernel
theorem dX11_init_83 : decode cX11_init 83 = .ok (.putfield 37, 3) := by decide +kernel
theorem dX11_init_86 : decode cX11_init 86 = .ok (.aload_n 0, 1) := by decide +kernel
theorem dX11_init_87 : decode cX11_init 87 = .ok (.sipush 600, 3) := by decide +kernel
theorem dX11_init_90 : decode cX11_init 90 = .ok (.newarray .int, 2) := by decide +kernel
theorem dX11_init_92 : decode cX11_init 92 = .ok (.putfield 40, 3) := by decide +kernel
theorem dX11_init_95 : decode cX11_init 95 = .ok (.aload_n 0, 1) := by decide +kernel
theorem dX11_init_96 : decode cX11_init 96 = .ok (.bipush 40, 2) := by decide +kernel
theorem dX11_init_98 : decode cX11_init 98 = .ok (.newarray .int, 2) := by decide +kernel
theorem dX11_init_100 : decode cX11_init 100 = .ok (.putfield 43, 3) := by decide +kernel
theorem dX11_init_103 : decode cX11_init 103 = .ok (.aload_n 0, 1) := by decide +kernel
theorem dX11_init_104 : decode cX11_init 104 = .ok (.iconst 2, 1) := by decide +kernel
theorem dX11_init_105 : decode cX11_init 105 = .ok (.newarray .int, 2) := by decide +kernel
theorem dX11_init_107 : decode cX11_init 107 = .ok (.putfield 46, 3) := by decide +kernel
theorem dX11_init_110 : decode cX11_init 110 = .ok (.aload_n 0, 1) := by decide +kernel
theorem dX11_init_111 : decode cX11_init 111 = .ok (.bipush 20, 2) := by decide +kernel
theorem dX11_init_113 : decode cX11_init 113 = .ok (.newarray .int, 2) := by decide +kernel
theorem dX11_init_115 : decode cX11_init 115 = .ok (.putfield 49, 3) := by decide +kernel
theorem dX11_init_118 : decode cX11_init 118 = .ok (.aload_n 0, 1) := by decide +kernel
theorem dX11_init_119 : decode cX11_init 119 = .ok (.bipush 10, 2) := by decide +kernel
theorem dX11_init_121 : decode cX11_init 121 = .ok (.newarray .int, 2) := by decide +kernel
theorem dX11_init_123 : decode cX11_init 123 = .ok (.putfield 52, 3) := by decide +kernel
theorem dX11_init_126 : decode cX11_init 126 = .ok (.aload_n 0, 1) := by decide +kernel
theorem dX11_init_127 : decode cX11_init 127 = .ok (.bipush 10, 2) := by decide +kernel
theorem dX11_init_129 : decode cX11_init 129 = .ok (.newarray .int, 2) := by decide +kernel
theorem dX11_init_131 : decode cX11_init 131 = .ok (.putfield 55, 3) := by decide +kernel
theorem dX11_init_134 : decode cX11_init 134 = .ok (.aload_n 0, 1) := by decide +kernel
theorem dX11_init_135 : decode cX11_init 135 = .ok (.bipush 20, 2) := by decide +kernel
theorem dX11_init_137 : decode cX11_init 137 = .ok (.newarray .int, 2) := by decide +kernel
theorem dX11_init_139 : decode cX11_init 139 = .ok (.putfield 58, 3) := by decide +kernel
theorem dX11_init_142 : decode cX11_init 142 = .ok (.aload_n 0, 1) := by decide +kernel
theorem dX11_init_143 : decode cX11_init 143 = .ok (.bipush 20, 2) := by decide +kernel
theorem dX11_init_145 : decode cX11_init 145 = .ok (.newarray .int, 2) := by decide +kernel
theorem dX11_init_147 : decode cX11_init 147 = .ok (.putfield 61, 3) := by decide +kernel
theorem dX11_init_150 : decode cX11_init 150 = .ok (.aload_n 0, 1) := by decide +kernel
theorem dX11_init_151 : decode cX11_init 151 = .ok (.bipush 12, 2) := by decide +kernel
theorem dX11_init_153 : decode cX11_init 153 = .ok (.newarray .int, 2) := by decide +kernel
theorem dX11_init_155 : decode cX11_init 155 = .ok (.putfield 64, 3) := by decide +kernel
theorem dX11_init_158 : decode cX11_init 158 = .ok (.aload_n 0, 1) := by decide +kernel
theorem dX11_init_159 : decode cX11_init 159 = .ok (.bipush 44, 2) := by decide +kernel
theorem dX11_init_161 : decode cX11_init 161 = .ok (.newarray .int, 2) := by decide +kernel
theorem dX11_init_163 : decode cX11_init 163 = .ok (.putfield 67, 3) := by decide +kernel
theorem dX11_init_166 : decode cX11_init 166 = .ok (.aload_n 0, 1) := by decide +kernel
theorem dX11_init_167 : decode cX11_init 167 = .ok (.iconst 4, 1) := by decide +kernel
theorem dX11_init_168 : decode cX11_init 168 = .ok (.newarray .int, 2) := by decide +kernel
theorem dX11_init_170 : decode cX11_init 170 = .ok (.putfield 70, 3) := by decide +kernel
theorem dX11_init_173 : decode cX11_init 173 = .ok (.aload_n 0, 1) := by decide +kernel
theorem dX11_init_174 : decode cX11_init 174 = .ok (.iconst 0, 1) := by decide +kernel
theorem dX11_init_175 : decode cX11_init 175 = .ok (.invokevirtual 73, 3) := by decide +kernel
theorem dX11_init_178 : decode cX11_init 178 = .ok (.aload_n 0, 1) := by decide +kernel
theorem dX11_init_179 : decode cX11_init 179 = .ok (.getfield 13, 3) := by decide +kernel
theorem dX11_init_182 : decode cX11_init 182 = .ok (.iconst 0, 1) := by decide +kernel
theorem dX11_init_183 : decode cX11_init 183 = .ok (.iconst 2, 1) := by decide +kernel
theorem dX11_init_184 : decode cX11_init 184 = .ok (.iastore, 1) := by decide +kernel
theorem dX11_init_185 : decode cX11_init 185 = .ok (.aload_n 0, 1) := by decide +kernel
theorem dX11_init_186 : decode cX11_init 186 = .ok (.getfield 19, 3) := by decide +kernel
theorem dX11_init_189 : decode cX11_init 189 = .ok (.iconst 0, 1) := by decide +kernel
theorem dX11_init_190 : decode cX11_init 190 = .ok (.bipush 9, 2) := by decide +kernel
theorem dX11_init_192 : decode cX11_init 192 = .ok (.iastore, 1) := by decide +kernel
theorem dX11_init_193 : decode cX11_init 193 = .ok (.aload_n 0, 1) := by decide +kernel
theorem dX11_init_194 : decode cX11_init 194 = .ok (.getfield 16, 3) := by decide +kernel
theorem dX11_init_197 : decode cX11_init 197 = .ok (.iconst 1, 1) := by decide +kernel
theorem dX11_init_198 : decode cX11_init 198 = .ok (.iconst 1, 1) := by decide +kernel
theorem dX11_init_199 : decode cX11_init 199 = .ok (.iastore, 1) := by decide +kernel
theorem dX11_init_200 : decode cX11_init 200 = .ok (.aload_n 0, 1) := by decide +kernel
theorem dX11_init_201 : decode cX11_init 201 = .ok (.getfield 19, 3) := by decide +kernel
theorem dX11_init_204 : decode cX11_init 204 = .ok (.iconst 1, 1) := by decide +kernel
theorem dX11_init_205 : decode cX11_init 205 = .ok (.iconst 1, 1) := by decide +kernel
theorem dX11_init_206 : decode cX11_init 206 = .ok (.iastore, 1) := by decide +kernel
theorem dX11_init_207 : decode cX11_init 207 = .ok (.return_, 1) := by decide +kernel
theorem dX11_in_0 : decode cX11_in 0 = .ok (.lload_n 0, 1) := by decide +kernel
theorem dX11_in_1 : decode cX11_in 1 = .ok (.lload_n 2, 1) := by decide +kernel
theorem dX11_in_2 : decode cX11_in 2 = .ok (.lcmp, 1) := by decide +kernel
theorem dX11_in_3 : decode cX11_in 3 = .ok (.ifCond .lt 14, 3) := by decide +kernel
theorem dX11_in_6 : decode cX11_in 6 = .ok (.lload_n 0, 1) := by decide +kernel
theorem dX11_in_7 : decode cX11_in 7 = .ok (.lload 4, 2) := by decide +kernel
theorem dX11_in_9 : decode cX11_in 9 = .ok (.lcmp, 1) := by decide +kernel
theorem dX11_in_10 : decode cX11_in 10 = .ok (.ifCond .gt 7, 3) := by decide +kernel
theorem dX11_in_13 : decode cX11_in 13 = .ok (.iconst 1, 1) := by decide +kernel
theorem dX11_in_14 : decode cX11_in 14 = .ok (.goto 4, 3) := by decide +kernel
theorem dX11_in_17 : decode cX11_in 17 = .ok (.iconst 0, 1) := by decide +kernel
theorem dX11_in_18 : decode cX11_in 18 = .ok (.ireturn, 1) := by decide +kernel
theorem dX11_noRoom_0 : decode cX11_noRoom 0 = .ok (.aload_n 0, 1) := by decide +kernel
theorem dX11_noRoom_1 : decode cX11_noRoom 1 = .ok (.getfield 13, 3) := by decide +kernel
theorem dX11_noRoom_4 : decode cX11_noRoom 4 = .ok (.iload_n 1, 1) := by decide +kernel
theorem dX11_noRoom_5 : decode cX11_noRoom 5 = .ok (.iconst 0, 1) := by decide +kernel
theorem dX11_noRoom_6 : decode cX11_noRoom 6 = .ok (.iastore, 1) := by decide +kernel
theorem dX11_noRoom_7 : decode cX11_noRoom 7 = .ok (.aload_n 0, 1) := by decide +kernel
theorem dX11_noRoom_8 : decode cX11_noRoom 8 = .ok (.getfield 25, 3) := by decide +kernel
theorem dX11_noRoom_11 : decode cX11_noRoom 11 = .ok (.iconst 5, 1) := by decide +kernel
theorem dX11_noRoom_12 : decode cX11_noRoom 12 = .ok (.iload_n 1, 1) := by decide +kernel
theorem dX11_noRoom_13 : decode cX11_noRoom 13 = .ok (.imul, 1) := by decide +kernel
theorem dX11_noRoom_14 : decode cX11_noRoom 14 = .ok (.bipush 60, 2) := by decide +kernel
theorem dX11_noRoom_16 : decode cX11_noRoom 16 = .ok (.iastore, 1) := by decide +kernel
theorem dX11_noRoom_17 : decode cX11_noRoom 17 = .ok (.aload_n 0, 1) := by decide +kernel
theorem dX11_noRoom_18 : decode cX11_noRoom 18 = .ok (.getfield 25, 3) := by decide +kernel
theorem dX11_noRoom_21 : decode cX11_noRoom 21 = .ok (.iconst 5, 1) := by decide +kernel
theorem dX11_noRoom_22 : decode cX11_noRoom 22 = .ok (.iload_n 1, 1) := by decide +kernel
theorem dX11_noRoom_23 : decode cX11_noRoom 23 = .ok (.imul, 1) := by decide +kernel
theorem dX11_noRoom_24 : decode cX11_noRoom 24 = .ok (.iconst 1, 1) := by decide +kernel
theorem dX11_noRoom_25 : decode cX11_noRoom 25 = .ok (.iadd, 1) := by decide +kernel
theorem dX11_noRoom_26 : decode cX11_noRoom 26 = .ok (.iconst 0, 1) := by decide +kernel
theorem dX11_noRoom_27 : decode cX11_noRoom 27 = .ok (.iastore, 1) := by decide +kernel
theorem dX11_noRoom_28 : decode cX11_noRoom 28 = .ok (.aload_n 0, 1) := by decide +kernel
theorem dX11_noRoom_29 : decode cX11_noRoom 29 = .ok (.getfield 25, 3) := by decide +kernel
theorem dX11_noRoom_32 : decode cX11_noRoom 32 = .ok (.iconst 5, 1) := by decide +kernel
theorem dX11_noRoom_33 : decode cX11_noRoom 33 = .ok (.iload_n 1, 1) := by decide +kernel
theorem dX11_noRoom_34 : decode cX11_noRoom 34 = .ok (.imul, 1) := by decide +kernel
theorem dX11_noRoom_35 : decode cX11_noRoom 35 = .ok (.iconst 2, 1) := by decide +kernel
theorem dX11_noRoom_36 : decode cX11_noRoom 36 = .ok (.iadd, 1) := by decide +kernel
theorem dX11_noRoom_37 : decode cX11_noRoom 37 = .ok (.bipush 99, 2) := by decide +kernel
theorem dX11_noRoom_39 : decode cX11_noRoom 39 = .ok (.iastore, 1) := by decide +kernel
theorem dX11_noRoom_40 : decode cX11_noRoom 40 = .ok (.aload_n 0, 1) := by decide +kernel
theorem dX11_noRoom_41 : decode cX11_noRoom 41 = .ok (.getfield 25, 3) := by decide +kernel
theorem dX11_noRoom_44 : decode cX11_noRoom 44 = .ok (.iconst 5, 1) := by decide +kernel
theorem dX11_noRoom_45 : decode cX11_noRoom 45 = .ok (.iload_n 1, 1) := by decide +kernel
theorem dX11_noRoom_46 : decode cX11_noRoom 46 = .ok (.imul, 1) := by decide +kernel
theorem dX11_noRoom_47 : decode cX11_noRoom 47 = .ok (.iconst 3, 1) := by decide +kernel
theorem dX11_noRoom_48 : decode cX11_noRoom 48 = .ok (.iadd, 1) := by decide +kernel
theorem dX11_noRoom_49 : decode cX11_noRoom 49 = .ok (.iconst 5, 1) := by decide +kernel
theorem dX11_noRoom_50 : decode cX11_noRoom 50 = .ok (.iastore, 1) := by decide +kernel
theorem dX11_noRoom_51 : decode cX11_noRoom 51 = .ok (.aload_n 0, 1) := by decide +kernel
theorem dX11_noRoom_52 : decode cX11_noRoom 52 = .ok (.getfield 25, 3) := by decide +kernel
theorem dX11_noRoom_55 : decode cX11_noRoom 55 = .ok (.iconst 5, 1) := by decide +kernel
theorem dX11_noRoom_56 : decode cX11_noRoom 56 = .ok (.iload_n 1, 1) := by decide +kernel
theorem dX11_noRoom_57 : decode cX11_noRoom 57 = .ok (.imul, 1) := by decide +kernel
theorem dX11_noRoom_58 : decode cX11_noRoom 58 = .ok (.iconst 4, 1) := by decide +kernel
theorem dX11_noRoom_59 : decode cX11_noRoom 59 = .ok (.iadd, 1) := by decide +kernel
theorem dX11_noRoom_60 : decode cX11_noRoom 60 = .ok (.bipush 50, 2) := by decide +kernel
theorem dX11_noRoom_62 : decode cX11_noRoom 62 = .ok (.iastore, 1) := by decide +kernel
theorem dX11_noRoom_63 : decode cX11_noRoom 63 = .ok (.return_, 1) := by decide +kernel
theorem dX11_write_0 : decode cX11_write 0 = .ok (.iload_n 1, 1) := by decide +kernel
theorem dX11_write_1 : decode cX11_write 1 = .ok (.i2l, 1) := by decide +kernel
theorem dX11_write_2 : decode cX11_write 2 = .ok (.lconst 1, 1) := by decide +kernel
theorem dX11_write_3 : decode cX11_write 3 = .ok (.ldc2_w 77, 3) := by decide +kernel
theorem dX11_write_6 : decode cX11_write 6 = .ok (.invokestatic 79, 3) := by decide +kernel
theorem dX11_write_9 : decode cX11_write 9 = .ok (.ifCond .ne 5, 3) := by decide +kernel
theorem dX11_write_12 : decode cX11_write 12 = .ok (.iconst (-1), 1) := by decide +kernel
theorem dX11_write_13 : decode cX11_write 13 = .ok (.ireturn, 1) := by decide +kernel
theorem dX11_write_14 : decode cX11_write 14 = .ok (.aload_n 0, 1) := by decide +kernel
theorem dX11_write_15 : decode cX11_write 15 = .ok (.getfield 83, 3) := by decide +kernel
theorem dX11_write_18 : decode cX11_write 18 = .ok (.iload_n 1, 1) := by decide +kernel
theorem dX11_write_19 : decode cX11_write 19 = .ok (.iadd, 1) := by decide +kernel
theorem dX11_write_20 : decode cX11_write 20 = .ok (.sipush 300, 3) := by decide +kernel
theorem dX11_write_23 : decode cX11_write 23 = .ok (.if_icmp .le 6, 3) := by decide +kernel
theorem dX11_write_26 : decode cX11_write 26 = .ok (.bipush (-3), 2) := by decide +kernel
theorem dX11_write_28 : decode cX11_write 28 = .ok (.ireturn, 1) := by decide +kernel
theorem dX11_write_29 : decode cX11_write 29 = .ok (.iload_n 1, 1) := by decide +kernel
theorem dX11_write_30 : decode cX11_write 30 = .ok (.iconst 1, 1) := by decide +kernel
theorem dX11_write_31 : decode cX11_write 31 = .ok (.isub, 1) := by decide +kernel
theorem dX11_write_32 : decode cX11_write 32 = .ok (.istore 4, 2) := by decide +kernel
theorem dX11_write_34 : decode cX11_write 34 = .ok (.iload 4, 2) := by decide +kernel
theorem dX11_write_36 : decode cX11_write 36 = .ok (.ifCond .lt 40, 3) := by decide +kernel
theorem dX11_write_39 : decode cX11_write 39 = .ok (.aload_n 0, 1) := by decide +kernel
theorem dX11_write_40 : decode cX11_write 40 = .ok (.getfield 7, 3) := by decide +kernel
theorem dX11_write_43 : decode cX11_write 43 = .ok (.aload_n 0, 1) := by decide +kernel
theorem dX11_write_44 : decode cX11_write 44 = .ok (.getfield 83, 3) := by decide +kernel
theorem dX11_write_47 : decode cX11_write 47 = .ok (.lload_n 2, 1) := by decide +kernel
theorem dX11_write_48 : decode cX11_write 48 = .ok (.bipush 8, 2) := by decide +kernel
theorem dX11_write_50 : decode cX11_write 50 = .ok (.iload 4, 2) := by decide +kernel
theorem dX11_write_52 : decode cX11_write 52 = .ok (.imul, 1) := by decide +kernel
theorem dX11_write_53 : decode cX11_write 53 = .ok (.lshr, 1) := by decide +kernel
theorem dX11_write_54 : decode cX11_write 54 = .ok (.ldc2_w 87, 3) := by decide +kernel
theorem dX11_write_57 : decode cX11_write 57 = .ok (.land, 1) := by decide +kernel
theorem dX11_write_58 : decode cX11_write 58 = .ok (.l2i, 1) := by decide +kernel
theorem dX11_write_59 : decode cX11_write 59 = .ok (.iastore, 1) := by decide +kernel
theorem dX11_write_60 : decode cX11_write 60 = .ok (.aload_n 0, 1) := by decide +kernel
theorem dX11_write_61 : decode cX11_write 61 = .ok (.dup, 1) := by decide +kernel
theorem dX11_write_62 : decode cX11_write 62 = .ok (.getfield 83, 3) := by decide +kernel
theorem dX11_write_65 : decode cX11_write 65 = .ok (.iconst 1, 1) := by decide +kernel
theorem dX11_write_66 : decode cX11_write 66 = .ok (.iadd, 1) := by decide +kernel
theorem dX11_write_67 : decode cX11_write 67 = .ok (.putfield 83, 3) := by decide +kernel
theorem dX11_write_70 : decode cX11_write 70 = .ok (.iinc 4 (-1), 3) := by decide +kernel
theorem dX11_write_73 : decode cX11_write 73 = .ok (.goto (-39), 3) := by decide +kernel
theorem dX11_write_76 : decode cX11_write 76 = .ok (.aload_n 0, 1) := by decide +kernel
theorem dX11_write_77 : decode cX11_write 77 = .ok (.getfield 83, 3) := by decide +kernel
theorem dX11_write_80 : decode cX11_write 80 = .ok (.ireturn, 1) := by decide +kernel
theorem dX11_wipe_0 : decode cX11_wipe 0 = .ok (.aload_n 0, 1) := by decide +kernel
theorem dX11_wipe_1 : decode cX11_wipe 1 = .ok (.getfield 83, 3) := by decide +kernel
theorem dX11_wipe_4 : decode cX11_wipe 4 = .ok (.istore_n 1, 1) := by decide +kernel
theorem dX11_wipe_5 : decode cX11_wipe 5 = .ok (.aload_n 0, 1) := by decide +kernel
theorem dX11_wipe_6 : decode cX11_wipe 6 = .ok (.iconst 0, 1) := by decide +kernel
theorem dX11_wipe_7 : decode cX11_wipe 7 = .ok (.putfield 83, 3) := by decide +kernel
theorem dX11_wipe_10 : decode cX11_wipe 10 = .ok (.iload_n 1, 1) := by decide +kernel
theorem dX11_wipe_11 : decode cX11_wipe 11 = .ok (.ireturn, 1) := by decide +kernel
theorem dX11_byteAt_0 : decode cX11_byteAt 0 = .ok (.iload_n 1, 1) := by decide +kernel
theorem dX11_byteAt_1 : decode cX11_byteAt 1 = .ok (.aload_n 0, 1) := by decide +kernel
theorem dX11_byteAt_2 : decode cX11_byteAt 2 = .ok (.getfield 83, 3) := by decide +kernel
theorem dX11_byteAt_5 : decode cX11_byteAt 5 = .ok (.if_icmp .ge 12, 3) := by decide +kernel
theorem dX11_byteAt_8 : decode cX11_byteAt 8 = .ok (.aload_n 0, 1) := by decide +kernel
theorem dX11_byteAt_9 : decode cX11_byteAt 9 = .ok (.getfield 7, 3) := by decide +kernel
theorem dX11_byteAt_12 : decode cX11_byteAt 12 = .ok (.iload_n 1, 1) := by decide +kernel
theorem dX11_byteAt_13 : decode cX11_byteAt 13 = .ok (.iaload, 1) := by decide +kernel
theorem dX11_byteAt_14 : decode cX11_byteAt 14 = .ok (.goto 4, 3) := by decide +kernel
theorem dX11_byteAt_17 : decode cX11_byteAt 17 = .ok (.iconst 0, 1) := by decide +kernel
theorem dX11_byteAt_18 : decode cX11_byteAt 18 = .ok (.ireturn, 1) := by decide +kernel
theorem dX11_figures_0 : decode cX11_figures 0 = .ok (.iconst 0, 1) := by decide +kernel
theorem dX11_figures_1 : decode cX11_figures 1 = .ok (.istore_n 2, 1) := by decide +kernel
theorem dX11_figures_2 : decode cX11_figures 2 = .ok (.iload_n 2, 1) := by decide +kernel
theorem dX11_figures_3 : decode cX11_figures 3 = .ok (.iload_n 1, 1) := by decide +kernel
theorem dX11_figures_4 : decode cX11_figures 4 = .ok (.if_icmp .ge 132, 3) := by decide +kernel
theorem dX11_figures_7 : decode cX11_figures 7 = .ok (.iconst 0, 1) := by decide +kernel
theorem dX11_figures_8 : decode cX11_figures 8 = .ok (.istore_n 3, 1) := by decide +kernel
theorem dX11_figures_9 : decode cX11_figures 9 = .ok (.iconst 0, 1) := by decide +kernel
theorem dX11_figures_10 : decode cX11_figures 10 = .ok (.istore 4, 2) := by decide +kernel
theorem dX11_figures_12 : decode cX11_figures 12 = .ok (.aload_n 0, 1) := by decide +kernel
theorem dX11_figures_13 : decode cX11_figures 13 = .ok (.aload_n 0, 1) := by decide +kernel
theorem dX11_figures_14 : decode cX11_figures 14 = .ok (.getfield 89, 3) := by decide +kernel
theorem dX11_figures_17 : decode cX11_figures 17 = .ok (.invokevirtual 92, 3) := by decide +kernel
theorem dX11_figures_20 : decode cX11_figures 20 = .ok (.i2l, 1) := by decide +kernel
theorem dX11_figures_21 : decode cX11_figures 21 = .ok (.ldc2_w 96, 3) := by decide +kernel
theorem dX11_figures_24 : decode cX11_figures 24 = .ok (.ldc2_w 98, 3) := by decide +kernel
theorem dX11_figures_27 : decode cX11_figures 27 = .ok (.invokestatic 79, 3) := by decide +kernel
theorem dX11_figures_30 : decode cX11_figures 30 = .ok (.ifCond .eq 43, 3) := by decide +kernel
theorem dX11_figures_33 : decode cX11_figures 33 = .ok (.iload_n 3, 1) := by decide +kernel
theorem dX11_figures_34 : decode cX11_figures 34 = .ok (.iconst 4, 1) := by decide +kernel
theorem dX11_figures_35 : decode cX11_figures 35 = .ok (.if_icmp .ge 38, 3) := by decide +kernel
theorem dX11_figures_38 : decode cX11_figures 38 = .ok (.bipush 10, 2) := by decide +kernel
theorem dX11_figures_40 : decode cX11_figures 40 = .ok (.iload 4, 2) := by decide +kernel
theorem dX11_figures_42 : decode cX11_figures 42 = .ok (.imul, 1) := by decide +kernel
theorem dX11_figures_43 : decode cX11_figures 43 = .ok (.aload_n 0, 1) := by decide +kernel
theorem dX11_figures_44 : decode cX11_figures 44 = .ok (.aload_n 0, 1) := by decide +kernel
theorem dX11_figures_45 : decode cX11_figures 45 = .ok (.getfield 89, 3) := by decide +kernel
theorem dX11_figures_48 : decode cX11_figures 48 = .ok (.invokevirtual 92, 3) := by decide +kernel
theorem dX11_figures_51 : decode cX11_figures 51 = .ok (.iadd, 1) := by decide +kernel
theorem dX11_figures_52 : decode cX11_figures 52 = .ok (.bipush 48, 2) := by decide +kernel
theorem dX11_figures_54 : decode cX11_figures 54 = .ok (.isub, 1) := by decide +kernel
theorem dX11_figures_55 : decode cX11_figures 55 = .ok (.istore 4, 2) := by decide +kernel
theorem dX11_figures_57 : decode cX11_figures 57 = .ok (.iinc 3 1, 3) := by decide +kernel
theorem dX11_figures_60 : decode cX11_figures 60 = .ok (.aload_n 0, 1) := by decide +kernel
theorem dX11_figures_61 : decode cX11_figures 61 = .ok (.dup, 1) := by decide +kernel
theorem dX11_figures_62 : decode cX11_figures 62 = .ok (.getfield 89, 3) := by decide +kernel
theorem dX11_figures_65 : decode cX11_figures 65 = .ok (.iconst 1, 1) := by decide +kernel
theorem dX11_figures_66 : decode cX11_figures 66 = .ok (.iadd, 1) := by decide +kernel
theorem dX11_figures_67 : decode cX11_figures 67 = .ok (.putfield 89, 3) := by decide +kernel
theorem dX11_figures_70 : decode cX11_figures 70 = .ok (.goto (-58), 3) := by decide +kernel
theorem dX11_figures_73 : decode cX11_figures 73 = .ok (.iload_n 3, 1) := by decide +kernel
theorem dX11_figures_74 : decode cX11_figures 74 = .ok (.i2l, 1) := by decide +kernel
theorem dX11_figures_75 : decode cX11_figures 75 = .ok (.lconst 1, 1) := by decide +kernel
theorem dX11_figures_76 : decode cX11_figures 76 = .ok (.ldc2_w 100, 3) := by decide +kernel
theorem dX11_figures_79 : decode cX11_figures 79 = .ok (.invokestatic 79, 3) := by decide +kernel
theorem dX11_figures_82 : decode cX11_figures 82 = .ok (.ifCond .eq 28, 3) := by decide +kernel
theorem dX11_figures_85 : decode cX11_figures 85 = .ok (.aload_n 0, 1) := by decide +kernel
theorem dX11_figures_86 : decode cX11_figures 86 = .ok (.aload_n 0, 1) := by decide +kernel
theorem dX11_figures_87 : decode cX11_figures 87 = .ok (.getfield 89, 3) := by decide +kernel
theorem dX11_figures_90 : decode cX11_figures 90 = .ok (.invokevirtual 92, 3) := by decide +kernel
theorem dX11_figures_93 : decode cX11_figures 93 = .ok (.iload_n 2, 1) := by decide +kernel
theorem dX11_figures_94 : decode cX11_figures 94 = .ok (.iload_n 1, 1) := by decide +kernel
theorem dX11_figures_95 : decode cX11_figures 95 = .ok (.iconst 1, 1) := by decide +kernel
theorem dX11_figures_96 : decode cX11_figures 96 = .ok (.isub, 1) := by decide +kernel
theorem dX11_figures_97 : decode cX11_figures 97 = .ok (.if_icmp .ge 8, 3) := by decide +kernel
theorem dX11_figures_100 : decode cX11_figures 100 = .ok (.bipush 44, 2) := by decide +kernel
theorem dX11_figures_102 : decode cX11_figures 102 = .ok (.goto 5, 3) := by decide +kernel
theorem dX11_figures_105 : decode cX11_figures 105 = .ok (.bipush 59, 2) := by decide +kernel
theorem dX11_figures_107 : decode cX11_figures 107 = .ok (.if_icmp .eq 5, 3) := by decide +kernel
theorem dX11_figures_110 : decode cX11_figures 110 = .ok (.iconst 0, 1) := by decide +kernel
theorem dX11_figures_111 : decode cX11_figures 111 = .ok (.ireturn, 1) := by decide +kernel
theorem dX11_figures_112 : decode cX11_figures 112 = .ok (.aload_n 0, 1) := by decide +kernel
theorem dX11_figures_113 : decode cX11_figures 113 = .ok (.getfield 46, 3) := by decide +kernel
theorem dX11_figures_116 : decode cX11_figures 116 = .ok (.iload_n 2, 1) := by decide +kernel
theorem dX11_figures_117 : decode cX11_figures 117 = .ok (.iload 4, 2) := by decide +kernel
theorem dX11_figures_119 : decode cX11_figures 119 = .ok (.iastore, 1) := by decide +kernel
theorem dX11_figures_120 : decode cX11_figures 120 = .ok (.aload_n 0, 1) := by decide +kernel
theorem dX11_figures_121 : decode cX11_figures 121 = .ok (.dup, 1) := by decide +kernel
theorem dX11_figures_122 : decode cX11_figures 122 = .ok (.getfield 89, 3) := by decide +kernel
theorem dX11_figures_125 : decode cX11_figures 125 = .ok (.iconst 1, 1) := by decide +kernel
theorem dX11_figures_126 : decode cX11_figures 126 = .ok (.iadd, 1) := by decide +kernel
theorem dX11_figures_127 : decode cX11_figures 127 = .ok (.putfield 89, 3) := by decide +kernel
theorem dX11_figures_130 : decode cX11_figures 130 = .ok (.iinc 2 1, 3) := by decide +kernel
theorem dX11_figures_133 : decode cX11_figures 133 = .ok (.goto (-131), 3) := by decide +kernel
theorem dX11_figures_136 : decode cX11_figures 136 = .ok (.iconst 1, 1) := by decide +kernel
theorem dX11_figures_137 : decode cX11_figures 137 = .ok (.ireturn, 1) := by decide +kernel
theorem dX11_readMany_0 : decode cX11_readMany 0 = .ok (.iconst 0, 1) := by decide +kernel
theorem dX11_readMany_1 : decode cX11_readMany 1 = .ok (.istore_n 2, 1) := by decide +kernel
theorem dX11_readMany_2 : decode cX11_readMany 2 = .ok (.iconst 0, 1) := by decide +kernel
theorem dX11_readMany_3 : decode cX11_readMany 3 = .ok (.istore_n 3, 1) := by decide +kernel
theorem dX11_readMany_4 : decode cX11_readMany 4 = .ok (.iload_n 3, 1) := by decide +kernel
theorem dX11_readMany_5 : decode cX11_readMany 5 = .ok (.aload_n 0, 1) := by decide +kernel
theorem dX11_readMany_6 : decode cX11_readMany 6 = .ok (.getfield 13, 3) := by decide +kernel
theorem dX11_readMany_9 : decode cX11_readMany 9 = .ok (.iconst 1, 1) := by decide +kernel
theorem dX11_readMany_10 : decode cX11_readMany 10 = .ok (.iaload, 1) := by decide +kernel
theorem dX11_readMany_11 : decode cX11_readMany 11 = .ok (.if_icmp .ge 30, 3) := by decide +kernel
theorem dX11_readMany_14 : decode cX11_readMany 14 = .ok (.iload_n 2, 1) := by decide +kernel
theorem dX11_readMany_15 : decode cX11_readMany 15 = .ok (.aload_n 0, 1) := by decide +kernel
theorem dX11_readMany_16 : decode cX11_readMany 16 = .ok (.getfield 16, 3) := by decide +kernel
theorem dX11_readMany_19 : decode cX11_readMany 19 = .ok (.bipush 20, 2) := by decide +kernel
theorem dX11_readMany_21 : decode cX11_readMany 21 = .ok (.iload_n 3, 1) := by decide +kernel
theorem dX11_readMany_22 : decode cX11_readMany 22 = .ok (.iadd, 1) := by decide +kernel
theorem dX11_readMany_23 : decode cX11_readMany 23 = .ok (.iaload, 1) := by decide +kernel
theorem dX11_readMany_24 : decode cX11_readMany 24 = .ok (.iload_n 1, 1) := by decide +kernel
theorem dX11_readMany_25 : decode cX11_readMany 25 = .ok (.if_icmp .ne 7, 3) := by decide +kernel
theorem dX11_readMany_28 : decode cX11_readMany 28 = .ok (.iconst 1, 1) := by decide +kernel
theorem dX11_readMany_29 : decode cX11_readMany 29 = .ok (.goto 4, 3) := by decide +kernel
theorem dX11_readMany_32 : decode cX11_readMany 32 = .ok (.iconst 0, 1) := by decide +kernel
theorem dX11_readMany_33 : decode cX11_readMany 33 = .ok (.iadd, 1) := by decide +kernel
theorem dX11_readMany_34 : decode cX11_readMany 34 = .ok (.istore_n 2, 1) := by decide +kernel
theorem dX11_readMany_35 : decode cX11_readMany 35 = .ok (.iinc 3 1, 3) := by decide +kernel
theorem dX11_readMany_38 : decode cX11_readMany 38 = .ok (.goto (-34), 3) := by decide +kernel
theorem dX11_readMany_41 : decode cX11_readMany 41 = .ok (.iload_n 2, 1) := by decide +kernel
theorem dX11_readMany_42 : decode cX11_readMany 42 = .ok (.ireturn, 1) := by decide +kernel
theorem dX11_personItem_0 : decode cX11_personItem 0 = .ok (.aload_n 0, 1) := by decide +kernel
theorem dX11_personItem_1 : decode cX11_personItem 1 = .ok (.iconst 2, 1) := by decide +kernel
theorem dX11_personItem_2 : decode cX11_personItem 2 = .ok (.invokevirtual 102, 3) := by decide +kernel
theorem dX11_personItem_5 : decode cX11_personItem 5 = .ok (.ifCond .eq 34, 3) := by decide +kernel
theorem dX11_personItem_8 : decode cX11_personItem 8 = .ok (.aload_n 0, 1) := by decide +kernel
theorem dX11_personItem_9 : decode cX11_personItem 9 = .ok (.iload_n 1, 1) := by decide +kernel
theorem dX11_personItem_10 : decode cX11_personItem 10 = .ok (.invokevirtual 106, 3) := by decide +kernel
theorem dX11_personItem_13 : decode cX11_personItem 13 = .ok (.bipush 10, 2) := by decide +kernel
theorem dX11_personItem_15 : decode cX11_personItem 15 = .ok (.if_icmp .eq 24, 3) := by decide +kernel
theorem dX11_personItem_18 : decode cX11_personItem 18 = .ok (.aload_n 0, 1) := by decide +kernel
theorem dX11_personItem_19 : decode cX11_personItem 19 = .ok (.getfield 46, 3) := by decide +kernel
theorem dX11_personItem_22 : decode cX11_personItem 22 = .ok (.iconst 0, 1) := by decide +kernel
theorem dX11_personItem_23 : decode cX11_personItem 23 = .ok (.iaload, 1) := by decide +kernel
theorem dX11_personItem_24 : decode cX11_personItem 24 = .ok (.bipush 99, 2) := by decide +kernel
theorem dX11_personItem_26 : decode cX11_personItem 26 = .ok (.if_icmp .gt 13, 3) := by decide +kernel
theorem dX11_personItem_29 : decode cX11_personItem 29 = .ok (.aload_n 0, 1) := by decide +kernel
theorem dX11_personItem_30 : decode cX11_personItem 30 = .ok (.getfield 46, 3) := by decide +kernel
theorem dX11_personItem_33 : decode cX11_personItem 33 = .ok (.iconst 1, 1) := by decide +kernel
theorem dX11_personItem_34 : decode cX11_personItem 34 = .ok (.iaload, 1) := by decide +kernel
theorem dX11_personItem_35 : decode cX11_personItem 35 = .ok (.iconst 5, 1) := by decide +kernel
theorem dX11_personItem_36 : decode cX11_personItem 36 = .ok (.if_icmp .le 5, 3) := by decide +kernel
theorem dX11_personItem_39 : decode cX11_personItem 39 = .ok (.iconst 0, 1) := by decide +kernel
theorem dX11_personItem_40 : decode cX11_personItem 40 = .ok (.ireturn, 1) := by decide +kernel
theorem dX11_personItem_41 : decode cX11_personItem 41 = .ok (.aload_n 0, 1) := by decide +kernel
theorem dX11_personItem_42 : decode cX11_personItem 42 = .ok (.getfield 16, 3) := by decide +kernel
theorem dX11_personItem_45 : decode cX11_personItem 45 = .ok (.bipush 20, 2) := by decide +kernel
theorem dX11_personItem_47 : decode cX11_personItem 47 = .ok (.aload_n 0, 1) := by decide +kernel
theorem dX11_personItem_48 : decode cX11_personItem 48 = .ok (.getfield 13, 3) := by decide +kernel
theorem dX11_personItem_51 : decode cX11_personItem 51 = .ok (.iconst 1, 1) := by decide +kernel
theorem dX11_personItem_52 : decode cX11_personItem 52 = .ok (.iaload, 1) := by decide +kernel
theorem dX11_personItem_53 : decode cX11_personItem 53 = .ok (.iadd, 1) := by decide +kernel
theorem dX11_personItem_54 : decode cX11_personItem 54 = .ok (.iload_n 1, 1) := by decide +kernel
theorem dX11_personItem_55 : decode cX11_personItem 55 = .ok (.iastore, 1) := by decide +kernel
theorem dX11_personItem_56 : decode cX11_personItem 56 = .ok (.aload_n 0, 1) := by decide +kernel
theorem dX11_personItem_57 : decode cX11_personItem 57 = .ok (.getfield 19, 3) := by decide +kernel
theorem dX11_personItem_60 : decode cX11_personItem 60 = .ok (.bipush 20, 2) := by decide +kernel
theorem dX11_personItem_62 : decode cX11_personItem 62 = .ok (.aload_n 0, 1) := by decide +kernel
theorem dX11_personItem_63 : decode cX11_personItem 63 = .ok (.getfield 13, 3) := by decide +kernel
theorem dX11_personItem_66 : decode cX11_personItem 66 = .ok (.iconst 1, 1) := by decide +kernel
theorem dX11_personItem_67 : decode cX11_personItem 67 = .ok (.iaload, 1) := by decide +kernel
theorem dX11_personItem_68 : decode cX11_personItem 68 = .ok (.iadd, 1) := by decide +kernel
theorem dX11_personItem_69 : decode cX11_personItem 69 = .ok (.aload_n 0, 1) := by decide +kernel
theorem dX11_personItem_70 : decode cX11_personItem 70 = .ok (.getfield 46, 3) := by decide +kernel
theorem dX11_personItem_73 : decode cX11_personItem 73 = .ok (.iconst 0, 1) := by decide +kernel
theorem dX11_personItem_74 : decode cX11_personItem 74 = .ok (.iaload, 1) := by decide +kernel
theorem dX11_personItem_75 : decode cX11_personItem 75 = .ok (.iastore, 1) := by decide +kernel
theorem dX11_personItem_76 : decode cX11_personItem 76 = .ok (.aload_n 0, 1) := by decide +kernel
theorem dX11_personItem_77 : decode cX11_personItem 77 = .ok (.getfield 22, 3) := by decide +kernel
theorem dX11_personItem_80 : decode cX11_personItem 80 = .ok (.bipush 20, 2) := by decide +kernel
theorem dX11_personItem_82 : decode cX11_personItem 82 = .ok (.aload_n 0, 1) := by decide +kernel
theorem dX11_personItem_83 : decode cX11_personItem 83 = .ok (.getfield 13, 3) := by decide +kernel
theorem dX11_personItem_86 : decode cX11_personItem 86 = .ok (.iconst 1, 1) := by decide +kernel
theorem dX11_personItem_87 : decode cX11_personItem 87 = .ok (.iaload, 1) := by decide +kernel
theorem dX11_personItem_88 : decode cX11_personItem 88 = .ok (.iadd, 1) := by decide +kernel
theorem dX11_personItem_89 : decode cX11_personItem 89 = .ok (.aload_n 0, 1) := by decide +kernel
theorem dX11_personItem_90 : decode cX11_personItem 90 = .ok (.getfield 46, 3) := by decide +kernel
theorem dX11_personItem_93 : decode cX11_personItem 93 = .ok (.iconst 1, 1) := by decide +kernel
theorem dX11_personItem_94 : decode cX11_personItem 94 = .ok (.iaload, 1) := by decide +kernel
theorem dX11_personItem_95 : decode cX11_personItem 95 = .ok (.iastore, 1) := by decide +kernel
theorem dX11_personItem_96 : decode cX11_personItem 96 = .ok (.aload_n 0, 1) := by decide +kernel
theorem dX11_personItem_97 : decode cX11_personItem 97 = .ok (.getfield 13, 3) := by decide +kernel
theorem dX11_personItem_100 : decode cX11_personItem 100 = .ok (.iconst 1, 1) := by decide +kernel
theorem dX11_personItem_101 : decode cX11_personItem 101 = .ok (.dup2, 1) := by decide +kernel
theorem dX11_personItem_102 : decode cX11_personItem 102 = .ok (.iaload, 1) := by decide +kernel
theorem dX11_personItem_103 : decode cX11_personItem 103 = .ok (.iconst 1, 1) := by decide +kernel
theorem dX11_personItem_104 : decode cX11_personItem 104 = .ok (.iadd, 1) := by decide +kernel
theorem dX11_personItem_105 : decode cX11_personItem 105 = .ok (.iastore, 1) := by decide +kernel
theorem dX11_personItem_106 : decode cX11_personItem 106 = .ok (.iconst 1, 1) := by decide +kernel
theorem dX11_personItem_107 : decode cX11_personItem 107 = .ok (.ireturn, 1) := by decide +kernel
theorem dX11_numberItem_0 : decode cX11_numberItem 0 = .ok (.aload_n 0, 1) := by decide +kernel
theorem dX11_numberItem_1 : decode cX11_numberItem 1 = .ok (.iconst 1, 1) := by decide +kernel
theorem dX11_numberItem_2 : decode cX11_numberItem 2 = .ok (.invokevirtual 102, 3) := by decide +kernel
theorem dX11_numberItem_5 : decode cX11_numberItem 5 = .ok (.ifCond .eq 20, 3) := by decide +kernel
theorem dX11_numberItem_8 : decode cX11_numberItem 8 = .ok (.aload_n 0, 1) := by decide +kernel
theorem dX11_numberItem_9 : decode cX11_numberItem 9 = .ok (.getfield 46, 3) := by decide +kernel
theorem dX11_numberItem_12 : decode cX11_numberItem 12 = .ok (.iconst 0, 1) := by decide +kernel
theorem dX11_numberItem_13 : decode cX11_numberItem 13 = .ok (.iaload, 1) := by decide +kernel
theorem dX11_numberItem_14 : decode cX11_numberItem 14 = .ok (.i2l, 1) := by decide +kernel
theorem dX11_numberItem_15 : decode cX11_numberItem 15 = .ok (.iload_n 2, 1) := by decide +kernel
theorem dX11_numberItem_16 : decode cX11_numberItem 16 = .ok (.i2l, 1) := by decide +kernel
theorem dX11_numberItem_17 : decode cX11_numberItem 17 = .ok (.iload_n 3, 1) := by decide +kernel
theorem dX11_numberItem_18 : decode cX11_numberItem 18 = .ok (.i2l, 1) := by decide +kernel
theorem dX11_numberItem_19 : decode cX11_numberItem 19 = .ok (.invokestatic 79, 3) := by decide +kernel
theorem dX11_numberItem_22 : decode cX11_numberItem 22 = .ok (.ifCond .ne 5, 3) := by decide +kernel
theorem dX11_numberItem_25 : decode cX11_numberItem 25 = .ok (.iconst 0, 1) := by decide +kernel
theorem dX11_numberItem_26 : decode cX11_numberItem 26 = .ok (.ireturn, 1) := by decide +kernel
theorem dX11_numberItem_27 : decode cX11_numberItem 27 = .ok (.aload_n 0, 1) := by decide +kernel
theorem dX11_numberItem_28 : decode cX11_numberItem 28 = .ok (.getfield 25, 3) := by decide +kernel
theorem dX11_numberItem_31 : decode cX11_numberItem 31 = .ok (.iconst 5, 1) := by decide +kernel
theorem dX11_numberItem_32 : decode cX11_numberItem 32 = .ok (.iload_n 1, 1) := by decide +kernel
theorem dX11_numberItem_33 : decode cX11_numberItem 33 = .ok (.iadd, 1) := by decide +kernel
theorem dX11_numberItem_34 : decode cX11_numberItem 34 = .ok (.aload_n 0, 1) := by decide +kernel
theorem dX11_numberItem_35 : decode cX11_numberItem 35 = .ok (.getfield 46, 3) := by decide +kernel
theorem dX11_numberItem_38 : decode cX11_numberItem 38 = .ok (.iconst 0, 1) := by decide +kernel
theorem dX11_numberItem_39 : decode cX11_numberItem 39 = .ok (.iaload, 1) := by decide +kernel
theorem dX11_numberItem_40 : decode cX11_numberItem 40 = .ok (.iastore, 1) := by decide +kernel
theorem dX11_numberItem_41 : decode cX11_numberItem 41 = .ok (.iconst 1, 1) := by decide +kernel
theorem dX11_numberItem_42 : decode cX11_numberItem 42 = .ok (.ireturn, 1) := by decide +kernel
theorem dX11_item_0 : decode cX11_item 0 = .ok (.aload_n 0, 1) := by decide +kernel
theorem dX11_item_1 : decode cX11_item 1 = .ok (.aload_n 0, 1) := by decide +kernel
theorem dX11_item_2 : decode cX11_item 2 = .ok (.getfield 89, 3) := by decide +kernel
theorem dX11_item_5 : decode cX11_item 5 = .ok (.invokevirtual 92, 3) := by decide +kernel
theorem dX11_item_8 : decode cX11_item 8 = .ok (.istore_n 1, 1) := by decide +kernel
theorem dX11_item_9 : decode cX11_item 9 = .ok (.aload_n 0, 1) := by decide +kernel
theorem dX11_item_10 : decode cX11_item 10 = .ok (.dup, 1) := by decide +kernel
theorem dX11_item_11 : decode cX11_item 11 = .ok (.getfield 89, 3) := by decide +kernel
theorem dX11_item_14 : decode cX11_item 14 = .ok (.iconst 1, 1) := by decide +kernel
theorem dX11_item_15 : decode cX11_item 15 = .ok (.iadd, 1) := by decide +kernel
theorem dX11_item_16 : decode cX11_item 16 = .ok (.putfield 89, 3) := by decide +kernel
theorem dX11_item_19 : decode cX11_item 19 = .ok (.iload_n 1, 1) := by decide +kernel
theorem dX11_item_20 : decode cX11_item 20 = .ok (.tableswitch 162 99 120 #[110, 162, 162, 162, 162, 153, 162, 162, 162, 135, 162, 116, 162, 162, 162, 162, 162, 126, 162, 104, 162, 144], 104) := by decide +kernel
theorem dX11_item_124 : decode cX11_item 124 = .ok (.aload_n 0, 1) := by decide +kernel
theorem dX11_item_125 : decode cX11_item 125 = .ok (.iconst 0, 1) := by decide +kernel
theorem dX11_item_126 : decode cX11_item 126 = .ok (.invokevirtual 109, 3) := by decide +kernel
theorem dX11_item_129 : decode cX11_item 129 = .ok (.ireturn, 1) := by decide +kernel
theorem dX11_item_130 : decode cX11_item 130 = .ok (.aload_n 0, 1) := by decide +kernel
theorem dX11_item_131 : decode cX11_item 131 = .ok (.iconst 1, 1) := by decide +kernel
theorem dX11_item_132 : decode cX11_item 132 = .ok (.invokevirtual 109, 3) := by decide +kernel
theorem dX11_item_135 : decode cX11_item 135 = .ok (.ireturn, 1) := by decide +kernel
theorem dX11_item_136 : decode cX11_item 136 = .ok (.aload_n 0, 1) := by decide +kernel
theorem dX11_item_137 : decode cX11_item 137 = .ok (.iconst 0, 1) := by decide +kernel
theorem dX11_item_138 : decode cX11_item 138 = .ok (.iconst 1, 1) := by decide +kernel
theorem dX11_item_139 : decode cX11_item 139 = .ok (.sipush 200, 3) := by decide +kernel
theorem dX11_item_142 : decode cX11_item 142 = .ok (.invokevirtual 112, 3) := by decide +kernel
theorem dX11_item_145 : decode cX11_item 145 = .ok (.ireturn, 1) := by decide +kernel
theorem dX11_item_146 : decode cX11_item 146 = .ok (.aload_n 0, 1) := by decide +kernel
theorem dX11_item_147 : decode cX11_item 147 = .ok (.iconst 1, 1) := by decide +kernel
theorem dX11_item_148 : decode cX11_item 148 = .ok (.iconst 0, 1) := by decide +kernel
theorem dX11_item_149 : decode cX11_item 149 = .ok (.bipush 50, 2) := by decide +kernel
theorem dX11_item_151 : decode cX11_item 151 = .ok (.invokevirtual 112, 3) := by decide +kernel
theorem dX11_item_154 : decode cX11_item 154 = .ok (.ireturn, 1) := by decide +kernel
theorem dX11_item_155 : decode cX11_item 155 = .ok (.aload_n 0, 1) := by decide +kernel
theorem dX11_item_156 : decode cX11_item 156 = .ok (.iconst 2, 1) := by decide +kernel
theorem dX11_item_157 : decode cX11_item 157 = .ok (.iconst 0, 1) := by decide +kernel
theorem dX11_item_158 : decode cX11_item 158 = .ok (.bipush 99, 2) := by decide +kernel
theorem dX11_item_160 : decode cX11_item 160 = .ok (.invokevirtual 112, 3) := by decide +kernel
theorem dX11_item_163 : decode cX11_item 163 = .ok (.ireturn, 1) := by decide +kernel
theorem dX11_item_164 : decode cX11_item 164 = .ok (.aload_n 0, 1) := by decide +kernel
theorem dX11_item_165 : decode cX11_item 165 = .ok (.iconst 3, 1) := by decide +kernel
theorem dX11_item_166 : decode cX11_item 166 = .ok (.iconst 0, 1) := by decide +kernel
theorem dX11_item_167 : decode cX11_item 167 = .ok (.bipush 50, 2) := by decide +kernel
theorem dX11_item_169 : decode cX11_item 169 = .ok (.invokevirtual 112, 3) := by decide +kernel
theorem dX11_item_172 : decode cX11_item 172 = .ok (.ireturn, 1) := by decide +kernel
theorem dX11_item_173 : decode cX11_item 173 = .ok (.aload_n 0, 1) := by decide +kernel
theorem dX11_item_174 : decode cX11_item 174 = .ok (.iconst 4, 1) := by decide +kernel
theorem dX11_item_175 : decode cX11_item 175 = .ok (.iconst 0, 1) := by decide +kernel
theorem dX11_item_176 : decode cX11_item 176 = .ok (.bipush 99, 2) := by decide +kernel
theorem dX11_item_178 : decode cX11_item 178 = .ok (.invokevirtual 112, 3) := by decide +kernel
theorem dX11_item_181 : decode cX11_item 181 = .ok (.ireturn, 1) := by decide +kernel
theorem dX11_item_182 : decode cX11_item 182 = .ok (.iconst 0, 1) := by decide +kernel
theorem dX11_item_183 : decode cX11_item 183 = .ok (.ireturn, 1) := by decide +kernel
theorem dX11_readAll_0 : decode cX11_readAll 0 = .ok (.aload_n 0, 1) := by decide +kernel
theorem dX11_readAll_1 : decode cX11_readAll 1 = .ok (.iconst 1, 1) := by decide +kernel
theorem dX11_readAll_2 : decode cX11_readAll 2 = .ok (.invokevirtual 73, 3) := by decide +kernel
theorem dX11_readAll_5 : decode cX11_readAll 5 = .ok (.aload_n 0, 1) := by decide +kernel
theorem dX11_readAll_6 : decode cX11_readAll 6 = .ok (.iconst 0, 1) := by decide +kernel
theorem dX11_readAll_7 : decode cX11_readAll 7 = .ok (.putfield 89, 3) := by decide +kernel
theorem dX11_readAll_10 : decode cX11_readAll 10 = .ok (.aload_n 0, 1) := by decide +kernel
theorem dX11_readAll_11 : decode cX11_readAll 11 = .ok (.getfield 89, 3) := by decide +kernel
theorem dX11_readAll_14 : decode cX11_readAll 14 = .ok (.aload_n 0, 1) := by decide +kernel
theorem dX11_readAll_15 : decode cX11_readAll 15 = .ok (.getfield 83, 3) := by decide +kernel
theorem dX11_readAll_18 : decode cX11_readAll 18 = .ok (.if_icmp .ge 20, 3) := by decide +kernel
theorem dX11_readAll_21 : decode cX11_readAll 21 = .ok (.aload_n 0, 1) := by decide +kernel
theorem dX11_readAll_22 : decode cX11_readAll 22 = .ok (.getfield 89, 3) := by decide +kernel
theorem dX11_readAll_25 : decode cX11_readAll 25 = .ok (.istore_n 1, 1) := by decide +kernel
theorem dX11_readAll_26 : decode cX11_readAll 26 = .ok (.aload_n 0, 1) := by decide +kernel
theorem dX11_readAll_27 : decode cX11_readAll 27 = .ok (.invokevirtual 116, 3) := by decide +kernel
theorem dX11_readAll_30 : decode cX11_readAll 30 = .ok (.ifCond .ne 5, 3) := by decide +kernel
theorem dX11_readAll_33 : decode cX11_readAll 33 = .ok (.iload_n 1, 1) := by decide +kernel
theorem dX11_readAll_34 : decode cX11_readAll 34 = .ok (.ireturn, 1) := by decide +kernel
theorem dX11_readAll_35 : decode cX11_readAll 35 = .ok (.goto (-25), 3) := by decide +kernel
theorem dX11_readAll_38 : decode cX11_readAll 38 = .ok (.bipush (-4), 2) := by decide +kernel
theorem dX11_readAll_40 : decode cX11_readAll 40 = .ok (.ireturn, 1) := by decide +kernel
theorem dX11_fault_0 : decode cX11_fault 0 = .ok (.aload_n 0, 1) := by decide +kernel
theorem dX11_fault_1 : decode cX11_fault 1 = .ok (.invokevirtual 120, 3) := by decide +kernel
theorem dX11_fault_4 : decode cX11_fault 4 = .ok (.ireturn, 1) := by decide +kernel
theorem dX11_lay_0 : decode cX11_lay 0 = .ok (.aload_n 0, 1) := by decide +kernel
theorem dX11_lay_1 : decode cX11_lay 1 = .ok (.invokevirtual 120, 3) := by decide +kernel
theorem dX11_lay_4 : decode cX11_lay 4 = .ok (.bipush (-4), 2) := by decide +kernel
theorem dX11_lay_6 : decode cX11_lay 6 = .ok (.if_icmp .ne 19, 3) := by decide +kernel
theorem dX11_lay_9 : decode cX11_lay 9 = .ok (.aload_n 0, 1) := by decide +kernel
theorem dX11_lay_10 : decode cX11_lay 10 = .ok (.iconst 0, 1) := by decide +kernel
theorem dX11_lay_11 : decode cX11_lay 11 = .ok (.invokevirtual 106, 3) := by decide +kernel
theorem dX11_lay_14 : decode cX11_lay 14 = .ok (.ifCond .eq 11, 3) := by decide +kernel
theorem dX11_lay_17 : decode cX11_lay 17 = .ok (.aload_n 0, 1) := by decide +kernel
theorem dX11_lay_18 : decode cX11_lay 18 = .ok (.iconst 1, 1) := by decide +kernel
theorem dX11_lay_19 : decode cX11_lay 19 = .ok (.invokevirtual 106, 3) := by decide +kernel
theorem dX11_lay_22 : decode cX11_lay 22 = .ok (.ifCond .ne 6, 3) := by decide +kernel
theorem dX11_lay_25 : decode cX11_lay 25 = .ok (.bipush (-2), 2) := by decide +kernel
theorem dX11_lay_27 : decode cX11_lay 27 = .ok (.ireturn, 1) := by decide +kernel
theorem dX11_lay_28 : decode cX11_lay 28 = .ok (.aload_n 0, 1) := by decide +kernel
theorem dX11_lay_29 : decode cX11_lay 29 = .ok (.getfield 13, 3) := by decide +kernel
theorem dX11_lay_32 : decode cX11_lay 32 = .ok (.iconst 0, 1) := by decide +kernel
theorem dX11_lay_33 : decode cX11_lay 33 = .ok (.aload_n 0, 1) := by decide +kernel
theorem dX11_lay_34 : decode cX11_lay 34 = .ok (.getfield 13, 3) := by decide +kernel
theorem dX11_lay_37 : decode cX11_lay 37 = .ok (.iconst 1, 1) := by decide +kernel
theorem dX11_lay_38 : decode cX11_lay 38 = .ok (.iaload, 1) := by decide +kernel
theorem dX11_lay_39 : decode cX11_lay 39 = .ok (.iastore, 1) := by decide +kernel
theorem dX11_lay_40 : decode cX11_lay 40 = .ok (.iconst 0, 1) := by decide +kernel
theorem dX11_lay_41 : decode cX11_lay 41 = .ok (.istore_n 1, 1) := by decide +kernel
theorem dX11_lay_42 : decode cX11_lay 42 = .ok (.iload_n 1, 1) := by decide +kernel
theorem dX11_lay_43 : decode cX11_lay 43 = .ok (.bipush 20, 2) := by decide +kernel
theorem dX11_lay_45 : decode cX11_lay 45 = .ok (.if_icmp .ge 54, 3) := by decide +kernel
theorem dX11_lay_48 : decode cX11_lay 48 = .ok (.aload_n 0, 1) := by decide +kernel
theorem dX11_lay_49 : decode cX11_lay 49 = .ok (.getfield 16, 3) := by decide +kernel
theorem dX11_lay_52 : decode cX11_lay 52 = .ok (.iload_n 1, 1) := by decide +kernel
theorem dX11_lay_53 : decode cX11_lay 53 = .ok (.aload_n 0, 1) := by decide +kernel
theorem dX11_lay_54 : decode cX11_lay 54 = .ok (.getfield 16, 3) := by decide +kernel
theorem dX11_lay_57 : decode cX11_lay 57 = .ok (.bipush 20, 2) := by decide +kernel
theorem dX11_lay_59 : decode cX11_lay 59 = .ok (.iload_n 1, 1) := by decide +kernel
theorem dX11_lay_60 : decode cX11_lay 60 = .ok (.iadd, 1) := by decide +kernel
theorem dX11_lay_61 : decode cX11_lay 61 = .ok (.iaload, 1) := by decide +kernel
theorem dX11_lay_62 : decode cX11_lay 62 = .ok (.iastore, 1) := by decide +kernel
theorem dX11_lay_63 : decode cX11_lay 63 = .ok (.aload_n 0, 1) := by decide +kernel
theorem dX11_lay_64 : decode cX11_lay 64 = .ok (.getfield 19, 3) := by decide +kernel
theorem dX11_lay_67 : decode cX11_lay 67 = .ok (.iload_n 1, 1) := by decide +kernel
theorem dX11_lay_68 : decode cX11_lay 68 = .ok (.aload_n 0, 1) := by decide +kernel
theorem dX11_lay_69 : decode cX11_lay 69 = .ok (.getfield 19, 3) := by decide +kernel
theorem dX11_lay_72 : decode cX11_lay 72 = .ok (.bipush 20, 2) := by decide +kernel
theorem dX11_lay_74 : decode cX11_lay 74 = .ok (.iload_n 1, 1) := by decide +kernel
theorem dX11_lay_75 : decode cX11_lay 75 = .ok (.iadd, 1) := by decide +kernel
theorem dX11_lay_76 : decode cX11_lay 76 = .ok (.iaload, 1) := by decide +kernel
theorem dX11_lay_77 : decode cX11_lay 77 = .ok (.iastore, 1) := by decide +kernel
theorem dX11_lay_78 : decode cX11_lay 78 = .ok (.aload_n 0, 1) := by decide +kernel
theorem dX11_lay_79 : decode cX11_lay 79 = .ok (.getfield 22, 3) := by decide +kernel
theorem dX11_lay_82 : decode cX11_lay 82 = .ok (.iload_n 1, 1) := by decide +kernel
theorem dX11_lay_83 : decode cX11_lay 83 = .ok (.aload_n 0, 1) := by decide +kernel
theorem dX11_lay_84 : decode cX11_lay 84 = .ok (.getfield 22, 3) := by decide +kernel
theorem dX11_lay_87 : decode cX11_lay 87 = .ok (.bipush 20, 2) := by decide +kernel
theorem dX11_lay_89 : decode cX11_lay 89 = .ok (.iload_n 1, 1) := by decide +kernel
theorem dX11_lay_90 : decode cX11_lay 90 = .ok (.iadd, 1) := by decide +kernel
theorem dX11_lay_91 : decode cX11_lay 91 = .ok (.iaload, 1) := by decide +kernel
theorem dX11_lay_92 : decode cX11_lay 92 = .ok (.iastore, 1) := by decide +kernel
theorem dX11_lay_93 : decode cX11_lay 93 = .ok (.iinc 1 1, 3) := by decide +kernel
theorem dX11_lay_96 : decode cX11_lay 96 = .ok (.goto (-54), 3) := by decide +kernel
theorem dX11_lay_99 : decode cX11_lay 99 = .ok (.iconst 0, 1) := by decide +kernel
theorem dX11_lay_100 : decode cX11_lay 100 = .ok (.istore_n 1, 1) := by decide +kernel
theorem dX11_lay_101 : decode cX11_lay 101 = .ok (.iload_n 1, 1) := by decide +kernel
theorem dX11_lay_102 : decode cX11_lay 102 = .ok (.iconst 5, 1) := by decide +kernel
theorem dX11_lay_103 : decode cX11_lay 103 = .ok (.if_icmp .ge 23, 3) := by decide +kernel
theorem dX11_lay_106 : decode cX11_lay 106 = .ok (.aload_n 0, 1) := by decide +kernel
theorem dX11_lay_107 : decode cX11_lay 107 = .ok (.getfield 25, 3) := by decide +kernel
theorem dX11_lay_110 : decode cX11_lay 110 = .ok (.iload_n 1, 1) := by decide +kernel
theorem dX11_lay_111 : decode cX11_lay 111 = .ok (.aload_n 0, 1) := by decide +kernel
theorem dX11_lay_112 : decode cX11_lay 112 = .ok (.getfield 25, 3) := by decide +kernel
theorem dX11_lay_115 : decode cX11_lay 115 = .ok (.iconst 5, 1) := by decide +kernel
theorem dX11_lay_116 : decode cX11_lay 116 = .ok (.iload_n 1, 1) := by decide +kernel
theorem dX11_lay_117 : decode cX11_lay 117 = .ok (.iadd, 1) := by decide +kernel
theorem dX11_lay_118 : decode cX11_lay 118 = .ok (.iaload, 1) := by decide +kernel
theorem dX11_lay_119 : decode cX11_lay 119 = .ok (.iastore, 1) := by decide +kernel
theorem dX11_lay_120 : decode cX11_lay 120 = .ok (.iinc 1 1, 3) := by decide +kernel
theorem dX11_lay_123 : decode cX11_lay 123 = .ok (.goto (-22), 3) := by decide +kernel
theorem dX11_lay_126 : decode cX11_lay 126 = .ok (.aload_n 0, 1) := by decide +kernel
theorem dX11_lay_127 : decode cX11_lay 127 = .ok (.getfield 28, 3) := by decide +kernel
theorem dX11_lay_130 : decode cX11_lay 130 = .ok (.iconst 0, 1) := by decide +kernel
theorem dX11_lay_131 : decode cX11_lay 131 = .ok (.iconst 0, 1) := by decide +kernel
theorem dX11_lay_132 : decode cX11_lay 132 = .ok (.iastore, 1) := by decide +kernel
theorem dX11_lay_133 : decode cX11_lay 133 = .ok (.aload_n 0, 1) := by decide +kernel
theorem dX11_lay_134 : decode cX11_lay 134 = .ok (.iconst 0, 1) := by decide +kernel
theorem dX11_lay_135 : decode cX11_lay 135 = .ok (.putfield 124, 3) := by decide +kernel
theorem dX11_lay_138 : decode cX11_lay 138 = .ok (.aload_n 0, 1) := by decide +kernel
theorem dX11_lay_139 : decode cX11_lay 139 = .ok (.getfield 13, 3) := by decide +kernel
theorem dX11_lay_142 : decode cX11_lay 142 = .ok (.iconst 0, 1) := by decide +kernel
theorem dX11_lay_143 : decode cX11_lay 143 = .ok (.iaload, 1) := by decide +kernel
theorem dX11_lay_144 : decode cX11_lay 144 = .ok (.ireturn, 1) := by decide +kernel
theorem dX11_isPerson_0 : decode cX11_isPerson 0 = .ok (.iload_n 1, 1) := by decide +kernel
theorem dX11_isPerson_1 : decode cX11_isPerson 1 = .ok (.i2l, 1) := by decide +kernel
theorem dX11_isPerson_2 : decode cX11_isPerson 2 = .ok (.lconst 0, 1) := by decide +kernel
theorem dX11_isPerson_3 : decode cX11_isPerson 3 = .ok (.aload_n 0, 1) := by decide +kernel
theorem dX11_isPerson_4 : decode cX11_isPerson 4 = .ok (.getfield 13, 3) := by decide +kernel
theorem dX11_isPerson_7 : decode cX11_isPerson 7 = .ok (.iconst 0, 1) := by decide +kernel
theorem dX11_isPerson_8 : decode cX11_isPerson 8 = .ok (.iaload, 1) := by decide +kernel
theorem dX11_isPerson_9 : decode cX11_isPerson 9 = .ok (.iconst 1, 1) := by decide +kernel
theorem dX11_isPerson_10 : decode cX11_isPerson 10 = .ok (.isub, 1) := by decide +kernel
theorem dX11_isPerson_11 : decode cX11_isPerson 11 = .ok (.i2l, 1) := by decide +kernel
theorem dX11_isPerson_12 : decode cX11_isPerson 12 = .ok (.invokestatic 79, 3) := by decide +kernel
theorem dX11_isPerson_15 : decode cX11_isPerson 15 = .ok (.ireturn, 1) := by decide +kernel
theorem dX11_manyOf_0 : decode cX11_manyOf 0 = .ok (.iconst 0, 1) := by decide +kernel
theorem dX11_manyOf_1 : decode cX11_manyOf 1 = .ok (.istore_n 2, 1) := by decide +kernel
theorem dX11_manyOf_2 : decode cX11_manyOf 2 = .ok (.iconst 0, 1) := by decide +kernel
theorem dX11_manyOf_3 : decode cX11_manyOf 3 = .ok (.istore_n 3, 1) := by decide +kernel
theorem dX11_manyOf_4 : decode cX11_manyOf 4 = .ok (.iload_n 3, 1) := by decide +kernel
theorem dX11_manyOf_5 : decode cX11_manyOf 5 = .ok (.aload_n 0, 1) := by decide +kernel
theorem dX11_manyOf_6 : decode cX11_manyOf 6 = .ok (.getfield 13, 3) := by decide +kernel
theorem dX11_manyOf_9 : decode cX11_manyOf 9 = .ok (.iconst 0, 1) := by decide +kernel
theorem dX11_manyOf_10 : decode cX11_manyOf 10 = .ok (.iaload, 1) := by decide +kernel
theorem dX11_manyOf_11 : decode cX11_manyOf 11 = .ok (.if_icmp .ge 27, 3) := by decide +kernel
theorem dX11_manyOf_14 : decode cX11_manyOf 14 = .ok (.iload_n 2, 1) := by decide +kernel
theorem dX11_manyOf_15 : decode cX11_manyOf 15 = .ok (.aload_n 0, 1) := by decide +kernel
theorem dX11_manyOf_16 : decode cX11_manyOf 16 = .ok (.getfield 16, 3) := by decide +kernel
theorem dX11_manyOf_19 : decode cX11_manyOf 19 = .ok (.iload_n 3, 1) := by decide +kernel
theorem dX11_manyOf_20 : decode cX11_manyOf 20 = .ok (.iaload, 1) := by decide +kernel
theorem dX11_manyOf_21 : decode cX11_manyOf 21 = .ok (.iload_n 1, 1) := by decide +kernel
theorem dX11_manyOf_22 : decode cX11_manyOf 22 = .ok (.if_icmp .ne 7, 3) := by decide +kernel
theorem dX11_manyOf_25 : decode cX11_manyOf 25 = .ok (.iconst 1, 1) := by decide +kernel
theorem dX11_manyOf_26 : decode cX11_manyOf 26 = .ok (.goto 4, 3) := by decide +kernel
theorem dX11_manyOf_29 : decode cX11_manyOf 29 = .ok (.iconst 0, 1) := by decide +kernel
theorem dX11_manyOf_30 : decode cX11_manyOf 30 = .ok (.iadd, 1) := by decide +kernel
theorem dX11_manyOf_31 : decode cX11_manyOf 31 = .ok (.istore_n 2, 1) := by decide +kernel
theorem dX11_manyOf_32 : decode cX11_manyOf 32 = .ok (.iinc 3 1, 3) := by decide +kernel
theorem dX11_manyOf_35 : decode cX11_manyOf 35 = .ok (.goto (-31), 3) := by decide +kernel
theorem dX11_manyOf_38 : decode cX11_manyOf 38 = .ok (.iload_n 2, 1) := by decide +kernel
theorem dX11_manyOf_39 : decode cX11_manyOf 39 = .ok (.ireturn, 1) := by decide +kernel
theorem dX11_person_0 : decode cX11_person 0 = .ok (.aload_n 0, 1) := by decide +kernel
theorem dX11_person_1 : decode cX11_person 1 = .ok (.iload_n 1, 1) := by decide +kernel
theorem dX11_person_2 : decode cX11_person 2 = .ok (.invokevirtual 127, 3) := by decide +kernel
theorem dX11_person_5 : decode cX11_person 5 = .ok (.ifCond .eq 15, 3) := by decide +kernel
theorem dX11_person_8 : decode cX11_person 8 = .ok (.iload_n 2, 1) := by decide +kernel
theorem dX11_person_9 : decode cX11_person 9 = .ok (.i2l, 1) := by decide +kernel
theorem dX11_person_10 : decode cX11_person 10 = .ok (.lconst 0, 1) := by decide +kernel
theorem dX11_person_11 : decode cX11_person 11 = .ok (.ldc2_w 130, 3) := by decide +kernel
theorem dX11_person_14 : decode cX11_person 14 = .ok (.invokestatic 79, 3) := by decide +kernel
theorem dX11_person_17 : decode cX11_person 17 = .ok (.ifCond .ne 5, 3) := by decide +kernel
theorem dX11_person_20 : decode cX11_person 20 = .ok (.iconst (-1), 1) := by decide +kernel
theorem dX11_person_21 : decode cX11_person 21 = .ok (.ireturn, 1) := by decide +kernel
theorem dX11_person_22 : decode cX11_person 22 = .ok (.iload_n 2, 1) := by decide +kernel
theorem dX11_person_23 : decode cX11_person 23 = .ok (.ifCond .ne 12, 3) := by decide +kernel
theorem dX11_person_26 : decode cX11_person 26 = .ok (.aload_n 0, 1) := by decide +kernel
theorem dX11_person_27 : decode cX11_person 27 = .ok (.getfield 16, 3) := by decide +kernel
theorem dX11_person_30 : decode cX11_person 30 = .ok (.iload_n 1, 1) := by decide +kernel
theorem dX11_person_31 : decode cX11_person 31 = .ok (.iaload, 1) := by decide +kernel
theorem dX11_person_32 : decode cX11_person 32 = .ok (.goto 23, 3) := by decide +kernel
theorem dX11_person_35 : decode cX11_person 35 = .ok (.iload_n 2, 1) := by decide +kernel
theorem dX11_person_36 : decode cX11_person 36 = .ok (.iconst 1, 1) := by decide +kernel
theorem dX11_person_37 : decode cX11_person 37 = .ok (.if_icmp .ne 12, 3) := by decide +kernel
theorem dX11_person_40 : decode cX11_person 40 = .ok (.aload_n 0, 1) := by decide +kernel
theorem dX11_person_41 : decode cX11_person 41 = .ok (.getfield 19, 3) := by decide +kernel
theorem dX11_person_44 : decode cX11_person 44 = .ok (.iload_n 1, 1) := by decide +kernel
theorem dX11_person_45 : decode cX11_person 45 = .ok (.iaload, 1) := by decide +kernel
theorem dX11_person_46 : decode cX11_person 46 = .ok (.goto 9, 3) := by decide +kernel
theorem dX11_person_49 : decode cX11_person 49 = .ok (.aload_n 0, 1) := by decide +kernel
theorem dX11_person_50 : decode cX11_person 50 = .ok (.getfield 22, 3) := by decide +kernel
theorem dX11_person_53 : decode cX11_person 53 = .ok (.iload_n 1, 1) := by decide +kernel
theorem dX11_person_54 : decode cX11_person 54 = .ok (.iaload, 1) := by decide +kernel
theorem dX11_person_55 : decode cX11_person 55 = .ok (.ireturn, 1) := by decide +kernel
theorem dX11_law_0 : decode cX11_law 0 = .ok (.aload_n 0, 1) := by decide +kernel
theorem dX11_law_1 : decode cX11_law 1 = .ok (.iload_n 1, 1) := by decide +kernel
theorem dX11_law_2 : decode cX11_law 2 = .ok (.invokevirtual 127, 3) := by decide +kernel
theorem dX11_law_5 : decode cX11_law 5 = .ok (.ifCond .eq 15, 3) := by decide +kernel
theorem dX11_law_8 : decode cX11_law 8 = .ok (.iload_n 2, 1) := by decide +kernel
theorem dX11_law_9 : decode cX11_law 9 = .ok (.i2l, 1) := by decide +kernel
theorem dX11_law_10 : decode cX11_law 10 = .ok (.lconst 0, 1) := by decide +kernel
theorem dX11_law_11 : decode cX11_law 11 = .ok (.ldc2_w 132, 3) := by decide +kernel
theorem dX11_law_14 : decode cX11_law 14 = .ok (.invokestatic 79, 3) := by decide +kernel
theorem dX11_law_17 : decode cX11_law 17 = .ok (.ifCond .ne 5, 3) := by decide +kernel
theorem dX11_law_20 : decode cX11_law 20 = .ok (.iconst (-1), 1) := by decide +kernel
theorem dX11_law_21 : decode cX11_law 21 = .ok (.ireturn, 1) := by decide +kernel
theorem dX11_law_22 : decode cX11_law 22 = .ok (.aload_n 0, 1) := by decide +kernel
theorem dX11_law_23 : decode cX11_law 23 = .ok (.getfield 22, 3) := by decide +kernel
theorem dX11_law_26 : decode cX11_law 26 = .ok (.iload_n 1, 1) := by decide +kernel
theorem dX11_law_27 : decode cX11_law 27 = .ok (.iaload, 1) := by decide +kernel
theorem dX11_law_28 : decode cX11_law 28 = .ok (.istore_n 3, 1) := by decide +kernel
theorem dX11_law_29 : decode cX11_law 29 = .ok (.aload_n 0, 1) := by decide +kernel
theorem dX11_law_30 : decode cX11_law 30 = .ok (.getfield 22, 3) := by decide +kernel
theorem dX11_law_33 : decode cX11_law 33 = .ok (.iload_n 1, 1) := by decide +kernel
theorem dX11_law_34 : decode cX11_law 34 = .ok (.iload_n 2, 1) := by decide +kernel
theorem dX11_law_35 : decode cX11_law 35 = .ok (.iastore, 1) := by decide +kernel
theorem dX11_law_36 : decode cX11_law 36 = .ok (.iload_n 3, 1) := by decide +kernel
theorem dX11_law_37 : decode cX11_law 37 = .ok (.ireturn, 1) := by decide +kernel
theorem dX11_showTrue_0 : decode cX11_showTrue 0 = .ok (.iconst 0, 1) := by decide +kernel
theorem dX11_showTrue_1 : decode cX11_showTrue 1 = .ok (.istore_n 1, 1) := by decide +kernel
theorem dX11_showTrue_2 : decode cX11_showTrue 2 = .ok (.iload_n 1, 1) := by decide +kernel
theorem dX11_showTrue_3 : decode cX11_showTrue 3 = .ok (.aload_n 0, 1) := by decide +kernel
theorem dX11_showTrue_4 : decode cX11_showTrue 4 = .ok (.getfield 13, 3) := by decide +kernel
theorem dX11_showTrue_7 : decode cX11_showTrue 7 = .ok (.iconst 0, 1) := by decide +kernel
theorem dX11_showTrue_8 : decode cX11_showTrue 8 = .ok (.iaload, 1) := by decide +kernel
theorem dX11_showTrue_9 : decode cX11_showTrue 9 = .ok (.if_icmp .ge 21, 3) := by decide +kernel
theorem dX11_showTrue_12 : decode cX11_showTrue 12 = .ok (.aload_n 0, 1) := by decide +kernel
theorem dX11_showTrue_13 : decode cX11_showTrue 13 = .ok (.getfield 49, 3) := by decide +kernel
theorem dX11_showTrue_16 : decode cX11_showTrue 16 = .ok (.iload_n 1, 1) := by decide +kernel
theorem dX11_showTrue_17 : decode cX11_showTrue 17 = .ok (.aload_n 0, 1) := by decide +kernel
theorem dX11_showTrue_18 : decode cX11_showTrue 18 = .ok (.getfield 19, 3) := by decide +kernel
theorem dX11_showTrue_21 : decode cX11_showTrue 21 = .ok (.iload_n 1, 1) := by decide +kernel
theorem dX11_showTrue_22 : decode cX11_showTrue 22 = .ok (.iaload, 1) := by decide +kernel
theorem dX11_showTrue_23 : decode cX11_showTrue 23 = .ok (.iastore, 1) := by decide +kernel
theorem dX11_showTrue_24 : decode cX11_showTrue 24 = .ok (.iinc 1 1, 3) := by decide +kernel
theorem dX11_showTrue_27 : decode cX11_showTrue 27 = .ok (.goto (-25), 3) := by decide +kernel
theorem dX11_showTrue_30 : decode cX11_showTrue 30 = .ok (.return_, 1) := by decide +kernel
theorem dX11_layLines_0 : decode cX11_layLines 0 = .ok (.aload_n 0, 1) := by decide +kernel
theorem dX11_layLines_1 : decode cX11_layLines 1 = .ok (.iconst 0, 1) := by decide +kernel
theorem dX11_layLines_2 : decode cX11_layLines 2 = .ok (.putfield 134, 3) := by decide +kernel
theorem dX11_layLines_5 : decode cX11_layLines 5 = .ok (.aload_n 0, 1) := by decide +kernel
theorem dX11_layLines_6 : decode cX11_layLines 6 = .ok (.iconst 0, 1) := by decide +kernel
theorem dX11_layLines_7 : decode cX11_layLines 7 = .ok (.putfield 137, 3) := by decide +kernel
theorem dX11_layLines_10 : decode cX11_layLines 10 = .ok (.bipush 99, 2) := by decide +kernel
theorem dX11_layLines_12 : decode cX11_layLines 12 = .ok (.istore_n 1, 1) := by decide +kernel
theorem dX11_layLines_13 : decode cX11_layLines 13 = .ok (.iload_n 1, 1) := by decide +kernel
theorem dX11_layLines_14 : decode cX11_layLines 14 = .ok (.ifCond .lt 66, 3) := by decide +kernel
theorem dX11_layLines_17 : decode cX11_layLines 17 = .ok (.iconst 0, 1) := by decide +kernel
theorem dX11_layLines_18 : decode cX11_layLines 18 = .ok (.istore_n 2, 1) := by decide +kernel
theorem dX11_layLines_19 : decode cX11_layLines 19 = .ok (.iload_n 2, 1) := by decide +kernel
theorem dX11_layLines_20 : decode cX11_layLines 20 = .ok (.aload_n 0, 1) := by decide +kernel
theorem dX11_layLines_21 : decode cX11_layLines 21 = .ok (.getfield 13, 3) := by decide +kernel
theorem dX11_layLines_24 : decode cX11_layLines 24 = .ok (.iconst 0, 1) := by decide +kernel
theorem dX11_layLines_25 : decode cX11_layLines 25 = .ok (.iaload, 1) := by decide +kernel
theorem dX11_layLines_26 : decode cX11_layLines 26 = .ok (.if_icmp .ge 48, 3) := by decide +kernel
theorem dX11_layLines_29 : decode cX11_layLines 29 = .ok (.aload_n 0, 1) := by decide +kernel
theorem dX11_layLines_30 : decode cX11_layLines 30 = .ok (.getfield 16, 3) := by decide +kernel
theorem dX11_layLines_33 : decode cX11_layLines 33 = .ok (.iload_n 2, 1) := by decide +kernel
theorem dX11_layLines_34 : decode cX11_layLines 34 = .ok (.iaload, 1) := by decide +kernel
theorem dX11_layLines_35 : decode cX11_layLines 35 = .ok (.ifCond .ne 33, 3) := by decide +kernel
theorem dX11_layLines_38 : decode cX11_layLines 38 = .ok (.aload_n 0, 1) := by decide +kernel
theorem dX11_layLines_39 : decode cX11_layLines 39 = .ok (.getfield 49, 3) := by decide +kernel
theorem dX11_layLines_42 : decode cX11_layLines 42 = .ok (.iload_n 2, 1) := by decide +kernel
theorem dX11_layLines_43 : decode cX11_layLines 43 = .ok (.iaload, 1) := by decide +kernel
theorem dX11_layLines_44 : decode cX11_layLines 44 = .ok (.iload_n 1, 1) := by decide +kernel
theorem dX11_layLines_45 : decode cX11_layLines 45 = .ok (.if_icmp .ne 23, 3) := by decide +kernel
theorem dX11_layLines_48 : decode cX11_layLines 48 = .ok (.aload_n 0, 1) := by decide +kernel
theorem dX11_layLines_49 : decode cX11_layLines 49 = .ok (.getfield 52, 3) := by decide +kernel
theorem dX11_layLines_52 : decode cX11_layLines 52 = .ok (.aload_n 0, 1) := by decide +kernel
theorem dX11_layLines_53 : decode cX11_layLines 53 = .ok (.getfield 134, 3) := by decide +kernel
theorem dX11_layLines_56 : decode cX11_layLines 56 = .ok (.iload_n 2, 1) := by decide +kernel
theorem dX11_layLines_57 : decode cX11_layLines 57 = .ok (.iastore, 1) := by decide +kernel
theorem dX11_layLines_58 : decode cX11_layLines 58 = .ok (.aload_n 0, 1) := by decide +kernel
theorem dX11_layLines_59 : decode cX11_layLines 59 = .ok (.dup, 1) := by decide +kernel
theorem dX11_layLines_60 : decode cX11_layLines 60 = .ok (.getfield 134, 3) := by decide +kernel
theorem dX11_layLines_63 : decode cX11_layLines 63 = .ok (.iconst 1, 1) := by decide +kernel
theorem dX11_layLines_64 : decode cX11_layLines 64 = .ok (.iadd, 1) := by decide +kernel
theorem dX11_layLines_65 : decode cX11_layLines 65 = .ok (.putfield 134, 3) := by decide +kernel
theorem dX11_layLines_68 : decode cX11_layLines 68 = .ok (.iinc 2 1, 3) := by decide +kernel
theorem dX11_layLines_71 : decode cX11_layLines 71 = .ok (.goto (-52), 3) := by decide +kernel
theorem dX11_layLines_74 : decode cX11_layLines 74 = .ok (.iinc 1 (-1), 3) := by decide +kernel
theorem dX11_layLines_77 : decode cX11_layLines 77 = .ok (.goto (-64), 3) := by decide +kernel
theorem dX11_layLines_80 : decode cX11_layLines 80 = .ok (.iconst 0, 1) := by decide +kernel
theorem dX11_layLines_81 : decode cX11_layLines 81 = .ok (.istore_n 1, 1) := by decide +kernel
theorem dX11_layLines_82 : decode cX11_layLines 82 = .ok (.iload_n 1, 1) := by decide +kernel
theorem dX11_layLines_83 : decode cX11_layLines 83 = .ok (.bipush 99, 2) := by decide +kernel
theorem dX11_layLines_85 : decode cX11_layLines 85 = .ok (.if_icmp .gt 67, 3) := by decide +kernel
theorem dX11_layLines_88 : decode cX11_layLines 88 = .ok (.iconst 0, 1) := by decide +kernel
theorem dX11_layLines_89 : decode cX11_layLines 89 = .ok (.istore_n 2, 1) := by decide +kernel
theorem dX11_layLines_90 : decode cX11_layLines 90 = .ok (.iload_n 2, 1) := by decide +kernel
theorem dX11_layLines_91 : decode cX11_layLines 91 = .ok (.aload_n 0, 1) := by decide +kernel
theorem dX11_layLines_92 : decode cX11_layLines 92 = .ok (.getfield 13, 3) := by decide +kernel
theorem dX11_layLines_95 : decode cX11_layLines 95 = .ok (.iconst 0, 1) := by decide +kernel
theorem dX11_layLines_96 : decode cX11_layLines 96 = .ok (.iaload, 1) := by decide +kernel
theorem dX11_layLines_97 : decode cX11_layLines 97 = .ok (.if_icmp .ge 49, 3) := by decide +kernel
theorem dX11_layLines_100 : decode cX11_layLines 100 = .ok (.aload_n 0, 1) := by decide +kernel
theorem dX11_layLines_101 : decode cX11_layLines 101 = .ok (.getfield 16, 3) := by decide +kernel
theorem dX11_layLines_104 : decode cX11_layLines 104 = .ok (.iload_n 2, 1) := by decide +kernel
theorem dX11_layLines_105 : decode cX11_layLines 105 = .ok (.iaload, 1) := by decide +kernel
theorem dX11_layLines_106 : decode cX11_layLines 106 = .ok (.iconst 1, 1) := by decide +kernel
theorem dX11_layLines_107 : decode cX11_layLines 107 = .ok (.if_icmp .ne 33, 3) := by decide +kernel
theorem dX11_layLines_110 : decode cX11_layLines 110 = .ok (.aload_n 0, 1) := by decide +kernel
theorem dX11_layLines_111 : decode cX11_layLines 111 = .ok (.getfield 49, 3) := by decide +kernel
theorem dX11_layLines_114 : decode cX11_layLines 114 = .ok (.iload_n 2, 1) := by decide +kernel
theorem dX11_layLines_115 : decode cX11_layLines 115 = .ok (.iaload, 1) := by decide +kernel
theorem dX11_layLines_116 : decode cX11_layLines 116 = .ok (.iload_n 1, 1) := by decide +kernel
theorem dX11_layLines_117 : decode cX11_layLines 117 = .ok (.if_icmp .ne 23, 3) := by decide +kernel
theorem dX11_layLines_120 : decode cX11_layLines 120 = .ok (.aload_n 0, 1) := by decide +kernel
theorem dX11_layLines_121 : decode cX11_layLines 121 = .ok (.getfield 55, 3) := by decide +kernel
theorem dX11_layLines_124 : decode cX11_layLines 124 = .ok (.aload_n 0, 1) := by decide +kernel
theorem dX11_layLines_125 : decode cX11_layLines 125 = .ok (.getfield 137, 3) := by decide +kernel
theorem dX11_layLines_128 : decode cX11_layLines 128 = .ok (.iload_n 2, 1) := by decide +kernel
theorem dX11_layLines_129 : decode cX11_layLines 129 = .ok (.iastore, 1) := by decide +kernel
theorem dX11_layLines_130 : decode cX11_layLines 130 = .ok (.aload_n 0, 1) := by decide +kernel
theorem dX11_layLines_131 : decode cX11_layLines 131 = .ok (.dup, 1) := by decide +kernel
theorem dX11_layLines_132 : decode cX11_layLines 132 = .ok (.getfield 137, 3) := by decide +kernel
theorem dX11_layLines_135 : decode cX11_layLines 135 = .ok (.iconst 1, 1) := by decide +kernel
theorem dX11_layLines_136 : decode cX11_layLines 136 = .ok (.iadd, 1) := by decide +kernel
theorem dX11_layLines_137 : decode cX11_layLines 137 = .ok (.putfield 137, 3) := by decide +kernel
theorem dX11_layLines_140 : decode cX11_layLines 140 = .ok (.iinc 2 1, 3) := by decide +kernel
theorem dX11_layLines_143 : decode cX11_layLines 143 = .ok (.goto (-53), 3) := by decide +kernel
theorem dX11_layLines_146 : decode cX11_layLines 146 = .ok (.iinc 1 1, 3) := by decide +kernel
theorem dX11_layLines_149 : decode cX11_layLines 149 = .ok (.goto (-67), 3) := by decide +kernel
theorem dX11_layLines_152 : decode cX11_layLines 152 = .ok (.return_, 1) := by decide +kernel
theorem dX11_worth_0 : decode cX11_worth 0 = .ok (.aload_n 0, 1) := by decide +kernel
theorem dX11_worth_1 : decode cX11_worth 1 = .ok (.getfield 49, 3) := by decide +kernel
theorem dX11_worth_4 : decode cX11_worth 4 = .ok (.aload_n 0, 1) := by decide +kernel
theorem dX11_worth_5 : decode cX11_worth 5 = .ok (.getfield 52, 3) := by decide +kernel
theorem dX11_worth_8 : decode cX11_worth 8 = .ok (.iload_n 1, 1) := by decide +kernel
theorem dX11_worth_9 : decode cX11_worth 9 = .ok (.iaload, 1) := by decide +kernel
theorem dX11_worth_10 : decode cX11_worth 10 = .ok (.iaload, 1) := by decide +kernel
theorem dX11_worth_11 : decode cX11_worth 11 = .ok (.ireturn, 1) := by decide +kernel
theorem dX11_costs_0 : decode cX11_costs 0 = .ok (.aload_n 0, 1) := by decide +kernel
theorem dX11_costs_1 : decode cX11_costs 1 = .ok (.getfield 49, 3) := by decide +kernel
theorem dX11_costs_4 : decode cX11_costs 4 = .ok (.aload_n 0, 1) := by decide +kernel
theorem dX11_costs_5 : decode cX11_costs 5 = .ok (.getfield 55, 3) := by decide +kernel
theorem dX11_costs_8 : decode cX11_costs 8 = .ok (.iload_n 1, 1) := by decide +kernel
theorem dX11_costs_9 : decode cX11_costs 9 = .ok (.iaload, 1) := by decide +kernel
theorem dX11_costs_10 : decode cX11_costs 10 = .ok (.iaload, 1) := by decide +kernel
theorem dX11_costs_11 : decode cX11_costs 11 = .ok (.ireturn, 1) := by decide +kernel
theorem dX11_quantity_0 : decode cX11_quantity 0 = .ok (.iconst 0, 1) := by decide +kernel
theorem dX11_quantity_1 : decode cX11_quantity 1 = .ok (.istore_n 2, 1) := by decide +kernel
theorem dX11_quantity_2 : decode cX11_quantity 2 = .ok (.iload_n 2, 1) := by decide +kernel
theorem dX11_quantity_3 : decode cX11_quantity 3 = .ok (.aload_n 0, 1) := by decide +kernel
theorem dX11_quantity_4 : decode cX11_quantity 4 = .ok (.getfield 134, 3) := by decide +kernel
theorem dX11_quantity_7 : decode cX11_quantity 7 = .ok (.if_icmp .ge 32, 3) := by decide +kernel
theorem dX11_quantity_10 : decode cX11_quantity 10 = .ok (.iload_n 2, 1) := by decide +kernel
theorem dX11_quantity_11 : decode cX11_quantity 11 = .ok (.aload_n 0, 1) := by decide +kernel
theorem dX11_quantity_12 : decode cX11_quantity 12 = .ok (.getfield 137, 3) := by decide +kernel
theorem dX11_quantity_15 : decode cX11_quantity 15 = .ok (.if_icmp .ge 24, 3) := by decide +kernel
theorem dX11_quantity_18 : decode cX11_quantity 18 = .ok (.aload_n 0, 1) := by decide +kernel
theorem dX11_quantity_19 : decode cX11_quantity 19 = .ok (.iload_n 2, 1) := by decide +kernel
theorem dX11_quantity_20 : decode cX11_quantity 20 = .ok (.invokevirtual 140, 3) := by decide +kernel
theorem dX11_quantity_23 : decode cX11_quantity 23 = .ok (.aload_n 0, 1) := by decide +kernel
theorem dX11_quantity_24 : decode cX11_quantity 24 = .ok (.iload_n 2, 1) := by decide +kernel
theorem dX11_quantity_25 : decode cX11_quantity 25 = .ok (.invokevirtual 143, 3) := by decide +kernel
theorem dX11_quantity_28 : decode cX11_quantity 28 = .ok (.iload_n 1, 1) := by decide +kernel
theorem dX11_quantity_29 : decode cX11_quantity 29 = .ok (.iadd, 1) := by decide +kernel
theorem dX11_quantity_30 : decode cX11_quantity 30 = .ok (.if_icmp .lt 9, 3) := by decide +kernel
theorem dX11_quantity_33 : decode cX11_quantity 33 = .ok (.iinc 2 1, 3) := by decide +kernel
theorem dX11_quantity_36 : decode cX11_quantity 36 = .ok (.goto (-34), 3) := by decide +kernel
theorem dX11_quantity_39 : decode cX11_quantity 39 = .ok (.iload_n 2, 1) := by decide +kernel
theorem dX11_quantity_40 : decode cX11_quantity 40 = .ok (.ireturn, 1) := by decide +kernel
theorem dX11_gainOf_0 : decode cX11_gainOf 0 = .ok (.iconst 0, 1) := by decide +kernel
theorem dX11_gainOf_1 : decode cX11_gainOf 1 = .ok (.istore_n 2, 1) := by decide +kernel
theorem dX11_gainOf_2 : decode cX11_gainOf 2 = .ok (.iconst 0, 1) := by decide +kernel
theorem dX11_gainOf_3 : decode cX11_gainOf 3 = .ok (.istore_n 3, 1) := by decide +kernel
theorem dX11_gainOf_4 : decode cX11_gainOf 4 = .ok (.iload_n 3, 1) := by decide +kernel
theorem dX11_gainOf_5 : decode cX11_gainOf 5 = .ok (.iload_n 1, 1) := by decide +kernel
theorem dX11_gainOf_6 : decode cX11_gainOf 6 = .ok (.if_icmp .ge 23, 3) := by decide +kernel
theorem dX11_gainOf_9 : decode cX11_gainOf 9 = .ok (.iload_n 2, 1) := by decide +kernel
theorem dX11_gainOf_10 : decode cX11_gainOf 10 = .ok (.aload_n 0, 1) := by decide +kernel
theorem dX11_gainOf_11 : decode cX11_gainOf 11 = .ok (.iload_n 3, 1) := by decide +kernel
theorem dX11_gainOf_12 : decode cX11_gainOf 12 = .ok (.invokevirtual 140, 3) := by decide +kernel
theorem dX11_gainOf_15 : decode cX11_gainOf 15 = .ok (.aload_n 0, 1) := by decide +kernel
theorem dX11_gainOf_16 : decode cX11_gainOf 16 = .ok (.iload_n 3, 1) := by decide +kernel
theorem dX11_gainOf_17 : decode cX11_gainOf 17 = .ok (.invokevirtual 143, 3) := by decide +kernel
theorem dX11_gainOf_20 : decode cX11_gainOf 20 = .ok (.isub, 1) := by decide +kernel
theorem dX11_gainOf_21 : decode cX11_gainOf 21 = .ok (.iadd, 1) := by decide +kernel
theorem dX11_gainOf_22 : decode cX11_gainOf 22 = .ok (.istore_n 2, 1) := by decide +kernel
theorem dX11_gainOf_23 : decode cX11_gainOf 23 = .ok (.iinc 3 1, 3) := by decide +kernel
theorem dX11_gainOf_26 : decode cX11_gainOf 26 = .ok (.goto (-22), 3) := by decide +kernel
theorem dX11_gainOf_29 : decode cX11_gainOf 29 = .ok (.iload_n 2, 1) := by decide +kernel
theorem dX11_gainOf_30 : decode cX11_gainOf 30 = .ok (.ireturn, 1) := by decide +kernel
theorem dX11_lowest_0 : decode cX11_lowest 0 = .ok (.aload_n 0, 1) := by decide +kernel
theorem dX11_lowest_1 : decode cX11_lowest 1 = .ok (.iload_n 1, 1) := by decide +kernel
theorem dX11_lowest_2 : decode cX11_lowest 2 = .ok (.iconst 1, 1) := by decide +kernel
theorem dX11_lowest_3 : decode cX11_lowest 3 = .ok (.isub, 1) := by decide +kernel
theorem dX11_lowest_4 : decode cX11_lowest 4 = .ok (.invokevirtual 143, 3) := by decide +kernel
theorem dX11_lowest_7 : decode cX11_lowest 7 = .ok (.iload_n 2, 1) := by decide +kernel
theorem dX11_lowest_8 : decode cX11_lowest 8 = .ok (.iadd, 1) := by decide +kernel
theorem dX11_lowest_9 : decode cX11_lowest 9 = .ok (.istore_n 3, 1) := by decide +kernel
theorem dX11_lowest_10 : decode cX11_lowest 10 = .ok (.iload_n 1, 1) := by decide +kernel
theorem dX11_lowest_11 : decode cX11_lowest 11 = .ok (.aload_n 0, 1) := by decide +kernel
theorem dX11_lowest_12 : decode cX11_lowest 12 = .ok (.getfield 134, 3) := by decide +kernel
theorem dX11_lowest_15 : decode cX11_lowest 15 = .ok (.if_icmp .ge 20, 3) := by decide +kernel
theorem dX11_lowest_18 : decode cX11_lowest 18 = .ok (.aload_n 0, 1) := by decide +kernel
theorem dX11_lowest_19 : decode cX11_lowest 19 = .ok (.iload_n 1, 1) := by decide +kernel
theorem dX11_lowest_20 : decode cX11_lowest 20 = .ok (.invokevirtual 140, 3) := by decide +kernel
theorem dX11_lowest_23 : decode cX11_lowest 23 = .ok (.iload_n 3, 1) := by decide +kernel
theorem dX11_lowest_24 : decode cX11_lowest 24 = .ok (.if_icmp .le 11, 3) := by decide +kernel
theorem dX11_lowest_27 : decode cX11_lowest 27 = .ok (.aload_n 0, 1) := by decide +kernel
theorem dX11_lowest_28 : decode cX11_lowest 28 = .ok (.iload_n 1, 1) := by decide +kernel
theorem dX11_lowest_29 : decode cX11_lowest 29 = .ok (.invokevirtual 140, 3) := by decide +kernel
theorem dX11_lowest_32 : decode cX11_lowest 32 = .ok (.goto 4, 3) := by decide +kernel
theorem dX11_lowest_35 : decode cX11_lowest 35 = .ok (.iload_n 3, 1) := by decide +kernel
theorem dX11_lowest_36 : decode cX11_lowest 36 = .ok (.ireturn, 1) := by decide +kernel
theorem dX11_highest_0 : decode cX11_highest 0 = .ok (.aload_n 0, 1) := by decide +kernel
theorem dX11_highest_1 : decode cX11_highest 1 = .ok (.iload_n 1, 1) := by decide +kernel
theorem dX11_highest_2 : decode cX11_highest 2 = .ok (.iconst 1, 1) := by decide +kernel
theorem dX11_highest_3 : decode cX11_highest 3 = .ok (.isub, 1) := by decide +kernel
theorem dX11_highest_4 : decode cX11_highest 4 = .ok (.invokevirtual 140, 3) := by decide +kernel
theorem dX11_highest_7 : decode cX11_highest 7 = .ok (.istore_n 3, 1) := by decide +kernel
theorem dX11_highest_8 : decode cX11_highest 8 = .ok (.iload_n 1, 1) := by decide +kernel
theorem dX11_highest_9 : decode cX11_highest 9 = .ok (.aload_n 0, 1) := by decide +kernel
theorem dX11_highest_10 : decode cX11_highest 10 = .ok (.getfield 137, 3) := by decide +kernel
theorem dX11_highest_13 : decode cX11_highest 13 = .ok (.if_icmp .ge 24, 3) := by decide +kernel
theorem dX11_highest_16 : decode cX11_highest 16 = .ok (.aload_n 0, 1) := by decide +kernel
theorem dX11_highest_17 : decode cX11_highest 17 = .ok (.iload_n 1, 1) := by decide +kernel
theorem dX11_highest_18 : decode cX11_highest 18 = .ok (.invokevirtual 143, 3) := by decide +kernel
theorem dX11_highest_21 : decode cX11_highest 21 = .ok (.iload_n 2, 1) := by decide +kernel
theorem dX11_highest_22 : decode cX11_highest 22 = .ok (.iadd, 1) := by decide +kernel
theorem dX11_highest_23 : decode cX11_highest 23 = .ok (.iload_n 3, 1) := by decide +kernel
theorem dX11_highest_24 : decode cX11_highest 24 = .ok (.if_icmp .ge 13, 3) := by decide +kernel
theorem dX11_highest_27 : decode cX11_highest 27 = .ok (.aload_n 0, 1) := by decide +kernel
theorem dX11_highest_28 : decode cX11_highest 28 = .ok (.iload_n 1, 1) := by decide +kernel
theorem dX11_highest_29 : decode cX11_highest 29 = .ok (.invokevirtual 143, 3) := by decide +kernel
theorem dX11_highest_32 : decode cX11_highest 32 = .ok (.iload_n 2, 1) := by decide +kernel
theorem dX11_highest_33 : decode cX11_highest 33 = .ok (.iadd, 1) := by decide +kernel
theorem dX11_highest_34 : decode cX11_highest 34 = .ok (.goto 4, 3) := by decide +kernel
theorem dX11_highest_37 : decode cX11_highest 37 = .ok (.iload_n 3, 1) := by decide +kernel
theorem dX11_highest_38 : decode cX11_highest 38 = .ok (.ireturn, 1) := by decide +kernel
theorem dX11_lines_0 : decode cX11_lines 0 = .ok (.iload_n 1, 1) := by decide +kernel
theorem dX11_lines_1 : decode cX11_lines 1 = .ok (.i2l, 1) := by decide +kernel
theorem dX11_lines_2 : decode cX11_lines 2 = .ok (.lconst 0, 1) := by decide +kernel
theorem dX11_lines_3 : decode cX11_lines 3 = .ok (.ldc2_w 146, 3) := by decide +kernel
theorem dX11_lines_6 : decode cX11_lines 6 = .ok (.invokestatic 79, 3) := by decide +kernel
theorem dX11_lines_9 : decode cX11_lines 9 = .ok (.ifCond .ne 5, 3) := by decide +kernel
theorem dX11_lines_12 : decode cX11_lines 12 = .ok (.iconst (-1), 1) := by decide +kernel
theorem dX11_lines_13 : decode cX11_lines 13 = .ok (.ireturn, 1) := by decide +kernel
theorem dX11_lines_14 : decode cX11_lines 14 = .ok (.aload_n 0, 1) := by decide +kernel
theorem dX11_lines_15 : decode cX11_lines 15 = .ok (.invokevirtual 148, 3) := by decide +kernel
theorem dX11_lines_18 : decode cX11_lines 18 = .ok (.aload_n 0, 1) := by decide +kernel
theorem dX11_lines_19 : decode cX11_lines 19 = .ok (.invokevirtual 151, 3) := by decide +kernel
theorem dX11_lines_22 : decode cX11_lines 22 = .ok (.aload_n 0, 1) := by decide +kernel
theorem dX11_lines_23 : decode cX11_lines 23 = .ok (.getfield 25, 3) := by decide +kernel
theorem dX11_lines_26 : decode cX11_lines 26 = .ok (.iconst 1, 1) := by decide +kernel
theorem dX11_lines_27 : decode cX11_lines 27 = .ok (.iaload, 1) := by decide +kernel
theorem dX11_lines_28 : decode cX11_lines 28 = .ok (.istore_n 2, 1) := by decide +kernel
theorem dX11_lines_29 : decode cX11_lines 29 = .ok (.aload_n 0, 1) := by decide +kernel
theorem dX11_lines_30 : decode cX11_lines 30 = .ok (.iload_n 2, 1) := by decide +kernel
theorem dX11_lines_31 : decode cX11_lines 31 = .ok (.invokevirtual 154, 3) := by decide +kernel
theorem dX11_lines_34 : decode cX11_lines 34 = .ok (.istore_n 3, 1) := by decide +kernel
theorem dX11_lines_35 : decode cX11_lines 35 = .ok (.iload_n 1, 1) := by decide +kernel
theorem dX11_lines_36 : decode cX11_lines 36 = .ok (.iconst 2, 1) := by decide +kernel
theorem dX11_lines_37 : decode cX11_lines 37 = .ok (.if_icmp .ge 17, 3) := by decide +kernel
theorem dX11_lines_40 : decode cX11_lines 40 = .ok (.iload_n 1, 1) := by decide +kernel
theorem dX11_lines_41 : decode cX11_lines 41 = .ok (.ifCond .ne 7, 3) := by decide +kernel
theorem dX11_lines_44 : decode cX11_lines 44 = .ok (.iload_n 3, 1) := by decide +kernel
theorem dX11_lines_45 : decode cX11_lines 45 = .ok (.goto 8, 3) := by decide +kernel
theorem dX11_lines_48 : decode cX11_lines 48 = .ok (.aload_n 0, 1) := by decide +kernel
theorem dX11_lines_49 : decode cX11_lines 49 = .ok (.iload_n 3, 1) := by decide +kernel
theorem dX11_lines_50 : decode cX11_lines 50 = .ok (.invokevirtual 157, 3) := by decide +kernel
theorem dX11_lines_53 : decode cX11_lines 53 = .ok (.ireturn, 1) := by decide +kernel
theorem dX11_lines_54 : decode cX11_lines 54 = .ok (.iload_n 3, 1) := by decide +kernel
theorem dX11_lines_55 : decode cX11_lines 55 = .ok (.ifCond .ne 6, 3) := by decide +kernel
theorem dX11_lines_58 : decode cX11_lines 58 = .ok (.bipush (-4), 2) := by decide +kernel
theorem dX11_lines_60 : decode cX11_lines 60 = .ok (.ireturn, 1) := by decide +kernel
theorem dX11_lines_61 : decode cX11_lines 61 = .ok (.iload_n 1, 1) := by decide +kernel
theorem dX11_lines_62 : decode cX11_lines 62 = .ok (.iconst 2, 1) := by decide +kernel
theorem dX11_lines_63 : decode cX11_lines 63 = .ok (.if_icmp .ne 12, 3) := by decide +kernel
theorem dX11_lines_66 : decode cX11_lines 66 = .ok (.aload_n 0, 1) := by decide +kernel
theorem dX11_lines_67 : decode cX11_lines 67 = .ok (.iload_n 3, 1) := by decide +kernel
theorem dX11_lines_68 : decode cX11_lines 68 = .ok (.iload_n 2, 1) := by decide +kernel
theorem dX11_lines_69 : decode cX11_lines 69 = .ok (.invokevirtual 160, 3) := by decide +kernel
theorem dX11_lines_72 : decode cX11_lines 72 = .ok (.goto 34, 3) := by decide +kernel
theorem dX11_lines_75 : decode cX11_lines 75 = .ok (.iload_n 1, 1) := by decide +kernel
theorem dX11_lines_76 : decode cX11_lines 76 = .ok (.iconst 3, 1) := by decide +kernel
theorem dX11_lines_77 : decode cX11_lines 77 = .ok (.if_icmp .ne 12, 3) := by decide +kernel
theorem dX11_lines_80 : decode cX11_lines 80 = .ok (.aload_n 0, 1) := by decide +kernel
theorem dX11_lines_81 : decode cX11_lines 81 = .ok (.iload_n 3, 1) := by decide +kernel
theorem dX11_lines_82 : decode cX11_lines 82 = .ok (.iload_n 2, 1) := by decide +kernel
theorem dX11_lines_83 : decode cX11_lines 83 = .ok (.invokevirtual 164, 3) := by decide +kernel
theorem dX11_lines_86 : decode cX11_lines 86 = .ok (.goto 20, 3) := by decide +kernel
theorem dX11_lines_89 : decode cX11_lines 89 = .ok (.aload_n 0, 1) := by decide +kernel
theorem dX11_lines_90 : decode cX11_lines 90 = .ok (.iload_n 3, 1) := by decide +kernel
theorem dX11_lines_91 : decode cX11_lines 91 = .ok (.iload_n 2, 1) := by decide +kernel
theorem dX11_lines_92 : decode cX11_lines 92 = .ok (.invokevirtual 160, 3) := by decide +kernel
theorem dX11_lines_95 : decode cX11_lines 95 = .ok (.aload_n 0, 1) := by decide +kernel
theorem dX11_lines_96 : decode cX11_lines 96 = .ok (.aload_n 0, 1) := by decide +kernel
theorem dX11_lines_97 : decode cX11_lines 97 = .ok (.iconst 0, 1) := by decide +kernel
theorem dX11_lines_98 : decode cX11_lines 98 = .ok (.invokevirtual 154, 3) := by decide +kernel
theorem dX11_lines_101 : decode cX11_lines 101 = .ok (.iconst 0, 1) := by decide +kernel
theorem dX11_lines_102 : decode cX11_lines 102 = .ok (.invokevirtual 160, 3) := by decide +kernel
theorem dX11_lines_105 : decode cX11_lines 105 = .ok (.isub, 1) := by decide +kernel
theorem dX11_lines_106 : decode cX11_lines 106 = .ok (.ireturn, 1) := by decide +kernel
theorem dX11_served_0 : decode cX11_served 0 = .ok (.iload_n 1, 1) := by decide +kernel
theorem dX11_served_1 : decode cX11_served 1 = .ok (.i2l, 1) := by decide +kernel
theorem dX11_served_2 : decode cX11_served 2 = .ok (.lconst 0, 1) := by decide +kernel
theorem dX11_served_3 : decode cX11_served 3 = .ok (.ldc2_w 100, 3) := by decide +kernel
theorem dX11_served_6 : decode cX11_served 6 = .ok (.invokestatic 79, 3) := by decide +kernel
theorem dX11_served_9 : decode cX11_served 9 = .ok (.ifCond .ne 5, 3) := by decide +kernel
theorem dX11_served_12 : decode cX11_served 12 = .ok (.iconst (-1), 1) := by decide +kernel
theorem dX11_served_13 : decode cX11_served 13 = .ok (.ireturn, 1) := by decide +kernel
theorem dX11_served_14 : decode cX11_served 14 = .ok (.aload_n 0, 1) := by decide +kernel
theorem dX11_served_15 : decode cX11_served 15 = .ok (.invokevirtual 148, 3) := by decide +kernel
theorem dX11_served_18 : decode cX11_served 18 = .ok (.aload_n 0, 1) := by decide +kernel
theorem dX11_served_19 : decode cX11_served 19 = .ok (.invokevirtual 151, 3) := by decide +kernel
theorem dX11_served_22 : decode cX11_served 22 = .ok (.aload_n 0, 1) := by decide +kernel
theorem dX11_served_23 : decode cX11_served 23 = .ok (.getfield 25, 3) := by decide +kernel
theorem dX11_served_26 : decode cX11_served 26 = .ok (.iconst 1, 1) := by decide +kernel
theorem dX11_served_27 : decode cX11_served 27 = .ok (.iaload, 1) := by decide +kernel
theorem dX11_served_28 : decode cX11_served 28 = .ok (.istore_n 2, 1) := by decide +kernel
theorem dX11_served_29 : decode cX11_served 29 = .ok (.aload_n 0, 1) := by decide +kernel
theorem dX11_served_30 : decode cX11_served 30 = .ok (.getfield 25, 3) := by decide +kernel
theorem dX11_served_33 : decode cX11_served 33 = .ok (.iconst 2, 1) := by decide +kernel
theorem dX11_served_34 : decode cX11_served 34 = .ok (.iaload, 1) := by decide +kernel
theorem dX11_served_35 : decode cX11_served 35 = .ok (.istore_n 3, 1) := by decide +kernel
theorem dX11_served_36 : decode cX11_served 36 = .ok (.aload_n 0, 1) := by decide +kernel
theorem dX11_served_37 : decode cX11_served 37 = .ok (.iload_n 2, 1) := by decide +kernel
theorem dX11_served_38 : decode cX11_served 38 = .ok (.invokevirtual 154, 3) := by decide +kernel
theorem dX11_served_41 : decode cX11_served 41 = .ok (.istore 4, 2) := by decide +kernel
theorem dX11_served_43 : decode cX11_served 43 = .ok (.aload_n 0, 1) := by decide +kernel
theorem dX11_served_44 : decode cX11_served 44 = .ok (.iload 4, 2) := by decide +kernel
theorem dX11_served_46 : decode cX11_served 46 = .ok (.invokevirtual 157, 3) := by decide +kernel
theorem dX11_served_49 : decode cX11_served 49 = .ok (.istore 5, 2) := by decide +kernel
theorem dX11_served_51 : decode cX11_served 51 = .ok (.iload 4, 2) := by decide +kernel
theorem dX11_served_53 : decode cX11_served 53 = .ok (.ifCond .eq 14, 3) := by decide +kernel
theorem dX11_served_56 : decode cX11_served 56 = .ok (.iload_n 3, 1) := by decide +kernel
theorem dX11_served_57 : decode cX11_served 57 = .ok (.aload_n 0, 1) := by decide +kernel
theorem dX11_served_58 : decode cX11_served 58 = .ok (.iload 4, 2) := by decide +kernel
theorem dX11_served_60 : decode cX11_served 60 = .ok (.iload_n 2, 1) := by decide +kernel
theorem dX11_served_61 : decode cX11_served 61 = .ok (.invokevirtual 160, 3) := by decide +kernel
theorem dX11_served_64 : decode cX11_served 64 = .ok (.if_icmp .lt 24, 3) := by decide +kernel
theorem dX11_served_67 : decode cX11_served 67 = .ok (.iload_n 1, 1) := by decide +kernel
theorem dX11_served_68 : decode cX11_served 68 = .ok (.ifCond .ne 8, 3) := by decide +kernel
theorem dX11_served_71 : decode cX11_served 71 = .ok (.iload 4, 2) := by decide +kernel
theorem dX11_served_73 : decode cX11_served 73 = .ok (.goto 14, 3) := by decide +kernel
theorem dX11_served_76 : decode cX11_served 76 = .ok (.iload_n 1, 1) := by decide +kernel
theorem dX11_served_77 : decode cX11_served 77 = .ok (.iconst 3, 1) := by decide +kernel
theorem dX11_served_78 : decode cX11_served 78 = .ok (.if_icmp .ne 7, 3) := by decide +kernel
theorem dX11_served_81 : decode cX11_served 81 = .ok (.iconst 0, 1) := by decide +kernel
theorem dX11_served_82 : decode cX11_served 82 = .ok (.goto 5, 3) := by decide +kernel
theorem dX11_served_85 : decode cX11_served 85 = .ok (.iload 5, 2) := by decide +kernel
theorem dX11_served_87 : decode cX11_served 87 = .ok (.ireturn, 1) := by decide +kernel
theorem dX11_served_88 : decode cX11_served 88 = .ok (.iconst 0, 1) := by decide +kernel
theorem dX11_served_89 : decode cX11_served 89 = .ok (.istore 6, 2) := by decide +kernel
theorem dX11_served_91 : decode cX11_served 91 = .ok (.iload 6, 2) := by decide +kernel
theorem dX11_served_93 : decode cX11_served 93 = .ok (.aload_n 0, 1) := by decide +kernel
theorem dX11_served_94 : decode cX11_served 94 = .ok (.getfield 134, 3) := by decide +kernel
theorem dX11_served_97 : decode cX11_served 97 = .ok (.if_icmp .ge 19, 3) := by decide +kernel
theorem dX11_served_100 : decode cX11_served 100 = .ok (.aload_n 0, 1) := by decide +kernel
theorem dX11_served_101 : decode cX11_served 101 = .ok (.iload 6, 2) := by decide +kernel
theorem dX11_served_103 : decode cX11_served 103 = .ok (.invokevirtual 140, 3) := by decide +kernel
theorem dX11_served_106 : decode cX11_served 106 = .ok (.iload_n 3, 1) := by decide +kernel
theorem dX11_served_107 : decode cX11_served 107 = .ok (.if_icmp .lt 9, 3) := by decide +kernel
theorem dX11_served_110 : decode cX11_served 110 = .ok (.iinc 6 1, 3) := by decide +kernel
theorem dX11_served_113 : decode cX11_served 113 = .ok (.goto (-22), 3) := by decide +kernel
theorem dX11_served_116 : decode cX11_served 116 = .ok (.iconst 0, 1) := by decide +kernel
theorem dX11_served_117 : decode cX11_served 117 = .ok (.istore 7, 2) := by decide +kernel
theorem dX11_served_119 : decode cX11_served 119 = .ok (.iload 7, 2) := by decide +kernel
theorem dX11_served_121 : decode cX11_served 121 = .ok (.aload_n 0, 1) := by decide +kernel
theorem dX11_served_122 : decode cX11_served 122 = .ok (.getfield 137, 3) := by decide +kernel
theorem dX11_served_125 : decode cX11_served 125 = .ok (.if_icmp .ge 21, 3) := by decide +kernel
theorem dX11_served_128 : decode cX11_served 128 = .ok (.aload_n 0, 1) := by decide +kernel
theorem dX11_served_129 : decode cX11_served 129 = .ok (.iload 7, 2) := by decide +kernel
theorem dX11_served_131 : decode cX11_served 131 = .ok (.invokevirtual 143, 3) := by decide +kernel
theorem dX11_served_134 : decode cX11_served 134 = .ok (.iload_n 2, 1) := by decide +kernel
theorem dX11_served_135 : decode cX11_served 135 = .ok (.iadd, 1) := by decide +kernel
theorem dX11_served_136 : decode cX11_served 136 = .ok (.iload_n 3, 1) := by decide +kernel
theorem dX11_served_137 : decode cX11_served 137 = .ok (.if_icmp .gt 9, 3) := by decide +kernel
theorem dX11_served_140 : decode cX11_served 140 = .ok (.iinc 7 1, 3) := by decide +kernel
theorem dX11_served_143 : decode cX11_served 143 = .ok (.goto (-24), 3) := by decide +kernel
theorem dX11_served_146 : decode cX11_served 146 = .ok (.iload 6, 2) := by decide +kernel
theorem dX11_served_148 : decode cX11_served 148 = .ok (.iload 7, 2) := by decide +kernel
theorem dX11_served_150 : decode cX11_served 150 = .ok (.if_icmp .ge 8, 3) := by decide +kernel
theorem dX11_served_153 : decode cX11_served 153 = .ok (.iload 6, 2) := by decide +kernel
theorem dX11_served_155 : decode cX11_served 155 = .ok (.goto 5, 3) := by decide +kernel
theorem dX11_served_158 : decode cX11_served 158 = .ok (.iload 7, 2) := by decide +kernel
theorem dX11_served_160 : decode cX11_served 160 = .ok (.istore 8, 2) := by decide +kernel
theorem dX11_served_162 : decode cX11_served 162 = .ok (.iconst 0, 1) := by decide +kernel
theorem dX11_served_163 : decode cX11_served 163 = .ok (.istore 9, 2) := by decide +kernel
theorem dX11_served_165 : decode cX11_served 165 = .ok (.iconst 0, 1) := by decide +kernel
theorem dX11_served_166 : decode cX11_served 166 = .ok (.istore 10, 2) := by decide +kernel
theorem dX11_served_168 : decode cX11_served 168 = .ok (.iconst 0, 1) := by decide +kernel
theorem dX11_served_169 : decode cX11_served 169 = .ok (.istore 11, 2) := by decide +kernel
theorem dX11_served_171 : decode cX11_served 171 = .ok (.iload 11, 2) := by decide +kernel
theorem dX11_served_173 : decode cX11_served 173 = .ok (.iload 8, 2) := by decide +kernel
theorem dX11_served_175 : decode cX11_served 175 = .ok (.if_icmp .ge 55, 3) := by decide +kernel
theorem dX11_served_178 : decode cX11_served 178 = .ok (.iload 9, 2) := by decide +kernel
theorem dX11_served_180 : decode cX11_served 180 = .ok (.aload_n 0, 1) := by decide +kernel
theorem dX11_served_181 : decode cX11_served 181 = .ok (.iload 11, 2) := by decide +kernel
theorem dX11_served_183 : decode cX11_served 183 = .ok (.invokevirtual 140, 3) := by decide +kernel
theorem dX11_served_186 : decode cX11_served 186 = .ok (.aload_n 0, 1) := by decide +kernel
theorem dX11_served_187 : decode cX11_served 187 = .ok (.iload 11, 2) := by decide +kernel
theorem dX11_served_189 : decode cX11_served 189 = .ok (.invokevirtual 143, 3) := by decide +kernel
theorem dX11_served_192 : decode cX11_served 192 = .ok (.isub, 1) := by decide +kernel
theorem dX11_served_193 : decode cX11_served 193 = .ok (.iadd, 1) := by decide +kernel
theorem dX11_served_194 : decode cX11_served 194 = .ok (.istore 9, 2) := by decide +kernel
theorem dX11_served_196 : decode cX11_served 196 = .ok (.iload 10, 2) := by decide +kernel
theorem dX11_served_198 : decode cX11_served 198 = .ok (.aload_n 0, 1) := by decide +kernel
theorem dX11_served_199 : decode cX11_served 199 = .ok (.iload 6, 2) := by decide +kernel
theorem dX11_served_201 : decode cX11_served 201 = .ok (.iconst 1, 1) := by decide +kernel
theorem dX11_served_202 : decode cX11_served 202 = .ok (.isub, 1) := by decide +kernel
theorem dX11_served_203 : decode cX11_served 203 = .ok (.iload 11, 2) := by decide +kernel
theorem dX11_served_205 : decode cX11_served 205 = .ok (.isub, 1) := by decide +kernel
theorem dX11_served_206 : decode cX11_served 206 = .ok (.invokevirtual 140, 3) := by decide +kernel
theorem dX11_served_209 : decode cX11_served 209 = .ok (.aload_n 0, 1) := by decide +kernel
theorem dX11_served_210 : decode cX11_served 210 = .ok (.iload 7, 2) := by decide +kernel
theorem dX11_served_212 : decode cX11_served 212 = .ok (.iconst 1, 1) := by decide +kernel
theorem dX11_served_213 : decode cX11_served 213 = .ok (.isub, 1) := by decide +kernel
theorem dX11_served_214 : decode cX11_served 214 = .ok (.iload 11, 2) := by decide +kernel
theorem dX11_served_216 : decode cX11_served 216 = .ok (.isub, 1) := by decide +kernel
theorem dX11_served_217 : decode cX11_served 217 = .ok (.invokevirtual 143, 3) := by decide +kernel
theorem dX11_served_220 : decode cX11_served 220 = .ok (.isub, 1) := by decide +kernel
theorem dX11_served_221 : decode cX11_served 221 = .ok (.iadd, 1) := by decide +kernel
theorem dX11_served_222 : decode cX11_served 222 = .ok (.istore 10, 2) := by decide +kernel
theorem dX11_served_224 : decode cX11_served 224 = .ok (.iinc 11 1, 3) := by decide +kernel
theorem dX11_served_227 : decode cX11_served 227 = .ok (.goto (-56), 3) := by decide +kernel
theorem dX11_served_230 : decode cX11_served 230 = .ok (.iload_n 1, 1) := by decide +kernel
theorem dX11_served_231 : decode cX11_served 231 = .ok (.ifCond .ne 8, 3) := by decide +kernel
theorem dX11_served_234 : decode cX11_served 234 = .ok (.iload 8, 2) := by decide +kernel
theorem dX11_served_236 : decode cX11_served 236 = .ok (.goto 28, 3) := by decide +kernel
theorem dX11_served_239 : decode cX11_served 239 = .ok (.iload_n 1, 1) := by decide +kernel
theorem dX11_served_240 : decode cX11_served 240 = .ok (.iconst 1, 1) := by decide +kernel
theorem dX11_served_241 : decode cX11_served 241 = .ok (.if_icmp .ne 8, 3) := by decide +kernel
theorem dX11_served_244 : decode cX11_served 244 = .ok (.iload 9, 2) := by decide +kernel
theorem dX11_served_246 : decode cX11_served 246 = .ok (.goto 18, 3) := by decide +kernel
theorem dX11_served_249 : decode cX11_served 249 = .ok (.iload_n 1, 1) := by decide +kernel
theorem dX11_served_250 : decode cX11_served 250 = .ok (.iconst 2, 1) := by decide +kernel
theorem dX11_served_251 : decode cX11_served 251 = .ok (.if_icmp .ne 8, 3) := by decide +kernel
theorem dX11_served_254 : decode cX11_served 254 = .ok (.iload 10, 2) := by decide +kernel
theorem dX11_served_256 : decode cX11_served 256 = .ok (.goto 8, 3) := by decide +kernel
theorem dX11_served_259 : decode cX11_served 259 = .ok (.iload 5, 2) := by decide +kernel
theorem dX11_served_261 : decode cX11_served 261 = .ok (.iload 10, 2) := by decide +kernel
theorem dX11_served_263 : decode cX11_served 263 = .ok (.isub, 1) := by decide +kernel
theorem dX11_served_264 : decode cX11_served 264 = .ok (.ireturn, 1) := by decide +kernel
theorem dX11_common_0 : decode cX11_common 0 = .ok (.lload_n 0, 1) := by decide +kernel
theorem dX11_common_1 : decode cX11_common 1 = .ok (.lstore 4, 2) := by decide +kernel
theorem dX11_common_3 : decode cX11_common 3 = .ok (.lload_n 2, 1) := by decide +kernel
theorem dX11_common_4 : decode cX11_common 4 = .ok (.lstore 6, 2) := by decide +kernel
theorem dX11_common_6 : decode cX11_common 6 = .ok (.lload 6, 2) := by decide +kernel
theorem dX11_common_8 : decode cX11_common 8 = .ok (.lconst 0, 1) := by decide +kernel
theorem dX11_common_9 : decode cX11_common 9 = .ok (.lcmp, 1) := by decide +kernel
theorem dX11_common_10 : decode cX11_common 10 = .ok (.ifCond .eq 21, 3) := by decide +kernel
theorem dX11_common_13 : decode cX11_common 13 = .ok (.lload 4, 2) := by decide +kernel
theorem dX11_common_15 : decode cX11_common 15 = .ok (.lload 6, 2) := by decide +kernel
theorem dX11_common_17 : decode cX11_common 17 = .ok (.lrem, 1) := by decide +kernel
theorem dX11_common_18 : decode cX11_common 18 = .ok (.lstore 8, 2) := by decide +kernel
theorem dX11_common_20 : decode cX11_common 20 = .ok (.lload 6, 2) := by decide +kernel
theorem dX11_common_22 : decode cX11_common 22 = .ok (.lstore 4, 2) := by decide +kernel
theorem dX11_common_24 : decode cX11_common 24 = .ok (.lload 8, 2) := by decide +kernel
theorem dX11_common_26 : decode cX11_common 26 = .ok (.lstore 6, 2) := by decide +kernel
theorem dX11_common_28 : decode cX11_common 28 = .ok (.goto (-22), 3) := by decide +kernel
theorem dX11_common_31 : decode cX11_common 31 = .ok (.lload 4, 2) := by decide +kernel
theorem dX11_common_33 : decode cX11_common 33 = .ok (.lreturn, 1) := by decide +kernel
theorem dX11_pairs_0 : decode cX11_pairs 0 = .ok (.iload_n 1, 1) := by decide +kernel
theorem dX11_pairs_1 : decode cX11_pairs 1 = .ok (.i2l, 1) := by decide +kernel
theorem dX11_pairs_2 : decode cX11_pairs 2 = .ok (.lconst 0, 1) := by decide +kernel
theorem dX11_pairs_3 : decode cX11_pairs 3 = .ok (.lconst 1, 1) := by decide +kernel
theorem dX11_pairs_4 : decode cX11_pairs 4 = .ok (.invokestatic 79, 3) := by decide +kernel
theorem dX11_pairs_7 : decode cX11_pairs 7 = .ok (.ifCond .ne 7, 3) := by decide +kernel
theorem dX11_pairs_10 : decode cX11_pairs 10 = .ok (.ldc2_w 167, 3) := by decide +kernel
theorem dX11_pairs_13 : decode cX11_pairs 13 = .ok (.lreturn, 1) := by decide +kernel
theorem dX11_pairs_14 : decode cX11_pairs 14 = .ok (.lconst 0, 1) := by decide +kernel
theorem dX11_pairs_15 : decode cX11_pairs 15 = .ok (.lstore_n 2, 1) := by decide +kernel
theorem dX11_pairs_16 : decode cX11_pairs 16 = .ok (.iconst 0, 1) := by decide +kernel
theorem dX11_pairs_17 : decode cX11_pairs 17 = .ok (.istore 4, 2) := by decide +kernel
theorem dX11_pairs_19 : decode cX11_pairs 19 = .ok (.iload 4, 2) := by decide +kernel
theorem dX11_pairs_21 : decode cX11_pairs 21 = .ok (.aload_n 0, 1) := by decide +kernel
theorem dX11_pairs_22 : decode cX11_pairs 22 = .ok (.getfield 13, 3) := by decide +kernel
theorem dX11_pairs_25 : decode cX11_pairs 25 = .ok (.iconst 0, 1) := by decide +kernel
theorem dX11_pairs_26 : decode cX11_pairs 26 = .ok (.iaload, 1) := by decide +kernel
theorem dX11_pairs_27 : decode cX11_pairs 27 = .ok (.if_icmp .ge 109, 3) := by decide +kernel
theorem dX11_pairs_30 : decode cX11_pairs 30 = .ok (.iconst 0, 1) := by decide +kernel
theorem dX11_pairs_31 : decode cX11_pairs 31 = .ok (.istore 5, 2) := by decide +kernel
theorem dX11_pairs_33 : decode cX11_pairs 33 = .ok (.iload 5, 2) := by decide +kernel
theorem dX11_pairs_35 : decode cX11_pairs 35 = .ok (.aload_n 0, 1) := by decide +kernel
theorem dX11_pairs_36 : decode cX11_pairs 36 = .ok (.getfield 13, 3) := by decide +kernel
theorem dX11_pairs_39 : decode cX11_pairs 39 = .ok (.iconst 0, 1) := by decide +kernel
theorem dX11_pairs_40 : decode cX11_pairs 40 = .ok (.iaload, 1) := by decide +kernel
theorem dX11_pairs_41 : decode cX11_pairs 41 = .ok (.if_icmp .ge 89, 3) := by decide +kernel
theorem dX11_pairs_44 : decode cX11_pairs 44 = .ok (.aload_n 0, 1) := by decide +kernel
theorem dX11_pairs_45 : decode cX11_pairs 45 = .ok (.getfield 16, 3) := by decide +kernel
theorem dX11_pairs_48 : decode cX11_pairs 48 = .ok (.iload 4, 2) := by decide +kernel
theorem dX11_pairs_50 : decode cX11_pairs 50 = .ok (.iaload, 1) := by decide +kernel
theorem dX11_pairs_51 : decode cX11_pairs 51 = .ok (.ifCond .ne 42, 3) := by decide +kernel
theorem dX11_pairs_54 : decode cX11_pairs 54 = .ok (.aload_n 0, 1) := by decide +kernel
theorem dX11_pairs_55 : decode cX11_pairs 55 = .ok (.getfield 16, 3) := by decide +kernel
theorem dX11_pairs_58 : decode cX11_pairs 58 = .ok (.iload 5, 2) := by decide +kernel
theorem dX11_pairs_60 : decode cX11_pairs 60 = .ok (.iaload, 1) := by decide +kernel
theorem dX11_pairs_61 : decode cX11_pairs 61 = .ok (.iconst 1, 1) := by decide +kernel
theorem dX11_pairs_62 : decode cX11_pairs 62 = .ok (.if_icmp .ne 31, 3) := by decide +kernel
theorem dX11_pairs_65 : decode cX11_pairs 65 = .ok (.aload_n 0, 1) := by decide +kernel
theorem dX11_pairs_66 : decode cX11_pairs 66 = .ok (.getfield 19, 3) := by decide +kernel
theorem dX11_pairs_69 : decode cX11_pairs 69 = .ok (.iload 4, 2) := by decide +kernel
theorem dX11_pairs_71 : decode cX11_pairs 71 = .ok (.iaload, 1) := by decide +kernel
theorem dX11_pairs_72 : decode cX11_pairs 72 = .ok (.aload_n 0, 1) := by decide +kernel
theorem dX11_pairs_73 : decode cX11_pairs 73 = .ok (.getfield 19, 3) := by decide +kernel
theorem dX11_pairs_76 : decode cX11_pairs 76 = .ok (.iload 5, 2) := by decide +kernel
theorem dX11_pairs_78 : decode cX11_pairs 78 = .ok (.iaload, 1) := by decide +kernel
theorem dX11_pairs_79 : decode cX11_pairs 79 = .ok (.aload_n 0, 1) := by decide +kernel
theorem dX11_pairs_80 : decode cX11_pairs 80 = .ok (.getfield 25, 3) := by decide +kernel
theorem dX11_pairs_83 : decode cX11_pairs 83 = .ok (.iconst 1, 1) := by decide +kernel
theorem dX11_pairs_84 : decode cX11_pairs 84 = .ok (.iaload, 1) := by decide +kernel
theorem dX11_pairs_85 : decode cX11_pairs 85 = .ok (.iadd, 1) := by decide +kernel
theorem dX11_pairs_86 : decode cX11_pairs 86 = .ok (.if_icmp .lt 7, 3) := by decide +kernel
theorem dX11_pairs_89 : decode cX11_pairs 89 = .ok (.iconst 1, 1) := by decide +kernel
theorem dX11_pairs_90 : decode cX11_pairs 90 = .ok (.goto 4, 3) := by decide +kernel
theorem dX11_pairs_93 : decode cX11_pairs 93 = .ok (.iconst 0, 1) := by decide +kernel
theorem dX11_pairs_94 : decode cX11_pairs 94 = .ok (.istore 6, 2) := by decide +kernel
theorem dX11_pairs_96 : decode cX11_pairs 96 = .ok (.lload_n 2, 1) := by decide +kernel
theorem dX11_pairs_97 : decode cX11_pairs 97 = .ok (.iload 6, 2) := by decide +kernel
theorem dX11_pairs_99 : decode cX11_pairs 99 = .ok (.ifCond .eq 22, 3) := by decide +kernel
theorem dX11_pairs_102 : decode cX11_pairs 102 = .ok (.aload_n 0, 1) := by decide +kernel
theorem dX11_pairs_103 : decode cX11_pairs 103 = .ok (.getfield 19, 3) := by decide +kernel
theorem dX11_pairs_106 : decode cX11_pairs 106 = .ok (.iload 4, 2) := by decide +kernel
theorem dX11_pairs_108 : decode cX11_pairs 108 = .ok (.iaload, 1) := by decide +kernel
theorem dX11_pairs_109 : decode cX11_pairs 109 = .ok (.aload_n 0, 1) := by decide +kernel
theorem dX11_pairs_110 : decode cX11_pairs 110 = .ok (.getfield 19, 3) := by decide +kernel
theorem dX11_pairs_113 : decode cX11_pairs 113 = .ok (.iload 5, 2) := by decide +kernel
theorem dX11_pairs_115 : decode cX11_pairs 115 = .ok (.iaload, 1) := by decide +kernel
theorem dX11_pairs_116 : decode cX11_pairs 116 = .ok (.isub, 1) := by decide +kernel
theorem dX11_pairs_117 : decode cX11_pairs 117 = .ok (.i2l, 1) := by decide +kernel
theorem dX11_pairs_118 : decode cX11_pairs 118 = .ok (.goto 4, 3) := by decide +kernel
theorem dX11_pairs_121 : decode cX11_pairs 121 = .ok (.lconst 0, 1) := by decide +kernel
theorem dX11_pairs_122 : decode cX11_pairs 122 = .ok (.ladd, 1) := by decide +kernel
theorem dX11_pairs_123 : decode cX11_pairs 123 = .ok (.lstore_n 2, 1) := by decide +kernel
theorem dX11_pairs_124 : decode cX11_pairs 124 = .ok (.iinc 5 1, 3) := by decide +kernel
theorem dX11_pairs_127 : decode cX11_pairs 127 = .ok (.goto (-94), 3) := by decide +kernel
theorem dX11_pairs_130 : decode cX11_pairs 130 = .ok (.iinc 4 1, 3) := by decide +kernel
theorem dX11_pairs_133 : decode cX11_pairs 133 = .ok (.goto (-114), 3) := by decide +kernel
theorem dX11_pairs_136 : decode cX11_pairs 136 = .ok (.aload_n 0, 1) := by decide +kernel
theorem dX11_pairs_137 : decode cX11_pairs 137 = .ok (.iconst 0, 1) := by decide +kernel
theorem dX11_pairs_138 : decode cX11_pairs 138 = .ok (.invokevirtual 169, 3) := by decide +kernel
theorem dX11_pairs_141 : decode cX11_pairs 141 = .ok (.aload_n 0, 1) := by decide +kernel
theorem dX11_pairs_142 : decode cX11_pairs 142 = .ok (.iconst 1, 1) := by decide +kernel
theorem dX11_pairs_143 : decode cX11_pairs 143 = .ok (.invokevirtual 169, 3) := by decide +kernel
theorem dX11_pairs_146 : decode cX11_pairs 146 = .ok (.if_icmp .le 11, 3) := by decide +kernel
theorem dX11_pairs_149 : decode cX11_pairs 149 = .ok (.aload_n 0, 1) := by decide +kernel
theorem dX11_pairs_150 : decode cX11_pairs 150 = .ok (.iconst 0, 1) := by decide +kernel
theorem dX11_pairs_151 : decode cX11_pairs 151 = .ok (.invokevirtual 169, 3) := by decide +kernel
theorem dX11_pairs_154 : decode cX11_pairs 154 = .ok (.goto 8, 3) := by decide +kernel
theorem dX11_pairs_157 : decode cX11_pairs 157 = .ok (.aload_n 0, 1) := by decide +kernel
theorem dX11_pairs_158 : decode cX11_pairs 158 = .ok (.iconst 1, 1) := by decide +kernel
theorem dX11_pairs_159 : decode cX11_pairs 159 = .ok (.invokevirtual 169, 3) := by decide +kernel
theorem dX11_pairs_162 : decode cX11_pairs 162 = .ok (.istore 4, 2) := by decide +kernel
theorem dX11_pairs_164 : decode cX11_pairs 164 = .ok (.lload_n 2, 1) := by decide +kernel
theorem dX11_pairs_165 : decode cX11_pairs 165 = .ok (.iload 4, 2) := by decide +kernel
theorem dX11_pairs_167 : decode cX11_pairs 167 = .ok (.i2l, 1) := by decide +kernel
theorem dX11_pairs_168 : decode cX11_pairs 168 = .ok (.invokestatic 172, 3) := by decide +kernel
theorem dX11_pairs_171 : decode cX11_pairs 171 = .ok (.lstore 5, 2) := by decide +kernel
theorem dX11_pairs_173 : decode cX11_pairs 173 = .ok (.iload_n 1, 1) := by decide +kernel
theorem dX11_pairs_174 : decode cX11_pairs 174 = .ok (.ifCond .ne 10, 3) := by decide +kernel
theorem dX11_pairs_177 : decode cX11_pairs 177 = .ok (.lload_n 2, 1) := by decide +kernel
theorem dX11_pairs_178 : decode cX11_pairs 178 = .ok (.lload 5, 2) := by decide +kernel
theorem dX11_pairs_180 : decode cX11_pairs 180 = .ok (.ldiv, 1) := by decide +kernel
theorem dX11_pairs_181 : decode cX11_pairs 181 = .ok (.goto 9, 3) := by decide +kernel
theorem dX11_pairs_184 : decode cX11_pairs 184 = .ok (.iload 4, 2) := by decide +kernel
theorem dX11_pairs_186 : decode cX11_pairs 186 = .ok (.i2l, 1) := by decide +kernel
theorem dX11_pairs_187 : decode cX11_pairs 187 = .ok (.lload 5, 2) := by decide +kernel
theorem dX11_pairs_189 : decode cX11_pairs 189 = .ok (.ldiv, 1) := by decide +kernel
theorem dX11_pairs_190 : decode cX11_pairs 190 = .ok (.lreturn, 1) := by decide +kernel
theorem dX11_isFirst_0 : decode cX11_isFirst 0 = .ok (.iconst 0, 1) := by decide +kernel
theorem dX11_isFirst_1 : decode cX11_isFirst 1 = .ok (.istore_n 3, 1) := by decide +kernel
theorem dX11_isFirst_2 : decode cX11_isFirst 2 = .ok (.iconst 0, 1) := by decide +kernel
theorem dX11_isFirst_3 : decode cX11_isFirst 3 = .ok (.istore 4, 2) := by decide +kernel
theorem dX11_isFirst_5 : decode cX11_isFirst 5 = .ok (.iload 4, 2) := by decide +kernel
theorem dX11_isFirst_7 : decode cX11_isFirst 7 = .ok (.iload_n 2, 1) := by decide +kernel
theorem dX11_isFirst_8 : decode cX11_isFirst 8 = .ok (.if_icmp .ge 41, 3) := by decide +kernel
theorem dX11_isFirst_11 : decode cX11_isFirst 11 = .ok (.iload_n 3, 1) := by decide +kernel
theorem dX11_isFirst_12 : decode cX11_isFirst 12 = .ok (.ifCond .ne 25, 3) := by decide +kernel
theorem dX11_isFirst_15 : decode cX11_isFirst 15 = .ok (.aload_n 0, 1) := by decide +kernel
theorem dX11_isFirst_16 : decode cX11_isFirst 16 = .ok (.getfield 52, 3) := by decide +kernel
theorem dX11_isFirst_19 : decode cX11_isFirst 19 = .ok (.iload 4, 2) := by decide +kernel
theorem dX11_isFirst_21 : decode cX11_isFirst 21 = .ok (.iaload, 1) := by decide +kernel
theorem dX11_isFirst_22 : decode cX11_isFirst 22 = .ok (.iload_n 1, 1) := by decide +kernel
theorem dX11_isFirst_23 : decode cX11_isFirst 23 = .ok (.if_icmp .eq 14, 3) := by decide +kernel
theorem dX11_isFirst_26 : decode cX11_isFirst 26 = .ok (.aload_n 0, 1) := by decide +kernel
theorem dX11_isFirst_27 : decode cX11_isFirst 27 = .ok (.getfield 55, 3) := by decide +kernel
theorem dX11_isFirst_30 : decode cX11_isFirst 30 = .ok (.iload 4, 2) := by decide +kernel
theorem dX11_isFirst_32 : decode cX11_isFirst 32 = .ok (.iaload, 1) := by decide +kernel
theorem dX11_isFirst_33 : decode cX11_isFirst 33 = .ok (.iload_n 1, 1) := by decide +kernel
theorem dX11_isFirst_34 : decode cX11_isFirst 34 = .ok (.if_icmp .ne 7, 3) := by decide +kernel
theorem dX11_isFirst_37 : decode cX11_isFirst 37 = .ok (.iconst 1, 1) := by decide +kernel
theorem dX11_isFirst_38 : decode cX11_isFirst 38 = .ok (.goto 4, 3) := by decide +kernel
theorem dX11_isFirst_41 : decode cX11_isFirst 41 = .ok (.iconst 0, 1) := by decide +kernel
theorem dX11_isFirst_42 : decode cX11_isFirst 42 = .ok (.istore_n 3, 1) := by decide +kernel
theorem dX11_isFirst_43 : decode cX11_isFirst 43 = .ok (.iinc 4 1, 3) := by decide +kernel
theorem dX11_isFirst_46 : decode cX11_isFirst 46 = .ok (.goto (-41), 3) := by decide +kernel
theorem dX11_isFirst_49 : decode cX11_isFirst 49 = .ok (.iload_n 3, 1) := by decide +kernel
theorem dX11_isFirst_50 : decode cX11_isFirst 50 = .ok (.ireturn, 1) := by decide +kernel
theorem dX11_bellOf_0 : decode cX11_bellOf 0 = .ok (.aload_n 0, 1) := by decide +kernel
theorem dX11_bellOf_1 : decode cX11_bellOf 1 = .ok (.invokevirtual 148, 3) := by decide +kernel
theorem dX11_bellOf_4 : decode cX11_bellOf 4 = .ok (.aload_n 0, 1) := by decide +kernel
theorem dX11_bellOf_5 : decode cX11_bellOf 5 = .ok (.getfield 49, 3) := by decide +kernel
theorem dX11_bellOf_8 : decode cX11_bellOf 8 = .ok (.iload_n 1, 1) := by decide +kernel
theorem dX11_bellOf_9 : decode cX11_bellOf 9 = .ok (.iload_n 2, 1) := by decide +kernel
theorem dX11_bellOf_10 : decode cX11_bellOf 10 = .ok (.iastore, 1) := by decide +kernel
theorem dX11_bellOf_11 : decode cX11_bellOf 11 = .ok (.aload_n 0, 1) := by decide +kernel
theorem dX11_bellOf_12 : decode cX11_bellOf 12 = .ok (.invokevirtual 151, 3) := by decide +kernel
theorem dX11_bellOf_15 : decode cX11_bellOf 15 = .ok (.aload_n 0, 1) := by decide +kernel
theorem dX11_bellOf_16 : decode cX11_bellOf 16 = .ok (.getfield 25, 3) := by decide +kernel
theorem dX11_bellOf_19 : decode cX11_bellOf 19 = .ok (.iconst 1, 1) := by decide +kernel
theorem dX11_bellOf_20 : decode cX11_bellOf 20 = .ok (.iaload, 1) := by decide +kernel
theorem dX11_bellOf_21 : decode cX11_bellOf 21 = .ok (.istore_n 3, 1) := by decide +kernel
theorem dX11_bellOf_22 : decode cX11_bellOf 22 = .ok (.aload_n 0, 1) := by decide +kernel
theorem dX11_bellOf_23 : decode cX11_bellOf 23 = .ok (.iload_n 3, 1) := by decide +kernel
theorem dX11_bellOf_24 : decode cX11_bellOf 24 = .ok (.invokevirtual 154, 3) := by decide +kernel
theorem dX11_bellOf_27 : decode cX11_bellOf 27 = .ok (.istore 4, 2) := by decide +kernel
theorem dX11_bellOf_29 : decode cX11_bellOf 29 = .ok (.iload 4, 2) := by decide +kernel
theorem dX11_bellOf_31 : decode cX11_bellOf 31 = .ok (.ifCond .eq 13, 3) := by decide +kernel
theorem dX11_bellOf_34 : decode cX11_bellOf 34 = .ok (.aload_n 0, 1) := by decide +kernel
theorem dX11_bellOf_35 : decode cX11_bellOf 35 = .ok (.iload_n 1, 1) := by decide +kernel
theorem dX11_bellOf_36 : decode cX11_bellOf 36 = .ok (.iload 4, 2) := by decide +kernel
theorem dX11_bellOf_38 : decode cX11_bellOf 38 = .ok (.invokevirtual 176, 3) := by decide +kernel
theorem dX11_bellOf_41 : decode cX11_bellOf 41 = .ok (.ifCond .ne 5, 3) := by decide +kernel
theorem dX11_bellOf_44 : decode cX11_bellOf 44 = .ok (.iconst 0, 1) := by decide +kernel
theorem dX11_bellOf_45 : decode cX11_bellOf 45 = .ok (.ireturn, 1) := by decide +kernel
theorem dX11_bellOf_46 : decode cX11_bellOf 46 = .ok (.aload_n 0, 1) := by decide +kernel
theorem dX11_bellOf_47 : decode cX11_bellOf 47 = .ok (.iload 4, 2) := by decide +kernel
theorem dX11_bellOf_49 : decode cX11_bellOf 49 = .ok (.iload_n 3, 1) := by decide +kernel
theorem dX11_bellOf_50 : decode cX11_bellOf 50 = .ok (.invokevirtual 160, 3) := by decide +kernel
theorem dX11_bellOf_53 : decode cX11_bellOf 53 = .ok (.istore 5, 2) := by decide +kernel
theorem dX11_bellOf_55 : decode cX11_bellOf 55 = .ok (.aload_n 0, 1) := by decide +kernel
theorem dX11_bellOf_56 : decode cX11_bellOf 56 = .ok (.getfield 16, 3) := by decide +kernel
theorem dX11_bellOf_59 : decode cX11_bellOf 59 = .ok (.iload_n 1, 1) := by decide +kernel
theorem dX11_bellOf_60 : decode cX11_bellOf 60 = .ok (.iaload, 1) := by decide +kernel
theorem dX11_bellOf_61 : decode cX11_bellOf 61 = .ok (.ifCond .ne 15, 3) := by decide +kernel
theorem dX11_bellOf_64 : decode cX11_bellOf 64 = .ok (.aload_n 0, 1) := by decide +kernel
theorem dX11_bellOf_65 : decode cX11_bellOf 65 = .ok (.getfield 19, 3) := by decide +kernel
theorem dX11_bellOf_68 : decode cX11_bellOf 68 = .ok (.iload_n 1, 1) := by decide +kernel
theorem dX11_bellOf_69 : decode cX11_bellOf 69 = .ok (.iaload, 1) := by decide +kernel
theorem dX11_bellOf_70 : decode cX11_bellOf 70 = .ok (.iload 5, 2) := by decide +kernel
theorem dX11_bellOf_72 : decode cX11_bellOf 72 = .ok (.isub, 1) := by decide +kernel
theorem dX11_bellOf_73 : decode cX11_bellOf 73 = .ok (.goto 14, 3) := by decide +kernel
theorem dX11_bellOf_76 : decode cX11_bellOf 76 = .ok (.iload 5, 2) := by decide +kernel
theorem dX11_bellOf_78 : decode cX11_bellOf 78 = .ok (.iload_n 3, 1) := by decide +kernel
theorem dX11_bellOf_79 : decode cX11_bellOf 79 = .ok (.isub, 1) := by decide +kernel
theorem dX11_bellOf_80 : decode cX11_bellOf 80 = .ok (.aload_n 0, 1) := by decide +kernel
theorem dX11_bellOf_81 : decode cX11_bellOf 81 = .ok (.getfield 19, 3) := by decide +kernel
theorem dX11_bellOf_84 : decode cX11_bellOf 84 = .ok (.iload_n 1, 1) := by decide +kernel
theorem dX11_bellOf_85 : decode cX11_bellOf 85 = .ok (.iaload, 1) := by decide +kernel
theorem dX11_bellOf_86 : decode cX11_bellOf 86 = .ok (.isub, 1) := by decide +kernel
theorem dX11_bellOf_87 : decode cX11_bellOf 87 = .ok (.ireturn, 1) := by decide +kernel
theorem dX11_bell_0 : decode cX11_bell 0 = .ok (.aload_n 0, 1) := by decide +kernel
theorem dX11_bell_1 : decode cX11_bell 1 = .ok (.iload_n 1, 1) := by decide +kernel
theorem dX11_bell_2 : decode cX11_bell 2 = .ok (.invokevirtual 127, 3) := by decide +kernel
theorem dX11_bell_5 : decode cX11_bell 5 = .ok (.ifCond .eq 24, 3) := by decide +kernel
theorem dX11_bell_8 : decode cX11_bell 8 = .ok (.iload_n 2, 1) := by decide +kernel
theorem dX11_bell_9 : decode cX11_bell 9 = .ok (.i2l, 1) := by decide +kernel
theorem dX11_bell_10 : decode cX11_bell 10 = .ok (.lconst 0, 1) := by decide +kernel
theorem dX11_bell_11 : decode cX11_bell 11 = .ok (.ldc2_w 180, 3) := by decide +kernel
theorem dX11_bell_14 : decode cX11_bell 14 = .ok (.invokestatic 79, 3) := by decide +kernel
theorem dX11_bell_17 : decode cX11_bell 17 = .ok (.ifCond .eq 12, 3) := by decide +kernel
theorem dX11_bell_20 : decode cX11_bell 20 = .ok (.aload_n 0, 1) := by decide +kernel
theorem dX11_bell_21 : decode cX11_bell 21 = .ok (.iload_n 1, 1) := by decide +kernel
theorem dX11_bell_22 : decode cX11_bell 22 = .ok (.iload_n 2, 1) := by decide +kernel
theorem dX11_bell_23 : decode cX11_bell 23 = .ok (.invokevirtual 182, 3) := by decide +kernel
theorem dX11_bell_26 : decode cX11_bell 26 = .ok (.goto 6, 3) := by decide +kernel
theorem dX11_bell_29 : decode cX11_bell 29 = .ok (.sipush (-1000), 3) := by decide +kernel
theorem dX11_bell_32 : decode cX11_bell 32 = .ok (.ireturn, 1) := by decide +kernel
theorem dX11_best_0 : decode cX11_best 0 = .ok (.aload_n 0, 1) := by decide +kernel
theorem dX11_best_1 : decode cX11_best 1 = .ok (.iload_n 1, 1) := by decide +kernel
theorem dX11_best_2 : decode cX11_best 2 = .ok (.invokevirtual 127, 3) := by decide +kernel
theorem dX11_best_5 : decode cX11_best 5 = .ok (.ifCond .eq 13, 3) := by decide +kernel
theorem dX11_best_8 : decode cX11_best 8 = .ok (.iload_n 2, 1) := by decide +kernel
theorem dX11_best_9 : decode cX11_best 9 = .ok (.i2l, 1) := by decide +kernel
theorem dX11_best_10 : decode cX11_best 10 = .ok (.lconst 0, 1) := by decide +kernel
theorem dX11_best_11 : decode cX11_best 11 = .ok (.lconst 1, 1) := by decide +kernel
theorem dX11_best_12 : decode cX11_best 12 = .ok (.invokestatic 79, 3) := by decide +kernel
theorem dX11_best_15 : decode cX11_best 15 = .ok (.ifCond .ne 5, 3) := by decide +kernel
theorem dX11_best_18 : decode cX11_best 18 = .ok (.iconst (-1), 1) := by decide +kernel
theorem dX11_best_19 : decode cX11_best 19 = .ok (.ireturn, 1) := by decide +kernel
theorem dX11_best_20 : decode cX11_best 20 = .ok (.aload_n 0, 1) := by decide +kernel
theorem dX11_best_21 : decode cX11_best 21 = .ok (.getfield 19, 3) := by decide +kernel
theorem dX11_best_24 : decode cX11_best 24 = .ok (.iload_n 1, 1) := by decide +kernel
theorem dX11_best_25 : decode cX11_best 25 = .ok (.iaload, 1) := by decide +kernel
theorem dX11_best_26 : decode cX11_best 26 = .ok (.istore_n 3, 1) := by decide +kernel
theorem dX11_best_27 : decode cX11_best 27 = .ok (.aload_n 0, 1) := by decide +kernel
theorem dX11_best_28 : decode cX11_best 28 = .ok (.iload_n 1, 1) := by decide +kernel
theorem dX11_best_29 : decode cX11_best 29 = .ok (.iload_n 3, 1) := by decide +kernel
theorem dX11_best_30 : decode cX11_best 30 = .ok (.invokevirtual 182, 3) := by decide +kernel
theorem dX11_best_33 : decode cX11_best 33 = .ok (.istore 4, 2) := by decide +kernel
theorem dX11_best_35 : decode cX11_best 35 = .ok (.iconst 1, 1) := by decide +kernel
theorem dX11_best_36 : decode cX11_best 36 = .ok (.istore 5, 2) := by decide +kernel
theorem dX11_best_38 : decode cX11_best 38 = .ok (.iload 5, 2) := by decide +kernel
theorem dX11_best_40 : decode cX11_best 40 = .ok (.bipush 100, 2) := by decide +kernel
theorem dX11_best_42 : decode cX11_best 42 = .ok (.if_icmp .ge 75, 3) := by decide +kernel
theorem dX11_best_45 : decode cX11_best 45 = .ok (.iconst (-1), 1) := by decide +kernel
theorem dX11_best_46 : decode cX11_best 46 = .ok (.istore 6, 2) := by decide +kernel
theorem dX11_best_48 : decode cX11_best 48 = .ok (.iload 6, 2) := by decide +kernel
theorem dX11_best_50 : decode cX11_best 50 = .ok (.iconst 2, 1) := by decide +kernel
theorem dX11_best_51 : decode cX11_best 51 = .ok (.if_icmp .ge 60, 3) := by decide +kernel
theorem dX11_best_54 : decode cX11_best 54 = .ok (.aload_n 0, 1) := by decide +kernel
theorem dX11_best_55 : decode cX11_best 55 = .ok (.getfield 19, 3) := by decide +kernel
theorem dX11_best_58 : decode cX11_best 58 = .ok (.iload_n 1, 1) := by decide +kernel
theorem dX11_best_59 : decode cX11_best 59 = .ok (.iaload, 1) := by decide +kernel
theorem dX11_best_60 : decode cX11_best 60 = .ok (.iload 6, 2) := by decide +kernel
theorem dX11_best_62 : decode cX11_best 62 = .ok (.iload 5, 2) := by decide +kernel
theorem dX11_best_64 : decode cX11_best 64 = .ok (.imul, 1) := by decide +kernel
theorem dX11_best_65 : decode cX11_best 65 = .ok (.iadd, 1) := by decide +kernel
theorem dX11_best_66 : decode cX11_best 66 = .ok (.istore 7, 2) := by decide +kernel
theorem dX11_best_68 : decode cX11_best 68 = .ok (.iload 7, 2) := by decide +kernel
theorem dX11_best_70 : decode cX11_best 70 = .ok (.i2l, 1) := by decide +kernel
theorem dX11_best_71 : decode cX11_best 71 = .ok (.lconst 0, 1) := by decide +kernel
theorem dX11_best_72 : decode cX11_best 72 = .ok (.ldc2_w 180, 3) := by decide +kernel
theorem dX11_best_75 : decode cX11_best 75 = .ok (.invokestatic 79, 3) := by decide +kernel
theorem dX11_best_78 : decode cX11_best 78 = .ok (.ifCond .eq 27, 3) := by decide +kernel
theorem dX11_best_81 : decode cX11_best 81 = .ok (.aload_n 0, 1) := by decide +kernel
theorem dX11_best_82 : decode cX11_best 82 = .ok (.iload_n 1, 1) := by decide +kernel
theorem dX11_best_83 : decode cX11_best 83 = .ok (.iload 7, 2) := by decide +kernel
theorem dX11_best_85 : decode cX11_best 85 = .ok (.invokevirtual 182, 3) := by decide +kernel
theorem dX11_best_88 : decode cX11_best 88 = .ok (.iload 4, 2) := by decide +kernel
theorem dX11_best_90 : decode cX11_best 90 = .ok (.if_icmp .le 15, 3) := by decide +kernel
theorem dX11_best_93 : decode cX11_best 93 = .ok (.aload_n 0, 1) := by decide +kernel
theorem dX11_best_94 : decode cX11_best 94 = .ok (.iload_n 1, 1) := by decide +kernel
theorem dX11_best_95 : decode cX11_best 95 = .ok (.iload 7, 2) := by decide +kernel
theorem dX11_best_97 : decode cX11_best 97 = .ok (.invokevirtual 182, 3) := by decide +kernel
theorem dX11_best_100 : decode cX11_best 100 = .ok (.istore 4, 2) := by decide +kernel
theorem dX11_best_102 : decode cX11_best 102 = .ok (.iload 7, 2) := by decide +kernel
theorem dX11_best_104 : decode cX11_best 104 = .ok (.istore_n 3, 1) := by decide +kernel
theorem dX11_best_105 : decode cX11_best 105 = .ok (.iinc 6 2, 3) := by decide +kernel
theorem dX11_best_108 : decode cX11_best 108 = .ok (.goto (-60), 3) := by decide +kernel
theorem dX11_best_111 : decode cX11_best 111 = .ok (.iinc 5 1, 3) := by decide +kernel
theorem dX11_best_114 : decode cX11_best 114 = .ok (.goto (-76), 3) := by decide +kernel
theorem dX11_best_117 : decode cX11_best 117 = .ok (.iload_n 2, 1) := by decide +kernel
theorem dX11_best_118 : decode cX11_best 118 = .ok (.ifCond .ne 7, 3) := by decide +kernel
theorem dX11_best_121 : decode cX11_best 121 = .ok (.iload_n 3, 1) := by decide +kernel
theorem dX11_best_122 : decode cX11_best 122 = .ok (.goto 5, 3) := by decide +kernel
theorem dX11_best_125 : decode cX11_best 125 = .ok (.iload 4, 2) := by decide +kernel
theorem dX11_best_127 : decode cX11_best 127 = .ok (.ireturn, 1) := by decide +kernel
theorem dX11_draw_0 : decode cX11_draw 0 = .ok (.ldc2_w 185, 3) := by decide +kernel
theorem dX11_draw_3 : decode cX11_draw 3 = .ok (.aload_n 0, 1) := by decide +kernel
theorem dX11_draw_4 : decode cX11_draw 4 = .ok (.getfield 187, 3) := by decide +kernel
theorem dX11_draw_7 : decode cX11_draw 7 = .ok (.i2l, 1) := by decide +kernel
theorem dX11_draw_8 : decode cX11_draw 8 = .ok (.lmul, 1) := by decide +kernel
theorem dX11_draw_9 : decode cX11_draw 9 = .ok (.ldc2_w 190, 3) := by decide +kernel
theorem dX11_draw_12 : decode cX11_draw 12 = .ok (.iload_n 1, 1) := by decide +kernel
theorem dX11_draw_13 : decode cX11_draw 13 = .ok (.i2l, 1) := by decide +kernel
theorem dX11_draw_14 : decode cX11_draw 14 = .ok (.lmul, 1) := by decide +kernel
theorem dX11_draw_15 : decode cX11_draw 15 = .ok (.ladd, 1) := by decide +kernel
theorem dX11_draw_16 : decode cX11_draw 16 = .ok (.ldc2_w 192, 3) := by decide +kernel
theorem dX11_draw_19 : decode cX11_draw 19 = .ok (.iload_n 2, 1) := by decide +kernel
theorem dX11_draw_20 : decode cX11_draw 20 = .ok (.i2l, 1) := by decide +kernel
theorem dX11_draw_21 : decode cX11_draw 21 = .ok (.lmul, 1) := by decide +kernel
theorem dX11_draw_22 : decode cX11_draw 22 = .ok (.ladd, 1) := by decide +kernel
theorem dX11_draw_23 : decode cX11_draw 23 = .ok (.lconst 1, 1) := by decide +kernel
theorem dX11_draw_24 : decode cX11_draw 24 = .ok (.ladd, 1) := by decide +kernel
theorem dX11_draw_25 : decode cX11_draw 25 = .ok (.lstore_n 3, 1) := by decide +kernel
theorem dX11_draw_26 : decode cX11_draw 26 = .ok (.lload_n 3, 1) := by decide +kernel
theorem dX11_draw_27 : decode cX11_draw 27 = .ok (.lload_n 3, 1) := by decide +kernel
theorem dX11_draw_28 : decode cX11_draw 28 = .ok (.lmul, 1) := by decide +kernel
theorem dX11_draw_29 : decode cX11_draw 29 = .ok (.ldc2_w 194, 3) := by decide +kernel
theorem dX11_draw_32 : decode cX11_draw 32 = .ok (.lrem, 1) := by decide +kernel
theorem dX11_draw_33 : decode cX11_draw 33 = .ok (.l2i, 1) := by decide +kernel
theorem dX11_draw_34 : decode cX11_draw 34 = .ok (.ireturn, 1) := by decide +kernel
theorem dX11_shoutBy_0 : decode cX11_shoutBy 0 = .ok (.iload_n 2, 1) := by decide +kernel
theorem dX11_shoutBy_1 : decode cX11_shoutBy 1 = .ok (.ifCond .ne 12, 3) := by decide +kernel
theorem dX11_shoutBy_4 : decode cX11_shoutBy 4 = .ok (.iload 6, 2) := by decide +kernel
theorem dX11_shoutBy_6 : decode cX11_shoutBy 6 = .ok (.iload_n 3, 1) := by decide +kernel
theorem dX11_shoutBy_7 : decode cX11_shoutBy 7 = .ok (.iconst 1, 1) := by decide +kernel
theorem dX11_shoutBy_8 : decode cX11_shoutBy 8 = .ok (.iadd, 1) := by decide +kernel
theorem dX11_shoutBy_9 : decode cX11_shoutBy 9 = .ok (.irem, 1) := by decide +kernel
theorem dX11_shoutBy_10 : decode cX11_shoutBy 10 = .ok (.goto 12, 3) := by decide +kernel
theorem dX11_shoutBy_13 : decode cX11_shoutBy 13 = .ok (.iload_n 3, 1) := by decide +kernel
theorem dX11_shoutBy_14 : decode cX11_shoutBy 14 = .ok (.iload 6, 2) := by decide +kernel
theorem dX11_shoutBy_16 : decode cX11_shoutBy 16 = .ok (.bipush 100, 2) := by decide +kernel
theorem dX11_shoutBy_18 : decode cX11_shoutBy 18 = .ok (.iload_n 3, 1) := by decide +kernel
theorem dX11_shoutBy_19 : decode cX11_shoutBy 19 = .ok (.isub, 1) := by decide +kernel
theorem dX11_shoutBy_20 : decode cX11_shoutBy 20 = .ok (.irem, 1) := by decide +kernel
theorem dX11_shoutBy_21 : decode cX11_shoutBy 21 = .ok (.iadd, 1) := by decide +kernel
theorem dX11_shoutBy_22 : decode cX11_shoutBy 22 = .ok (.istore 7, 2) := by decide +kernel
theorem dX11_shoutBy_24 : decode cX11_shoutBy 24 = .ok (.iload 7, 2) := by decide +kernel
theorem dX11_shoutBy_26 : decode cX11_shoutBy 26 = .ok (.istore 8, 2) := by decide +kernel
theorem dX11_shoutBy_28 : decode cX11_shoutBy 28 = .ok (.iload_n 1, 1) := by decide +kernel
theorem dX11_shoutBy_29 : decode cX11_shoutBy 29 = .ok (.iconst 3, 1) := by decide +kernel
theorem dX11_shoutBy_30 : decode cX11_shoutBy 30 = .ok (.if_icmp .ne 22, 3) := by decide +kernel
theorem dX11_shoutBy_33 : decode cX11_shoutBy 33 = .ok (.iconst 4, 1) := by decide +kernel
theorem dX11_shoutBy_34 : decode cX11_shoutBy 34 = .ok (.iload 4, 2) := by decide +kernel
theorem dX11_shoutBy_36 : decode cX11_shoutBy 36 = .ok (.imul, 1) := by decide +kernel
theorem dX11_shoutBy_37 : decode cX11_shoutBy 37 = .ok (.iconst 3, 1) := by decide +kernel
theorem dX11_shoutBy_38 : decode cX11_shoutBy 38 = .ok (.aload_n 0, 1) := by decide +kernel
theorem dX11_shoutBy_39 : decode cX11_shoutBy 39 = .ok (.getfield 25, 3) := by decide +kernel
theorem dX11_shoutBy_42 : decode cX11_shoutBy 42 = .ok (.iconst 0, 1) := by decide +kernel
theorem dX11_shoutBy_43 : decode cX11_shoutBy 43 = .ok (.iaload, 1) := by decide +kernel
theorem dX11_shoutBy_44 : decode cX11_shoutBy 44 = .ok (.imul, 1) := by decide +kernel
theorem dX11_shoutBy_45 : decode cX11_shoutBy 45 = .ok (.if_icmp .lt 7, 3) := by decide +kernel
theorem dX11_shoutBy_48 : decode cX11_shoutBy 48 = .ok (.iconst 1, 1) := by decide +kernel
theorem dX11_shoutBy_49 : decode cX11_shoutBy 49 = .ok (.goto 4, 3) := by decide +kernel
theorem dX11_shoutBy_52 : decode cX11_shoutBy 52 = .ok (.iconst 0, 1) := by decide +kernel
theorem dX11_shoutBy_53 : decode cX11_shoutBy 53 = .ok (.istore 9, 2) := by decide +kernel
theorem dX11_shoutBy_55 : decode cX11_shoutBy 55 = .ok (.iload 9, 2) := by decide +kernel
theorem dX11_shoutBy_57 : decode cX11_shoutBy 57 = .ok (.ifCond .eq 9, 3) := by decide +kernel
theorem dX11_shoutBy_60 : decode cX11_shoutBy 60 = .ok (.iload_n 3, 1) := by decide +kernel
theorem dX11_shoutBy_61 : decode cX11_shoutBy 61 = .ok (.istore 8, 2) := by decide +kernel
theorem dX11_shoutBy_63 : decode cX11_shoutBy 63 = .ok (.goto 222, 3) := by decide +kernel
theorem dX11_shoutBy_66 : decode cX11_shoutBy 66 = .ok (.iload_n 1, 1) := by decide +kernel
theorem dX11_shoutBy_67 : decode cX11_shoutBy 67 = .ok (.iconst 1, 1) := by decide +kernel
theorem dX11_shoutBy_68 : decode cX11_shoutBy 68 = .ok (.if_icmp .eq 8, 3) := by decide +kernel
theorem dX11_shoutBy_71 : decode cX11_shoutBy 71 = .ok (.iload_n 1, 1) := by decide +kernel
theorem dX11_shoutBy_72 : decode cX11_shoutBy 72 = .ok (.iconst 3, 1) := by decide +kernel
theorem dX11_shoutBy_73 : decode cX11_shoutBy 73 = .ok (.if_icmp .ne 90, 3) := by decide +kernel
theorem dX11_shoutBy_76 : decode cX11_shoutBy 76 = .ok (.iload 5, 2) := by decide +kernel
theorem dX11_shoutBy_78 : decode cX11_shoutBy 78 = .ok (.ifCond .lt 85, 3) := by decide +kernel
theorem dX11_shoutBy_81 : decode cX11_shoutBy 81 = .ok (.iload 5, 2) := by decide +kernel
theorem dX11_shoutBy_83 : decode cX11_shoutBy 83 = .ok (.aload_n 0, 1) := by decide +kernel
theorem dX11_shoutBy_84 : decode cX11_shoutBy 84 = .ok (.getfield 25, 3) := by decide +kernel
theorem dX11_shoutBy_87 : decode cX11_shoutBy 87 = .ok (.iconst 3, 1) := by decide +kernel
theorem dX11_shoutBy_88 : decode cX11_shoutBy 88 = .ok (.iaload, 1) := by decide +kernel
theorem dX11_shoutBy_89 : decode cX11_shoutBy 89 = .ok (.isub, 1) := by decide +kernel
theorem dX11_shoutBy_90 : decode cX11_shoutBy 90 = .ok (.iload 6, 2) := by decide +kernel
theorem dX11_shoutBy_92 : decode cX11_shoutBy 92 = .ok (.iconst 2, 1) := by decide +kernel
theorem dX11_shoutBy_93 : decode cX11_shoutBy 93 = .ok (.aload_n 0, 1) := by decide +kernel
theorem dX11_shoutBy_94 : decode cX11_shoutBy 94 = .ok (.getfield 25, 3) := by decide +kernel
theorem dX11_shoutBy_97 : decode cX11_shoutBy 97 = .ok (.iconst 3, 1) := by decide +kernel
theorem dX11_shoutBy_98 : decode cX11_shoutBy 98 = .ok (.iaload, 1) := by decide +kernel
theorem dX11_shoutBy_99 : decode cX11_shoutBy 99 = .ok (.imul, 1) := by decide +kernel
theorem dX11_shoutBy_100 : decode cX11_shoutBy 100 = .ok (.iconst 1, 1) := by decide +kernel
theorem dX11_shoutBy_101 : decode cX11_shoutBy 101 = .ok (.iadd, 1) := by decide +kernel
theorem dX11_shoutBy_102 : decode cX11_shoutBy 102 = .ok (.irem, 1) := by decide +kernel
theorem dX11_shoutBy_103 : decode cX11_shoutBy 103 = .ok (.iadd, 1) := by decide +kernel
theorem dX11_shoutBy_104 : decode cX11_shoutBy 104 = .ok (.istore 8, 2) := by decide +kernel
theorem dX11_shoutBy_106 : decode cX11_shoutBy 106 = .ok (.iload_n 2, 1) := by decide +kernel
theorem dX11_shoutBy_107 : decode cX11_shoutBy 107 = .ok (.ifCond .ne 9, 3) := by decide +kernel
theorem dX11_shoutBy_110 : decode cX11_shoutBy 110 = .ok (.iload 8, 2) := by decide +kernel
theorem dX11_shoutBy_112 : decode cX11_shoutBy 112 = .ok (.iload_n 3, 1) := by decide +kernel
theorem dX11_shoutBy_113 : decode cX11_shoutBy 113 = .ok (.if_icmp .gt 14, 3) := by decide +kernel
theorem dX11_shoutBy_116 : decode cX11_shoutBy 116 = .ok (.iload_n 2, 1) := by decide +kernel
theorem dX11_shoutBy_117 : decode cX11_shoutBy 117 = .ok (.iconst 1, 1) := by decide +kernel
theorem dX11_shoutBy_118 : decode cX11_shoutBy 118 = .ok (.if_icmp .ne 13, 3) := by decide +kernel
theorem dX11_shoutBy_121 : decode cX11_shoutBy 121 = .ok (.iload 8, 2) := by decide +kernel
theorem dX11_shoutBy_123 : decode cX11_shoutBy 123 = .ok (.iload_n 3, 1) := by decide +kernel
theorem dX11_shoutBy_124 : decode cX11_shoutBy 124 = .ok (.if_icmp .ge 7, 3) := by decide +kernel
theorem dX11_shoutBy_127 : decode cX11_shoutBy 127 = .ok (.iload_n 3, 1) := by decide +kernel
theorem dX11_shoutBy_128 : decode cX11_shoutBy 128 = .ok (.goto 5, 3) := by decide +kernel
theorem dX11_shoutBy_131 : decode cX11_shoutBy 131 = .ok (.iload 8, 2) := by decide +kernel
theorem dX11_shoutBy_133 : decode cX11_shoutBy 133 = .ok (.istore 8, 2) := by decide +kernel
theorem dX11_shoutBy_135 : decode cX11_shoutBy 135 = .ok (.iload 8, 2) := by decide +kernel
theorem dX11_shoutBy_137 : decode cX11_shoutBy 137 = .ok (.ifCond .ge 7, 3) := by decide +kernel
theorem dX11_shoutBy_140 : decode cX11_shoutBy 140 = .ok (.iconst 0, 1) := by decide +kernel
theorem dX11_shoutBy_141 : decode cX11_shoutBy 141 = .ok (.goto 17, 3) := by decide +kernel
theorem dX11_shoutBy_144 : decode cX11_shoutBy 144 = .ok (.iload 8, 2) := by decide +kernel
theorem dX11_shoutBy_146 : decode cX11_shoutBy 146 = .ok (.bipush 99, 2) := by decide +kernel
theorem dX11_shoutBy_148 : decode cX11_shoutBy 148 = .ok (.if_icmp .le 8, 3) := by decide +kernel
theorem dX11_shoutBy_151 : decode cX11_shoutBy 151 = .ok (.bipush 99, 2) := by decide +kernel
theorem dX11_shoutBy_153 : decode cX11_shoutBy 153 = .ok (.goto 5, 3) := by decide +kernel
theorem dX11_shoutBy_156 : decode cX11_shoutBy 156 = .ok (.iload 8, 2) := by decide +kernel
theorem dX11_shoutBy_158 : decode cX11_shoutBy 158 = .ok (.istore 8, 2) := by decide +kernel
theorem dX11_shoutBy_160 : decode cX11_shoutBy 160 = .ok (.goto 125, 3) := by decide +kernel
theorem dX11_shoutBy_163 : decode cX11_shoutBy 163 = .ok (.iload_n 1, 1) := by decide +kernel
theorem dX11_shoutBy_164 : decode cX11_shoutBy 164 = .ok (.iconst 2, 1) := by decide +kernel
theorem dX11_shoutBy_165 : decode cX11_shoutBy 165 = .ok (.if_icmp .ne 47, 3) := by decide +kernel
theorem dX11_shoutBy_168 : decode cX11_shoutBy 168 = .ok (.iload_n 2, 1) := by decide +kernel
theorem dX11_shoutBy_169 : decode cX11_shoutBy 169 = .ok (.ifCond .ne 19, 3) := by decide +kernel
theorem dX11_shoutBy_172 : decode cX11_shoutBy 172 = .ok (.iload_n 3, 1) := by decide +kernel
theorem dX11_shoutBy_173 : decode cX11_shoutBy 173 = .ok (.iload 4, 2) := by decide +kernel
theorem dX11_shoutBy_175 : decode cX11_shoutBy 175 = .ok (.iconst 1, 1) := by decide +kernel
theorem dX11_shoutBy_176 : decode cX11_shoutBy 176 = .ok (.iadd, 1) := by decide +kernel
theorem dX11_shoutBy_177 : decode cX11_shoutBy 177 = .ok (.imul, 1) := by decide +kernel
theorem dX11_shoutBy_178 : decode cX11_shoutBy 178 = .ok (.aload_n 0, 1) := by decide +kernel
theorem dX11_shoutBy_179 : decode cX11_shoutBy 179 = .ok (.getfield 25, 3) := by decide +kernel
theorem dX11_shoutBy_182 : decode cX11_shoutBy 182 = .ok (.iconst 0, 1) := by decide +kernel
theorem dX11_shoutBy_183 : decode cX11_shoutBy 183 = .ok (.iaload, 1) := by decide +kernel
theorem dX11_shoutBy_184 : decode cX11_shoutBy 184 = .ok (.idiv, 1) := by decide +kernel
theorem dX11_shoutBy_185 : decode cX11_shoutBy 185 = .ok (.goto 22, 3) := by decide +kernel
theorem dX11_shoutBy_188 : decode cX11_shoutBy 188 = .ok (.bipush 99, 2) := by decide +kernel
theorem dX11_shoutBy_190 : decode cX11_shoutBy 190 = .ok (.bipush 99, 2) := by decide +kernel
theorem dX11_shoutBy_192 : decode cX11_shoutBy 192 = .ok (.iload_n 3, 1) := by decide +kernel
theorem dX11_shoutBy_193 : decode cX11_shoutBy 193 = .ok (.isub, 1) := by decide +kernel
theorem dX11_shoutBy_194 : decode cX11_shoutBy 194 = .ok (.iload 4, 2) := by decide +kernel
theorem dX11_shoutBy_196 : decode cX11_shoutBy 196 = .ok (.iconst 1, 1) := by decide +kernel
theorem dX11_shoutBy_197 : decode cX11_shoutBy 197 = .ok (.iadd, 1) := by decide +kernel
theorem dX11_shoutBy_198 : decode cX11_shoutBy 198 = .ok (.imul, 1) := by decide +kernel
theorem dX11_shoutBy_199 : decode cX11_shoutBy 199 = .ok (.aload_n 0, 1) := by decide +kernel
theorem dX11_shoutBy_200 : decode cX11_shoutBy 200 = .ok (.getfield 25, 3) := by decide +kernel
theorem dX11_shoutBy_203 : decode cX11_shoutBy 203 = .ok (.iconst 0, 1) := by decide +kernel
theorem dX11_shoutBy_204 : decode cX11_shoutBy 204 = .ok (.iaload, 1) := by decide +kernel
theorem dX11_shoutBy_205 : decode cX11_shoutBy 205 = .ok (.idiv, 1) := by decide +kernel
theorem dX11_shoutBy_206 : decode cX11_shoutBy 206 = .ok (.isub, 1) := by decide +kernel
theorem dX11_shoutBy_207 : decode cX11_shoutBy 207 = .ok (.istore 8, 2) := by decide +kernel
theorem dX11_shoutBy_209 : decode cX11_shoutBy 209 = .ok (.goto 76, 3) := by decide +kernel
theorem dX11_shoutBy_212 : decode cX11_shoutBy 212 = .ok (.iload_n 1, 1) := by decide +kernel
theorem dX11_shoutBy_213 : decode cX11_shoutBy 213 = .ok (.iconst 4, 1) := by decide +kernel
theorem dX11_shoutBy_214 : decode cX11_shoutBy 214 = .ok (.if_icmp .ne 59, 3) := by decide +kernel
theorem dX11_shoutBy_217 : decode cX11_shoutBy 217 = .ok (.iload_n 2, 1) := by decide +kernel
theorem dX11_shoutBy_218 : decode cX11_shoutBy 218 = .ok (.ifCond .ne 28, 3) := by decide +kernel
theorem dX11_shoutBy_221 : decode cX11_shoutBy 221 = .ok (.iload 7, 2) := by decide +kernel
theorem dX11_shoutBy_223 : decode cX11_shoutBy 223 = .ok (.aload_n 0, 1) := by decide +kernel
theorem dX11_shoutBy_224 : decode cX11_shoutBy 224 = .ok (.getfield 25, 3) := by decide +kernel
theorem dX11_shoutBy_227 : decode cX11_shoutBy 227 = .ok (.iconst 4, 1) := by decide +kernel
theorem dX11_shoutBy_228 : decode cX11_shoutBy 228 = .ok (.iaload, 1) := by decide +kernel
theorem dX11_shoutBy_229 : decode cX11_shoutBy 229 = .ok (.if_icmp .ge 8, 3) := by decide +kernel
theorem dX11_shoutBy_232 : decode cX11_shoutBy 232 = .ok (.iload 7, 2) := by decide +kernel
theorem dX11_shoutBy_234 : decode cX11_shoutBy 234 = .ok (.goto 34, 3) := by decide +kernel
theorem dX11_shoutBy_237 : decode cX11_shoutBy 237 = .ok (.aload_n 0, 1) := by decide +kernel
theorem dX11_shoutBy_238 : decode cX11_shoutBy 238 = .ok (.getfield 25, 3) := by decide +kernel
theorem dX11_shoutBy_241 : decode cX11_shoutBy 241 = .ok (.iconst 4, 1) := by decide +kernel
theorem dX11_shoutBy_242 : decode cX11_shoutBy 242 = .ok (.iaload, 1) := by decide +kernel
theorem dX11_shoutBy_243 : decode cX11_shoutBy 243 = .ok (.goto 25, 3) := by decide +kernel
theorem dX11_shoutBy_246 : decode cX11_shoutBy 246 = .ok (.iload 7, 2) := by decide +kernel
theorem dX11_shoutBy_248 : decode cX11_shoutBy 248 = .ok (.aload_n 0, 1) := by decide +kernel
theorem dX11_shoutBy_249 : decode cX11_shoutBy 249 = .ok (.getfield 25, 3) := by decide +kernel
theorem dX11_shoutBy_252 : decode cX11_shoutBy 252 = .ok (.iconst 4, 1) := by decide +kernel
theorem dX11_shoutBy_253 : decode cX11_shoutBy 253 = .ok (.iaload, 1) := by decide +kernel
theorem dX11_shoutBy_254 : decode cX11_shoutBy 254 = .ok (.if_icmp .le 8, 3) := by decide +kernel
theorem dX11_shoutBy_257 : decode cX11_shoutBy 257 = .ok (.iload 7, 2) := by decide +kernel
theorem dX11_shoutBy_259 : decode cX11_shoutBy 259 = .ok (.goto 9, 3) := by decide +kernel
theorem dX11_shoutBy_262 : decode cX11_shoutBy 262 = .ok (.aload_n 0, 1) := by decide +kernel
theorem dX11_shoutBy_263 : decode cX11_shoutBy 263 = .ok (.getfield 25, 3) := by decide +kernel
theorem dX11_shoutBy_266 : decode cX11_shoutBy 266 = .ok (.iconst 4, 1) := by decide +kernel
theorem dX11_shoutBy_267 : decode cX11_shoutBy 267 = .ok (.iaload, 1) := by decide +kernel
theorem dX11_shoutBy_268 : decode cX11_shoutBy 268 = .ok (.istore 8, 2) := by decide +kernel
theorem dX11_shoutBy_270 : decode cX11_shoutBy 270 = .ok (.goto 15, 3) := by decide +kernel
theorem dX11_shoutBy_273 : decode cX11_shoutBy 273 = .ok (.iload_n 1, 1) := by decide +kernel
theorem dX11_shoutBy_274 : decode cX11_shoutBy 274 = .ok (.iconst 5, 1) := by decide +kernel
theorem dX11_shoutBy_275 : decode cX11_shoutBy 275 = .ok (.if_icmp .ne 10, 3) := by decide +kernel
theorem dX11_shoutBy_278 : decode cX11_shoutBy 278 = .ok (.iload 6, 2) := by decide +kernel
theorem dX11_shoutBy_280 : decode cX11_shoutBy 280 = .ok (.bipush 100, 2) := by decide +kernel
theorem dX11_shoutBy_282 : decode cX11_shoutBy 282 = .ok (.irem, 1) := by decide +kernel
theorem dX11_shoutBy_283 : decode cX11_shoutBy 283 = .ok (.istore 8, 2) := by decide +kernel
theorem dX11_shoutBy_285 : decode cX11_shoutBy 285 = .ok (.iload_n 2, 1) := by decide +kernel
theorem dX11_shoutBy_286 : decode cX11_shoutBy 286 = .ok (.iconst 1, 1) := by decide +kernel
theorem dX11_shoutBy_287 : decode cX11_shoutBy 287 = .ok (.if_icmp .ne 29, 3) := by decide +kernel
theorem dX11_shoutBy_290 : decode cX11_shoutBy 290 = .ok (.iload 8, 2) := by decide +kernel
theorem dX11_shoutBy_292 : decode cX11_shoutBy 292 = .ok (.aload_n 0, 1) := by decide +kernel
theorem dX11_shoutBy_293 : decode cX11_shoutBy 293 = .ok (.getfield 25, 3) := by decide +kernel
theorem dX11_shoutBy_296 : decode cX11_shoutBy 296 = .ok (.iconst 1, 1) := by decide +kernel
theorem dX11_shoutBy_297 : decode cX11_shoutBy 297 = .ok (.iaload, 1) := by decide +kernel
theorem dX11_shoutBy_298 : decode cX11_shoutBy 298 = .ok (.iadd, 1) := by decide +kernel
theorem dX11_shoutBy_299 : decode cX11_shoutBy 299 = .ok (.aload_n 0, 1) := by decide +kernel
theorem dX11_shoutBy_300 : decode cX11_shoutBy 300 = .ok (.getfield 25, 3) := by decide +kernel
theorem dX11_shoutBy_303 : decode cX11_shoutBy 303 = .ok (.iconst 2, 1) := by decide +kernel
theorem dX11_shoutBy_304 : decode cX11_shoutBy 304 = .ok (.iaload, 1) := by decide +kernel
theorem dX11_shoutBy_305 : decode cX11_shoutBy 305 = .ok (.if_icmp .le 8, 3) := by decide +kernel
theorem dX11_shoutBy_308 : decode cX11_shoutBy 308 = .ok (.bipush (-4), 2) := by decide +kernel
theorem dX11_shoutBy_310 : decode cX11_shoutBy 310 = .ok (.goto 5, 3) := by decide +kernel
theorem dX11_shoutBy_313 : decode cX11_shoutBy 313 = .ok (.iload 8, 2) := by decide +kernel
theorem dX11_shoutBy_315 : decode cX11_shoutBy 315 = .ok (.ireturn, 1) := by decide +kernel
theorem dX11_shoutBy_316 : decode cX11_shoutBy 316 = .ok (.iload 8, 2) := by decide +kernel
theorem dX11_shoutBy_318 : decode cX11_shoutBy 318 = .ok (.aload_n 0, 1) := by decide +kernel
theorem dX11_shoutBy_319 : decode cX11_shoutBy 319 = .ok (.getfield 25, 3) := by decide +kernel
theorem dX11_shoutBy_322 : decode cX11_shoutBy 322 = .ok (.iconst 2, 1) := by decide +kernel
theorem dX11_shoutBy_323 : decode cX11_shoutBy 323 = .ok (.iaload, 1) := by decide +kernel
theorem dX11_shoutBy_324 : decode cX11_shoutBy 324 = .ok (.if_icmp .le 12, 3) := by decide +kernel
theorem dX11_shoutBy_327 : decode cX11_shoutBy 327 = .ok (.aload_n 0, 1) := by decide +kernel
theorem dX11_shoutBy_328 : decode cX11_shoutBy 328 = .ok (.getfield 25, 3) := by decide +kernel
theorem dX11_shoutBy_331 : decode cX11_shoutBy 331 = .ok (.iconst 2, 1) := by decide +kernel
theorem dX11_shoutBy_332 : decode cX11_shoutBy 332 = .ok (.iaload, 1) := by decide +kernel
theorem dX11_shoutBy_333 : decode cX11_shoutBy 333 = .ok (.goto 5, 3) := by decide +kernel
theorem dX11_shoutBy_336 : decode cX11_shoutBy 336 = .ok (.iload 8, 2) := by decide +kernel
theorem dX11_shoutBy_338 : decode cX11_shoutBy 338 = .ok (.ireturn, 1) := by decide +kernel
theorem dX11_shoutOf_0 : decode cX11_shoutOf 0 = .ok (.aload_n 0, 1) := by decide +kernel
theorem dX11_shoutOf_1 : decode cX11_shoutOf 1 = .ok (.aload_n 0, 1) := by decide +kernel
theorem dX11_shoutOf_2 : decode cX11_shoutOf 2 = .ok (.getfield 22, 3) := by decide +kernel
theorem dX11_shoutOf_5 : decode cX11_shoutOf 5 = .ok (.iload_n 1, 1) := by decide +kernel
theorem dX11_shoutOf_6 : decode cX11_shoutOf 6 = .ok (.iaload, 1) := by decide +kernel
theorem dX11_shoutOf_7 : decode cX11_shoutOf 7 = .ok (.aload_n 0, 1) := by decide +kernel
theorem dX11_shoutOf_8 : decode cX11_shoutOf 8 = .ok (.getfield 16, 3) := by decide +kernel
theorem dX11_shoutOf_11 : decode cX11_shoutOf 11 = .ok (.iload_n 1, 1) := by decide +kernel
theorem dX11_shoutOf_12 : decode cX11_shoutOf 12 = .ok (.iaload, 1) := by decide +kernel
theorem dX11_shoutOf_13 : decode cX11_shoutOf 13 = .ok (.aload_n 0, 1) := by decide +kernel
theorem dX11_shoutOf_14 : decode cX11_shoutOf 14 = .ok (.getfield 19, 3) := by decide +kernel
theorem dX11_shoutOf_17 : decode cX11_shoutOf 17 = .ok (.iload_n 1, 1) := by decide +kernel
theorem dX11_shoutOf_18 : decode cX11_shoutOf 18 = .ok (.iaload, 1) := by decide +kernel
theorem dX11_shoutOf_19 : decode cX11_shoutOf 19 = .ok (.iload_n 2, 1) := by decide +kernel
theorem dX11_shoutOf_20 : decode cX11_shoutOf 20 = .ok (.aload_n 0, 1) := by decide +kernel
theorem dX11_shoutOf_21 : decode cX11_shoutOf 21 = .ok (.getfield 196, 3) := by decide +kernel
theorem dX11_shoutOf_24 : decode cX11_shoutOf 24 = .ok (.aload_n 0, 1) := by decide +kernel
theorem dX11_shoutOf_25 : decode cX11_shoutOf 25 = .ok (.iload_n 3, 1) := by decide +kernel
theorem dX11_shoutOf_26 : decode cX11_shoutOf 26 = .ok (.iload 4, 2) := by decide +kernel
theorem dX11_shoutOf_28 : decode cX11_shoutOf 28 = .ok (.invokevirtual 199, 3) := by decide +kernel
theorem dX11_shoutOf_31 : decode cX11_shoutOf 31 = .ok (.invokevirtual 202, 3) := by decide +kernel
theorem dX11_shoutOf_34 : decode cX11_shoutOf 34 = .ok (.ireturn, 1) := by decide +kernel
theorem dX11_trade_0 : decode cX11_trade 0 = .ok (.aload_n 0, 1) := by decide +kernel
theorem dX11_trade_1 : decode cX11_trade 1 = .ok (.getfield 58, 3) := by decide +kernel
theorem dX11_trade_4 : decode cX11_trade 4 = .ok (.iload_n 1, 1) := by decide +kernel
theorem dX11_trade_5 : decode cX11_trade 5 = .ok (.iload_n 3, 1) := by decide +kernel
theorem dX11_trade_6 : decode cX11_trade 6 = .ok (.iastore, 1) := by decide +kernel
theorem dX11_trade_7 : decode cX11_trade 7 = .ok (.aload_n 0, 1) := by decide +kernel
theorem dX11_trade_8 : decode cX11_trade 8 = .ok (.getfield 58, 3) := by decide +kernel
theorem dX11_trade_11 : decode cX11_trade 11 = .ok (.iload_n 2, 1) := by decide +kernel
theorem dX11_trade_12 : decode cX11_trade 12 = .ok (.iload_n 3, 1) := by decide +kernel
theorem dX11_trade_13 : decode cX11_trade 13 = .ok (.iastore, 1) := by decide +kernel
theorem dX11_trade_14 : decode cX11_trade 14 = .ok (.aload_n 0, 1) := by decide +kernel
theorem dX11_trade_15 : decode cX11_trade 15 = .ok (.dup, 1) := by decide +kernel
theorem dX11_trade_16 : decode cX11_trade 16 = .ok (.getfield 206, 3) := by decide +kernel
theorem dX11_trade_19 : decode cX11_trade 19 = .ok (.aload_n 0, 1) := by decide +kernel
theorem dX11_trade_20 : decode cX11_trade 20 = .ok (.getfield 19, 3) := by decide +kernel
theorem dX11_trade_23 : decode cX11_trade 23 = .ok (.iload_n 1, 1) := by decide +kernel
theorem dX11_trade_24 : decode cX11_trade 24 = .ok (.iaload, 1) := by decide +kernel
theorem dX11_trade_25 : decode cX11_trade 25 = .ok (.aload_n 0, 1) := by decide +kernel
theorem dX11_trade_26 : decode cX11_trade 26 = .ok (.getfield 19, 3) := by decide +kernel
theorem dX11_trade_29 : decode cX11_trade 29 = .ok (.iload_n 2, 1) := by decide +kernel
theorem dX11_trade_30 : decode cX11_trade 30 = .ok (.iaload, 1) := by decide +kernel
theorem dX11_trade_31 : decode cX11_trade 31 = .ok (.isub, 1) := by decide +kernel
theorem dX11_trade_32 : decode cX11_trade 32 = .ok (.iadd, 1) := by decide +kernel
theorem dX11_trade_33 : decode cX11_trade 33 = .ok (.putfield 206, 3) := by decide +kernel
theorem dX11_trade_36 : decode cX11_trade 36 = .ok (.aload_n 0, 1) := by decide +kernel
theorem dX11_trade_37 : decode cX11_trade 37 = .ok (.aload_n 0, 1) := by decide +kernel
theorem dX11_trade_38 : decode cX11_trade 38 = .ok (.getfield 209, 3) := by decide +kernel
theorem dX11_trade_41 : decode cX11_trade 41 = .ok (.ifCond .eq 11, 3) := by decide +kernel
theorem dX11_trade_44 : decode cX11_trade 44 = .ok (.iload_n 3, 1) := by decide +kernel
theorem dX11_trade_45 : decode cX11_trade 45 = .ok (.aload_n 0, 1) := by decide +kernel
theorem dX11_trade_46 : decode cX11_trade 46 = .ok (.getfield 212, 3) := by decide +kernel
theorem dX11_trade_49 : decode cX11_trade 49 = .ok (.if_icmp .ge 7, 3) := by decide +kernel
theorem dX11_trade_52 : decode cX11_trade 52 = .ok (.iload_n 3, 1) := by decide +kernel
theorem dX11_trade_53 : decode cX11_trade 53 = .ok (.goto 7, 3) := by decide +kernel
theorem dX11_trade_56 : decode cX11_trade 56 = .ok (.aload_n 0, 1) := by decide +kernel
theorem dX11_trade_57 : decode cX11_trade 57 = .ok (.getfield 212, 3) := by decide +kernel
theorem dX11_trade_60 : decode cX11_trade 60 = .ok (.putfield 212, 3) := by decide +kernel
theorem dX11_trade_63 : decode cX11_trade 63 = .ok (.aload_n 0, 1) := by decide +kernel
theorem dX11_trade_64 : decode cX11_trade 64 = .ok (.aload_n 0, 1) := by decide +kernel
theorem dX11_trade_65 : decode cX11_trade 65 = .ok (.getfield 209, 3) := by decide +kernel
theorem dX11_trade_68 : decode cX11_trade 68 = .ok (.ifCond .eq 11, 3) := by decide +kernel
theorem dX11_trade_71 : decode cX11_trade 71 = .ok (.iload_n 3, 1) := by decide +kernel
theorem dX11_trade_72 : decode cX11_trade 72 = .ok (.aload_n 0, 1) := by decide +kernel
theorem dX11_trade_73 : decode cX11_trade 73 = .ok (.getfield 215, 3) := by decide +kernel
theorem dX11_trade_76 : decode cX11_trade 76 = .ok (.if_icmp .le 7, 3) := by decide +kernel
theorem dX11_trade_79 : decode cX11_trade 79 = .ok (.iload_n 3, 1) := by decide +kernel
theorem dX11_trade_80 : decode cX11_trade 80 = .ok (.goto 7, 3) := by decide +kernel
theorem dX11_trade_83 : decode cX11_trade 83 = .ok (.aload_n 0, 1) := by decide +kernel
theorem dX11_trade_84 : decode cX11_trade 84 = .ok (.getfield 215, 3) := by decide +kernel
theorem dX11_trade_87 : decode cX11_trade 87 = .ok (.putfield 215, 3) := by decide +kernel
theorem dX11_trade_90 : decode cX11_trade 90 = .ok (.aload_n 0, 1) := by decide +kernel
theorem dX11_trade_91 : decode cX11_trade 91 = .ok (.dup, 1) := by decide +kernel
theorem dX11_trade_92 : decode cX11_trade 92 = .ok (.getfield 209, 3) := by decide +kernel
theorem dX11_trade_95 : decode cX11_trade 95 = .ok (.iconst 1, 1) := by decide +kernel
theorem dX11_trade_96 : decode cX11_trade 96 = .ok (.iadd, 1) := by decide +kernel
theorem dX11_trade_97 : decode cX11_trade 97 = .ok (.putfield 209, 3) := by decide +kernel
theorem dX11_trade_100 : decode cX11_trade 100 = .ok (.aload_n 0, 1) := by decide +kernel
theorem dX11_trade_101 : decode cX11_trade 101 = .ok (.iload 4, 2) := by decide +kernel
theorem dX11_trade_103 : decode cX11_trade 103 = .ok (.iconst 1, 1) := by decide +kernel
theorem dX11_trade_104 : decode cX11_trade 104 = .ok (.iadd, 1) := by decide +kernel
theorem dX11_trade_105 : decode cX11_trade 105 = .ok (.putfield 218, 3) := by decide +kernel
theorem dX11_trade_108 : decode cX11_trade 108 = .ok (.aload_n 0, 1) := by decide +kernel
theorem dX11_trade_109 : decode cX11_trade 109 = .ok (.iload_n 3, 1) := by decide +kernel
theorem dX11_trade_110 : decode cX11_trade 110 = .ok (.putfield 196, 3) := by decide +kernel
theorem dX11_trade_113 : decode cX11_trade 113 = .ok (.return_, 1) := by decide +kernel
theorem dX11_note_0 : decode cX11_note 0 = .ok (.aload_n 0, 1) := by decide +kernel
theorem dX11_note_1 : decode cX11_note 1 = .ok (.getfield 221, 3) := by decide +kernel
theorem dX11_note_4 : decode cX11_note 4 = .ok (.ifCond .eq 76, 3) := by decide +kernel
theorem dX11_note_7 : decode cX11_note 7 = .ok (.aload_n 0, 1) := by decide +kernel
theorem dX11_note_8 : decode cX11_note 8 = .ok (.getfield 28, 3) := by decide +kernel
theorem dX11_note_11 : decode cX11_note 11 = .ok (.iconst 0, 1) := by decide +kernel
theorem dX11_note_12 : decode cX11_note 12 = .ok (.iaload, 1) := by decide +kernel
theorem dX11_note_13 : decode cX11_note 13 = .ok (.sipush 200, 3) := by decide +kernel
theorem dX11_note_16 : decode cX11_note 16 = .ok (.if_icmp .ge 64, 3) := by decide +kernel
theorem dX11_note_19 : decode cX11_note 19 = .ok (.aload_n 0, 1) := by decide +kernel
theorem dX11_note_20 : decode cX11_note 20 = .ok (.getfield 31, 3) := by decide +kernel
theorem dX11_note_23 : decode cX11_note 23 = .ok (.aload_n 0, 1) := by decide +kernel
theorem dX11_note_24 : decode cX11_note 24 = .ok (.getfield 28, 3) := by decide +kernel
theorem dX11_note_27 : decode cX11_note 27 = .ok (.iconst 0, 1) := by decide +kernel
theorem dX11_note_28 : decode cX11_note 28 = .ok (.iaload, 1) := by decide +kernel
theorem dX11_note_29 : decode cX11_note 29 = .ok (.iload_n 1, 1) := by decide +kernel
theorem dX11_note_30 : decode cX11_note 30 = .ok (.iastore, 1) := by decide +kernel
theorem dX11_note_31 : decode cX11_note 31 = .ok (.aload_n 0, 1) := by decide +kernel
theorem dX11_note_32 : decode cX11_note 32 = .ok (.getfield 34, 3) := by decide +kernel
theorem dX11_note_35 : decode cX11_note 35 = .ok (.aload_n 0, 1) := by decide +kernel
theorem dX11_note_36 : decode cX11_note 36 = .ok (.getfield 28, 3) := by decide +kernel
theorem dX11_note_39 : decode cX11_note 39 = .ok (.iconst 0, 1) := by decide +kernel
theorem dX11_note_40 : decode cX11_note 40 = .ok (.iaload, 1) := by decide +kernel
theorem dX11_note_41 : decode cX11_note 41 = .ok (.iload_n 2, 1) := by decide +kernel
theorem dX11_note_42 : decode cX11_note 42 = .ok (.iastore, 1) := by decide +kernel
theorem dX11_note_43 : decode cX11_note 43 = .ok (.aload_n 0, 1) := by decide +kernel
theorem dX11_note_44 : decode cX11_note 44 = .ok (.getfield 37, 3) := by decide +kernel
theorem dX11_note_47 : decode cX11_note 47 = .ok (.aload_n 0, 1) := by decide +kernel
theorem dX11_note_48 : decode cX11_note 48 = .ok (.getfield 28, 3) := by decide +kernel
theorem dX11_note_51 : decode cX11_note 51 = .ok (.iconst 0, 1) := by decide +kernel
theorem dX11_note_52 : decode cX11_note 52 = .ok (.iaload, 1) := by decide +kernel
theorem dX11_note_53 : decode cX11_note 53 = .ok (.iload_n 3, 1) := by decide +kernel
theorem dX11_note_54 : decode cX11_note 54 = .ok (.iastore, 1) := by decide +kernel
theorem dX11_note_55 : decode cX11_note 55 = .ok (.aload_n 0, 1) := by decide +kernel
theorem dX11_note_56 : decode cX11_note 56 = .ok (.getfield 40, 3) := by decide +kernel
theorem dX11_note_59 : decode cX11_note 59 = .ok (.aload_n 0, 1) := by decide +kernel
theorem dX11_note_60 : decode cX11_note 60 = .ok (.getfield 28, 3) := by decide +kernel
theorem dX11_note_63 : decode cX11_note 63 = .ok (.iconst 0, 1) := by decide +kernel
theorem dX11_note_64 : decode cX11_note 64 = .ok (.iaload, 1) := by decide +kernel
theorem dX11_note_65 : decode cX11_note 65 = .ok (.aload_n 0, 1) := by decide +kernel
theorem dX11_note_66 : decode cX11_note 66 = .ok (.getfield 196, 3) := by decide +kernel
theorem dX11_note_69 : decode cX11_note 69 = .ok (.iastore, 1) := by decide +kernel
theorem dX11_note_70 : decode cX11_note 70 = .ok (.aload_n 0, 1) := by decide +kernel
theorem dX11_note_71 : decode cX11_note 71 = .ok (.getfield 28, 3) := by decide +kernel
theorem dX11_note_74 : decode cX11_note 74 = .ok (.iconst 0, 1) := by decide +kernel
theorem dX11_note_75 : decode cX11_note 75 = .ok (.dup2, 1) := by decide +kernel
theorem dX11_note_76 : decode cX11_note 76 = .ok (.iaload, 1) := by decide +kernel
theorem dX11_note_77 : decode cX11_note 77 = .ok (.iconst 1, 1) := by decide +kernel
theorem dX11_note_78 : decode cX11_note 78 = .ok (.iadd, 1) := by decide +kernel
theorem dX11_note_79 : decode cX11_note 79 = .ok (.iastore, 1) := by decide +kernel
theorem dX11_note_80 : decode cX11_note 80 = .ok (.return_, 1) := by decide +kernel
theorem dX11_goShouts_0 : decode cX11_goShouts 0 = .ok (.bipush (-4), 2) := by decide +kernel
theorem dX11_goShouts_2 : decode cX11_goShouts 2 = .ok (.istore_n 1, 1) := by decide +kernel
theorem dX11_goShouts_3 : decode cX11_goShouts 3 = .ok (.iconst 0, 1) := by decide +kernel
theorem dX11_goShouts_4 : decode cX11_goShouts 4 = .ok (.istore_n 2, 1) := by decide +kernel
theorem dX11_goShouts_5 : decode cX11_goShouts 5 = .ok (.bipush (-4), 2) := by decide +kernel
theorem dX11_goShouts_7 : decode cX11_goShouts 7 = .ok (.istore_n 3, 1) := by decide +kernel
theorem dX11_goShouts_8 : decode cX11_goShouts 8 = .ok (.iconst 0, 1) := by decide +kernel
theorem dX11_goShouts_9 : decode cX11_goShouts 9 = .ok (.istore 4, 2) := by decide +kernel
theorem dX11_goShouts_11 : decode cX11_goShouts 11 = .ok (.iconst 0, 1) := by decide +kernel
theorem dX11_goShouts_12 : decode cX11_goShouts 12 = .ok (.istore 5, 2) := by decide +kernel
theorem dX11_goShouts_14 : decode cX11_goShouts 14 = .ok (.iload 5, 2) := by decide +kernel
theorem dX11_goShouts_16 : decode cX11_goShouts 16 = .ok (.aload_n 0, 1) := by decide +kernel
theorem dX11_goShouts_17 : decode cX11_goShouts 17 = .ok (.getfield 25, 3) := by decide +kernel
theorem dX11_goShouts_20 : decode cX11_goShouts 20 = .ok (.iconst 0, 1) := by decide +kernel
theorem dX11_goShouts_21 : decode cX11_goShouts 21 = .ok (.iaload, 1) := by decide +kernel
theorem dX11_goShouts_22 : decode cX11_goShouts 22 = .ok (.if_icmp .ge 258, 3) := by decide +kernel
theorem dX11_goShouts_25 : decode cX11_goShouts 25 = .ok (.aload_n 0, 1) := by decide +kernel
theorem dX11_goShouts_26 : decode cX11_goShouts 26 = .ok (.iload 5, 2) := by decide +kernel
theorem dX11_goShouts_28 : decode cX11_goShouts 28 = .ok (.iconst 0, 1) := by decide +kernel
theorem dX11_goShouts_29 : decode cX11_goShouts 29 = .ok (.invokevirtual 199, 3) := by decide +kernel
theorem dX11_goShouts_32 : decode cX11_goShouts 32 = .ok (.aload_n 0, 1) := by decide +kernel
theorem dX11_goShouts_33 : decode cX11_goShouts 33 = .ok (.getfield 13, 3) := by decide +kernel
theorem dX11_goShouts_36 : decode cX11_goShouts 36 = .ok (.iconst 0, 1) := by decide +kernel
theorem dX11_goShouts_37 : decode cX11_goShouts 37 = .ok (.iaload, 1) := by decide +kernel
theorem dX11_goShouts_38 : decode cX11_goShouts 38 = .ok (.irem, 1) := by decide +kernel
theorem dX11_goShouts_39 : decode cX11_goShouts 39 = .ok (.istore 6, 2) := by decide +kernel
theorem dX11_goShouts_41 : decode cX11_goShouts 41 = .ok (.aload_n 0, 1) := by decide +kernel
theorem dX11_goShouts_42 : decode cX11_goShouts 42 = .ok (.iload 6, 2) := by decide +kernel
theorem dX11_goShouts_44 : decode cX11_goShouts 44 = .ok (.iload 5, 2) := by decide +kernel
theorem dX11_goShouts_46 : decode cX11_goShouts 46 = .ok (.iload 5, 2) := by decide +kernel
theorem dX11_goShouts_48 : decode cX11_goShouts 48 = .ok (.iconst 1, 1) := by decide +kernel
theorem dX11_goShouts_49 : decode cX11_goShouts 49 = .ok (.invokevirtual 225, 3) := by decide +kernel
theorem dX11_goShouts_52 : decode cX11_goShouts 52 = .ok (.istore 7, 2) := by decide +kernel
theorem dX11_goShouts_54 : decode cX11_goShouts 54 = .ok (.aload_n 0, 1) := by decide +kernel
theorem dX11_goShouts_55 : decode cX11_goShouts 55 = .ok (.getfield 58, 3) := by decide +kernel
theorem dX11_goShouts_58 : decode cX11_goShouts 58 = .ok (.iload 6, 2) := by decide +kernel
theorem dX11_goShouts_60 : decode cX11_goShouts 60 = .ok (.iaload, 1) := by decide +kernel
theorem dX11_goShouts_61 : decode cX11_goShouts 61 = .ok (.bipush (-4), 2) := by decide +kernel
theorem dX11_goShouts_63 : decode cX11_goShouts 63 = .ok (.if_icmp .ne 211, 3) := by decide +kernel
theorem dX11_goShouts_66 : decode cX11_goShouts 66 = .ok (.iload 7, 2) := by decide +kernel
theorem dX11_goShouts_68 : decode cX11_goShouts 68 = .ok (.ifCond .lt 206, 3) := by decide +kernel
theorem dX11_goShouts_71 : decode cX11_goShouts 71 = .ok (.aload_n 0, 1) := by decide +kernel
theorem dX11_goShouts_72 : decode cX11_goShouts 72 = .ok (.iload 6, 2) := by decide +kernel
theorem dX11_goShouts_74 : decode cX11_goShouts 74 = .ok (.iload 7, 2) := by decide +kernel
theorem dX11_goShouts_76 : decode cX11_goShouts 76 = .ok (.iload 5, 2) := by decide +kernel
theorem dX11_goShouts_78 : decode cX11_goShouts 78 = .ok (.invokevirtual 229, 3) := by decide +kernel
theorem dX11_goShouts_81 : decode cX11_goShouts 81 = .ok (.aload_n 0, 1) := by decide +kernel
theorem dX11_goShouts_82 : decode cX11_goShouts 82 = .ok (.getfield 16, 3) := by decide +kernel
theorem dX11_goShouts_85 : decode cX11_goShouts 85 = .ok (.iload 6, 2) := by decide +kernel
theorem dX11_goShouts_87 : decode cX11_goShouts 87 = .ok (.iaload, 1) := by decide +kernel
theorem dX11_goShouts_88 : decode cX11_goShouts 88 = .ok (.ifCond .ne 29, 3) := by decide +kernel
theorem dX11_goShouts_91 : decode cX11_goShouts 91 = .ok (.iload_n 3, 1) := by decide +kernel
theorem dX11_goShouts_92 : decode cX11_goShouts 92 = .ok (.ifCond .lt 21, 3) := by decide +kernel
theorem dX11_goShouts_95 : decode cX11_goShouts 95 = .ok (.iload 7, 2) := by decide +kernel
theorem dX11_goShouts_97 : decode cX11_goShouts 97 = .ok (.iload 4, 2) := by decide +kernel
theorem dX11_goShouts_99 : decode cX11_goShouts 99 = .ok (.aload_n 0, 1) := by decide +kernel
theorem dX11_goShouts_100 : decode cX11_goShouts 100 = .ok (.getfield 25, 3) := by decide +kernel
theorem dX11_goShouts_103 : decode cX11_goShouts 103 = .ok (.iconst 1, 1) := by decide +kernel
theorem dX11_goShouts_104 : decode cX11_goShouts 104 = .ok (.iaload, 1) := by decide +kernel
theorem dX11_goShouts_105 : decode cX11_goShouts 105 = .ok (.iadd, 1) := by decide +kernel
theorem dX11_goShouts_106 : decode cX11_goShouts 106 = .ok (.if_icmp .lt 7, 3) := by decide +kernel
theorem dX11_goShouts_109 : decode cX11_goShouts 109 = .ok (.iconst 1, 1) := by decide +kernel
theorem dX11_goShouts_110 : decode cX11_goShouts 110 = .ok (.goto 29, 3) := by decide +kernel
theorem dX11_goShouts_113 : decode cX11_goShouts 113 = .ok (.iconst 0, 1) := by decide +kernel
theorem dX11_goShouts_114 : decode cX11_goShouts 114 = .ok (.goto 25, 3) := by decide +kernel
theorem dX11_goShouts_117 : decode cX11_goShouts 117 = .ok (.iload_n 1, 1) := by decide +kernel
theorem dX11_goShouts_118 : decode cX11_goShouts 118 = .ok (.ifCond .lt 20, 3) := by decide +kernel
theorem dX11_goShouts_121 : decode cX11_goShouts 121 = .ok (.iload 7, 2) := by decide +kernel
theorem dX11_goShouts_123 : decode cX11_goShouts 123 = .ok (.aload_n 0, 1) := by decide +kernel
theorem dX11_goShouts_124 : decode cX11_goShouts 124 = .ok (.getfield 25, 3) := by decide +kernel
theorem dX11_goShouts_127 : decode cX11_goShouts 127 = .ok (.iconst 1, 1) := by decide +kernel
theorem dX11_goShouts_128 : decode cX11_goShouts 128 = .ok (.iaload, 1) := by decide +kernel
theorem dX11_goShouts_129 : decode cX11_goShouts 129 = .ok (.iadd, 1) := by decide +kernel
theorem dX11_goShouts_130 : decode cX11_goShouts 130 = .ok (.iload_n 2, 1) := by decide +kernel
theorem dX11_goShouts_131 : decode cX11_goShouts 131 = .ok (.if_icmp .gt 7, 3) := by decide +kernel
theorem dX11_goShouts_134 : decode cX11_goShouts 134 = .ok (.iconst 1, 1) := by decide +kernel
theorem dX11_goShouts_135 : decode cX11_goShouts 135 = .ok (.goto 4, 3) := by decide +kernel
theorem dX11_goShouts_138 : decode cX11_goShouts 138 = .ok (.iconst 0, 1) := by decide +kernel
theorem dX11_goShouts_139 : decode cX11_goShouts 139 = .ok (.istore 8, 2) := by decide +kernel
theorem dX11_goShouts_141 : decode cX11_goShouts 141 = .ok (.iload 8, 2) := by decide +kernel
theorem dX11_goShouts_143 : decode cX11_goShouts 143 = .ok (.ifCond .eq 73, 3) := by decide +kernel
theorem dX11_goShouts_146 : decode cX11_goShouts 146 = .ok (.aload_n 0, 1) := by decide +kernel
theorem dX11_goShouts_147 : decode cX11_goShouts 147 = .ok (.aload_n 0, 1) := by decide +kernel
theorem dX11_goShouts_148 : decode cX11_goShouts 148 = .ok (.getfield 16, 3) := by decide +kernel
theorem dX11_goShouts_151 : decode cX11_goShouts 151 = .ok (.iload 6, 2) := by decide +kernel
theorem dX11_goShouts_153 : decode cX11_goShouts 153 = .ok (.iaload, 1) := by decide +kernel
theorem dX11_goShouts_154 : decode cX11_goShouts 154 = .ok (.ifCond .ne 8, 3) := by decide +kernel
theorem dX11_goShouts_157 : decode cX11_goShouts 157 = .ok (.iload 6, 2) := by decide +kernel
theorem dX11_goShouts_159 : decode cX11_goShouts 159 = .ok (.goto 4, 3) := by decide +kernel
theorem dX11_goShouts_162 : decode cX11_goShouts 162 = .ok (.iload_n 1, 1) := by decide +kernel
theorem dX11_goShouts_163 : decode cX11_goShouts 163 = .ok (.aload_n 0, 1) := by decide +kernel
theorem dX11_goShouts_164 : decode cX11_goShouts 164 = .ok (.getfield 16, 3) := by decide +kernel
theorem dX11_goShouts_167 : decode cX11_goShouts 167 = .ok (.iload 6, 2) := by decide +kernel
theorem dX11_goShouts_169 : decode cX11_goShouts 169 = .ok (.iaload, 1) := by decide +kernel
theorem dX11_goShouts_170 : decode cX11_goShouts 170 = .ok (.ifCond .ne 7, 3) := by decide +kernel
theorem dX11_goShouts_173 : decode cX11_goShouts 173 = .ok (.iload_n 3, 1) := by decide +kernel
theorem dX11_goShouts_174 : decode cX11_goShouts 174 = .ok (.goto 5, 3) := by decide +kernel
theorem dX11_goShouts_177 : decode cX11_goShouts 177 = .ok (.iload 6, 2) := by decide +kernel
theorem dX11_goShouts_179 : decode cX11_goShouts 179 = .ok (.aload_n 0, 1) := by decide +kernel
theorem dX11_goShouts_180 : decode cX11_goShouts 180 = .ok (.getfield 16, 3) := by decide +kernel
theorem dX11_goShouts_183 : decode cX11_goShouts 183 = .ok (.iload 6, 2) := by decide +kernel
theorem dX11_goShouts_185 : decode cX11_goShouts 185 = .ok (.iaload, 1) := by decide +kernel
theorem dX11_goShouts_186 : decode cX11_goShouts 186 = .ok (.ifCond .ne 15, 3) := by decide +kernel
theorem dX11_goShouts_189 : decode cX11_goShouts 189 = .ok (.iload 4, 2) := by decide +kernel
theorem dX11_goShouts_191 : decode cX11_goShouts 191 = .ok (.aload_n 0, 1) := by decide +kernel
theorem dX11_goShouts_192 : decode cX11_goShouts 192 = .ok (.getfield 25, 3) := by decide +kernel
theorem dX11_goShouts_195 : decode cX11_goShouts 195 = .ok (.iconst 1, 1) := by decide +kernel
theorem dX11_goShouts_196 : decode cX11_goShouts 196 = .ok (.iaload, 1) := by decide +kernel
theorem dX11_goShouts_197 : decode cX11_goShouts 197 = .ok (.iadd, 1) := by decide +kernel
theorem dX11_goShouts_198 : decode cX11_goShouts 198 = .ok (.goto 4, 3) := by decide +kernel
theorem dX11_goShouts_201 : decode cX11_goShouts 201 = .ok (.iload_n 2, 1) := by decide +kernel
theorem dX11_goShouts_202 : decode cX11_goShouts 202 = .ok (.iload 5, 2) := by decide +kernel
theorem dX11_goShouts_204 : decode cX11_goShouts 204 = .ok (.invokevirtual 233, 3) := by decide +kernel
theorem dX11_goShouts_207 : decode cX11_goShouts 207 = .ok (.bipush (-4), 2) := by decide +kernel
theorem dX11_goShouts_209 : decode cX11_goShouts 209 = .ok (.istore_n 1, 1) := by decide +kernel
theorem dX11_goShouts_210 : decode cX11_goShouts 210 = .ok (.bipush (-4), 2) := by decide +kernel
theorem dX11_goShouts_212 : decode cX11_goShouts 212 = .ok (.istore_n 3, 1) := by decide +kernel
theorem dX11_goShouts_213 : decode cX11_goShouts 213 = .ok (.goto 61, 3) := by decide +kernel
theorem dX11_goShouts_216 : decode cX11_goShouts 216 = .ok (.aload_n 0, 1) := by decide +kernel
theorem dX11_goShouts_217 : decode cX11_goShouts 217 = .ok (.getfield 16, 3) := by decide +kernel
theorem dX11_goShouts_220 : decode cX11_goShouts 220 = .ok (.iload 6, 2) := by decide +kernel
theorem dX11_goShouts_222 : decode cX11_goShouts 222 = .ok (.iaload, 1) := by decide +kernel
theorem dX11_goShouts_223 : decode cX11_goShouts 223 = .ok (.ifCond .ne 22, 3) := by decide +kernel
theorem dX11_goShouts_226 : decode cX11_goShouts 226 = .ok (.iload_n 1, 1) := by decide +kernel
theorem dX11_goShouts_227 : decode cX11_goShouts 227 = .ok (.ifCond .lt 9, 3) := by decide +kernel
theorem dX11_goShouts_230 : decode cX11_goShouts 230 = .ok (.iload 7, 2) := by decide +kernel
theorem dX11_goShouts_232 : decode cX11_goShouts 232 = .ok (.iload_n 2, 1) := by decide +kernel
theorem dX11_goShouts_233 : decode cX11_goShouts 233 = .ok (.if_icmp .le 12, 3) := by decide +kernel
theorem dX11_goShouts_236 : decode cX11_goShouts 236 = .ok (.iload 6, 2) := by decide +kernel
theorem dX11_goShouts_238 : decode cX11_goShouts 238 = .ok (.istore_n 1, 1) := by decide +kernel
theorem dX11_goShouts_239 : decode cX11_goShouts 239 = .ok (.iload 7, 2) := by decide +kernel
theorem dX11_goShouts_241 : decode cX11_goShouts 241 = .ok (.istore_n 2, 1) := by decide +kernel
theorem dX11_goShouts_242 : decode cX11_goShouts 242 = .ok (.goto 32, 3) := by decide +kernel
theorem dX11_goShouts_245 : decode cX11_goShouts 245 = .ok (.aload_n 0, 1) := by decide +kernel
theorem dX11_goShouts_246 : decode cX11_goShouts 246 = .ok (.getfield 16, 3) := by decide +kernel
theorem dX11_goShouts_249 : decode cX11_goShouts 249 = .ok (.iload 6, 2) := by decide +kernel
theorem dX11_goShouts_251 : decode cX11_goShouts 251 = .ok (.iaload, 1) := by decide +kernel
theorem dX11_goShouts_252 : decode cX11_goShouts 252 = .ok (.iconst 1, 1) := by decide +kernel
theorem dX11_goShouts_253 : decode cX11_goShouts 253 = .ok (.if_icmp .ne 21, 3) := by decide +kernel
theorem dX11_goShouts_256 : decode cX11_goShouts 256 = .ok (.iload_n 3, 1) := by decide +kernel
theorem dX11_goShouts_257 : decode cX11_goShouts 257 = .ok (.ifCond .lt 10, 3) := by decide +kernel
theorem dX11_goShouts_260 : decode cX11_goShouts 260 = .ok (.iload 7, 2) := by decide +kernel
theorem dX11_goShouts_262 : decode cX11_goShouts 262 = .ok (.iload 4, 2) := by decide +kernel
theorem dX11_goShouts_264 : decode cX11_goShouts 264 = .ok (.if_icmp .ge 10, 3) := by decide +kernel
theorem dX11_goShouts_267 : decode cX11_goShouts 267 = .ok (.iload 6, 2) := by decide +kernel
theorem dX11_goShouts_269 : decode cX11_goShouts 269 = .ok (.istore_n 3, 1) := by decide +kernel
theorem dX11_goShouts_270 : decode cX11_goShouts 270 = .ok (.iload 7, 2) := by decide +kernel
theorem dX11_goShouts_272 : decode cX11_goShouts 272 = .ok (.istore 4, 2) := by decide +kernel
theorem dX11_goShouts_274 : decode cX11_goShouts 274 = .ok (.iinc 5 1, 3) := by decide +kernel
theorem dX11_goShouts_277 : decode cX11_goShouts 277 = .ok (.goto (-263), 3) := by decide +kernel
theorem dX11_goShouts_280 : decode cX11_goShouts 280 = .ok (.return_, 1) := by decide +kernel
theorem dX11_personOf_0 : decode cX11_personOf 0 = .ok (.iload_n 2, 1) := by decide +kernel
theorem dX11_personOf_1 : decode cX11_personOf 1 = .ok (.istore_n 3, 1) := by decide +kernel
theorem dX11_personOf_2 : decode cX11_personOf 2 = .ok (.iconst 0, 1) := by decide +kernel
theorem dX11_personOf_3 : decode cX11_personOf 3 = .ok (.istore 4, 2) := by decide +kernel
theorem dX11_personOf_5 : decode cX11_personOf 5 = .ok (.aload_n 0, 1) := by decide +kernel
theorem dX11_personOf_6 : decode cX11_personOf 6 = .ok (.getfield 16, 3) := by decide +kernel
theorem dX11_personOf_9 : decode cX11_personOf 9 = .ok (.iload 4, 2) := by decide +kernel
theorem dX11_personOf_11 : decode cX11_personOf 11 = .ok (.iaload, 1) := by decide +kernel
theorem dX11_personOf_12 : decode cX11_personOf 12 = .ok (.iload_n 1, 1) := by decide +kernel
theorem dX11_personOf_13 : decode cX11_personOf 13 = .ok (.if_icmp .ne 7, 3) := by decide +kernel
theorem dX11_personOf_16 : decode cX11_personOf 16 = .ok (.iload_n 3, 1) := by decide +kernel
theorem dX11_personOf_17 : decode cX11_personOf 17 = .ok (.ifCond .le 28, 3) := by decide +kernel
theorem dX11_personOf_20 : decode cX11_personOf 20 = .ok (.iload_n 3, 1) := by decide +kernel
theorem dX11_personOf_21 : decode cX11_personOf 21 = .ok (.aload_n 0, 1) := by decide +kernel
theorem dX11_personOf_22 : decode cX11_personOf 22 = .ok (.getfield 16, 3) := by decide +kernel
theorem dX11_personOf_25 : decode cX11_personOf 25 = .ok (.iload 4, 2) := by decide +kernel
theorem dX11_personOf_27 : decode cX11_personOf 27 = .ok (.iaload, 1) := by decide +kernel
theorem dX11_personOf_28 : decode cX11_personOf 28 = .ok (.iload_n 1, 1) := by decide +kernel
theorem dX11_personOf_29 : decode cX11_personOf 29 = .ok (.if_icmp .ne 7, 3) := by decide +kernel
theorem dX11_personOf_32 : decode cX11_personOf 32 = .ok (.iconst 1, 1) := by decide +kernel
theorem dX11_personOf_33 : decode cX11_personOf 33 = .ok (.goto 4, 3) := by decide +kernel
theorem dX11_personOf_36 : decode cX11_personOf 36 = .ok (.iconst 0, 1) := by decide +kernel
theorem dX11_personOf_37 : decode cX11_personOf 37 = .ok (.isub, 1) := by decide +kernel
theorem dX11_personOf_38 : decode cX11_personOf 38 = .ok (.istore_n 3, 1) := by decide +kernel
theorem dX11_personOf_39 : decode cX11_personOf 39 = .ok (.iinc 4 1, 3) := by decide +kernel
theorem dX11_personOf_42 : decode cX11_personOf 42 = .ok (.goto (-37), 3) := by decide +kernel
theorem dX11_personOf_45 : decode cX11_personOf 45 = .ok (.iload 4, 2) := by decide +kernel
theorem dX11_personOf_47 : decode cX11_personOf 47 = .ok (.ireturn, 1) := by decide +kernel
theorem dX11_goPairs_0 : decode cX11_goPairs 0 = .ok (.iconst 0, 1) := by decide +kernel
theorem dX11_goPairs_1 : decode cX11_goPairs 1 = .ok (.istore_n 1, 1) := by decide +kernel
theorem dX11_goPairs_2 : decode cX11_goPairs 2 = .ok (.iload_n 1, 1) := by decide +kernel
theorem dX11_goPairs_3 : decode cX11_goPairs 3 = .ok (.aload_n 0, 1) := by decide +kernel
theorem dX11_goPairs_4 : decode cX11_goPairs 4 = .ok (.getfield 25, 3) := by decide +kernel
theorem dX11_goPairs_7 : decode cX11_goPairs 7 = .ok (.iconst 0, 1) := by decide +kernel
theorem dX11_goPairs_8 : decode cX11_goPairs 8 = .ok (.iaload, 1) := by decide +kernel
theorem dX11_goPairs_9 : decode cX11_goPairs 9 = .ok (.if_icmp .ge 118, 3) := by decide +kernel
theorem dX11_goPairs_12 : decode cX11_goPairs 12 = .ok (.aload_n 0, 1) := by decide +kernel
theorem dX11_goPairs_13 : decode cX11_goPairs 13 = .ok (.iconst 0, 1) := by decide +kernel
theorem dX11_goPairs_14 : decode cX11_goPairs 14 = .ok (.aload_n 0, 1) := by decide +kernel
theorem dX11_goPairs_15 : decode cX11_goPairs 15 = .ok (.iload_n 1, 1) := by decide +kernel
theorem dX11_goPairs_16 : decode cX11_goPairs 16 = .ok (.iconst 0, 1) := by decide +kernel
theorem dX11_goPairs_17 : decode cX11_goPairs 17 = .ok (.invokevirtual 199, 3) := by decide +kernel
theorem dX11_goPairs_20 : decode cX11_goPairs 20 = .ok (.aload_n 0, 1) := by decide +kernel
theorem dX11_goPairs_21 : decode cX11_goPairs 21 = .ok (.iconst 0, 1) := by decide +kernel
theorem dX11_goPairs_22 : decode cX11_goPairs 22 = .ok (.invokevirtual 169, 3) := by decide +kernel
theorem dX11_goPairs_25 : decode cX11_goPairs 25 = .ok (.irem, 1) := by decide +kernel
theorem dX11_goPairs_26 : decode cX11_goPairs 26 = .ok (.invokevirtual 237, 3) := by decide +kernel
theorem dX11_goPairs_29 : decode cX11_goPairs 29 = .ok (.istore_n 2, 1) := by decide +kernel
theorem dX11_goPairs_30 : decode cX11_goPairs 30 = .ok (.aload_n 0, 1) := by decide +kernel
theorem dX11_goPairs_31 : decode cX11_goPairs 31 = .ok (.iconst 1, 1) := by decide +kernel
theorem dX11_goPairs_32 : decode cX11_goPairs 32 = .ok (.aload_n 0, 1) := by decide +kernel
theorem dX11_goPairs_33 : decode cX11_goPairs 33 = .ok (.iload_n 1, 1) := by decide +kernel
theorem dX11_goPairs_34 : decode cX11_goPairs 34 = .ok (.iconst 2, 1) := by decide +kernel
theorem dX11_goPairs_35 : decode cX11_goPairs 35 = .ok (.invokevirtual 199, 3) := by decide +kernel
theorem dX11_goPairs_38 : decode cX11_goPairs 38 = .ok (.aload_n 0, 1) := by decide +kernel
theorem dX11_goPairs_39 : decode cX11_goPairs 39 = .ok (.iconst 1, 1) := by decide +kernel
theorem dX11_goPairs_40 : decode cX11_goPairs 40 = .ok (.invokevirtual 169, 3) := by decide +kernel
theorem dX11_goPairs_43 : decode cX11_goPairs 43 = .ok (.irem, 1) := by decide +kernel
theorem dX11_goPairs_44 : decode cX11_goPairs 44 = .ok (.invokevirtual 237, 3) := by decide +kernel
theorem dX11_goPairs_47 : decode cX11_goPairs 47 = .ok (.istore_n 3, 1) := by decide +kernel
theorem dX11_goPairs_48 : decode cX11_goPairs 48 = .ok (.aload_n 0, 1) := by decide +kernel
theorem dX11_goPairs_49 : decode cX11_goPairs 49 = .ok (.getfield 58, 3) := by decide +kernel
theorem dX11_goPairs_52 : decode cX11_goPairs 52 = .ok (.iload_n 2, 1) := by decide +kernel
theorem dX11_goPairs_53 : decode cX11_goPairs 53 = .ok (.iaload, 1) := by decide +kernel
theorem dX11_goPairs_54 : decode cX11_goPairs 54 = .ok (.bipush (-4), 2) := by decide +kernel
theorem dX11_goPairs_56 : decode cX11_goPairs 56 = .ok (.if_icmp .ne 65, 3) := by decide +kernel
theorem dX11_goPairs_59 : decode cX11_goPairs 59 = .ok (.aload_n 0, 1) := by decide +kernel
theorem dX11_goPairs_60 : decode cX11_goPairs 60 = .ok (.getfield 58, 3) := by decide +kernel
theorem dX11_goPairs_63 : decode cX11_goPairs 63 = .ok (.iload_n 3, 1) := by decide +kernel
theorem dX11_goPairs_64 : decode cX11_goPairs 64 = .ok (.iaload, 1) := by decide +kernel
theorem dX11_goPairs_65 : decode cX11_goPairs 65 = .ok (.bipush (-4), 2) := by decide +kernel
theorem dX11_goPairs_67 : decode cX11_goPairs 67 = .ok (.if_icmp .ne 54, 3) := by decide +kernel
theorem dX11_goPairs_70 : decode cX11_goPairs 70 = .ok (.aload_n 0, 1) := by decide +kernel
theorem dX11_goPairs_71 : decode cX11_goPairs 71 = .ok (.iload_n 3, 1) := by decide +kernel
theorem dX11_goPairs_72 : decode cX11_goPairs 72 = .ok (.iload_n 1, 1) := by decide +kernel
theorem dX11_goPairs_73 : decode cX11_goPairs 73 = .ok (.iload_n 1, 1) := by decide +kernel
theorem dX11_goPairs_74 : decode cX11_goPairs 74 = .ok (.iconst 3, 1) := by decide +kernel
theorem dX11_goPairs_75 : decode cX11_goPairs 75 = .ok (.invokevirtual 225, 3) := by decide +kernel
theorem dX11_goPairs_78 : decode cX11_goPairs 78 = .ok (.istore 4, 2) := by decide +kernel
theorem dX11_goPairs_80 : decode cX11_goPairs 80 = .ok (.iload 4, 2) := by decide +kernel
theorem dX11_goPairs_82 : decode cX11_goPairs 82 = .ok (.ifCond .lt 39, 3) := by decide +kernel
theorem dX11_goPairs_85 : decode cX11_goPairs 85 = .ok (.aload_n 0, 1) := by decide +kernel
theorem dX11_goPairs_86 : decode cX11_goPairs 86 = .ok (.iload_n 2, 1) := by decide +kernel
theorem dX11_goPairs_87 : decode cX11_goPairs 87 = .ok (.iload_n 1, 1) := by decide +kernel
theorem dX11_goPairs_88 : decode cX11_goPairs 88 = .ok (.iload_n 1, 1) := by decide +kernel
theorem dX11_goPairs_89 : decode cX11_goPairs 89 = .ok (.iconst 1, 1) := by decide +kernel
theorem dX11_goPairs_90 : decode cX11_goPairs 90 = .ok (.invokevirtual 225, 3) := by decide +kernel
theorem dX11_goPairs_93 : decode cX11_goPairs 93 = .ok (.iload 4, 2) := by decide +kernel
theorem dX11_goPairs_95 : decode cX11_goPairs 95 = .ok (.aload_n 0, 1) := by decide +kernel
theorem dX11_goPairs_96 : decode cX11_goPairs 96 = .ok (.getfield 25, 3) := by decide +kernel
theorem dX11_goPairs_99 : decode cX11_goPairs 99 = .ok (.iconst 1, 1) := by decide +kernel
theorem dX11_goPairs_100 : decode cX11_goPairs 100 = .ok (.iaload, 1) := by decide +kernel
theorem dX11_goPairs_101 : decode cX11_goPairs 101 = .ok (.iadd, 1) := by decide +kernel
theorem dX11_goPairs_102 : decode cX11_goPairs 102 = .ok (.if_icmp .lt 19, 3) := by decide +kernel
theorem dX11_goPairs_105 : decode cX11_goPairs 105 = .ok (.aload_n 0, 1) := by decide +kernel
theorem dX11_goPairs_106 : decode cX11_goPairs 106 = .ok (.iload_n 2, 1) := by decide +kernel
theorem dX11_goPairs_107 : decode cX11_goPairs 107 = .ok (.iload_n 3, 1) := by decide +kernel
theorem dX11_goPairs_108 : decode cX11_goPairs 108 = .ok (.iload 4, 2) := by decide +kernel
theorem dX11_goPairs_110 : decode cX11_goPairs 110 = .ok (.aload_n 0, 1) := by decide +kernel
theorem dX11_goPairs_111 : decode cX11_goPairs 111 = .ok (.getfield 25, 3) := by decide +kernel
theorem dX11_goPairs_114 : decode cX11_goPairs 114 = .ok (.iconst 1, 1) := by decide +kernel
theorem dX11_goPairs_115 : decode cX11_goPairs 115 = .ok (.iaload, 1) := by decide +kernel
theorem dX11_goPairs_116 : decode cX11_goPairs 116 = .ok (.iadd, 1) := by decide +kernel
theorem dX11_goPairs_117 : decode cX11_goPairs 117 = .ok (.iload_n 1, 1) := by decide +kernel
theorem dX11_goPairs_118 : decode cX11_goPairs 118 = .ok (.invokevirtual 233, 3) := by decide +kernel
theorem dX11_goPairs_121 : decode cX11_goPairs 121 = .ok (.iinc 1 1, 3) := by decide +kernel
theorem dX11_goPairs_124 : decode cX11_goPairs 124 = .ok (.goto (-122), 3) := by decide +kernel
theorem dX11_goPairs_127 : decode cX11_goPairs 127 = .ok (.return_, 1) := by decide +kernel
theorem dX11_goPosted_0 : decode cX11_goPosted 0 = .ok (.iconst 0, 1) := by decide +kernel
theorem dX11_goPosted_1 : decode cX11_goPosted 1 = .ok (.istore_n 1, 1) := by decide +kernel
theorem dX11_goPosted_2 : decode cX11_goPosted 2 = .ok (.iload_n 1, 1) := by decide +kernel
theorem dX11_goPosted_3 : decode cX11_goPosted 3 = .ok (.aload_n 0, 1) := by decide +kernel
theorem dX11_goPosted_4 : decode cX11_goPosted 4 = .ok (.getfield 13, 3) := by decide +kernel
theorem dX11_goPosted_7 : decode cX11_goPosted 7 = .ok (.iconst 0, 1) := by decide +kernel
theorem dX11_goPosted_8 : decode cX11_goPosted 8 = .ok (.iaload, 1) := by decide +kernel
theorem dX11_goPosted_9 : decode cX11_goPosted 9 = .ok (.if_icmp .ge 38, 3) := by decide +kernel
theorem dX11_goPosted_12 : decode cX11_goPosted 12 = .ok (.aload_n 0, 1) := by decide +kernel
theorem dX11_goPosted_13 : decode cX11_goPosted 13 = .ok (.getfield 61, 3) := by decide +kernel
theorem dX11_goPosted_16 : decode cX11_goPosted 16 = .ok (.iload_n 1, 1) := by decide +kernel
theorem dX11_goPosted_17 : decode cX11_goPosted 17 = .ok (.aload_n 0, 1) := by decide +kernel
theorem dX11_goPosted_18 : decode cX11_goPosted 18 = .ok (.getfield 16, 3) := by decide +kernel
theorem dX11_goPosted_21 : decode cX11_goPosted 21 = .ok (.iload_n 1, 1) := by decide +kernel
theorem dX11_goPosted_22 : decode cX11_goPosted 22 = .ok (.iaload, 1) := by decide +kernel
theorem dX11_goPosted_23 : decode cX11_goPosted 23 = .ok (.iconst 1, 1) := by decide +kernel
theorem dX11_goPosted_24 : decode cX11_goPosted 24 = .ok (.if_icmp .ne 14, 3) := by decide +kernel
theorem dX11_goPosted_27 : decode cX11_goPosted 27 = .ok (.aload_n 0, 1) := by decide +kernel
theorem dX11_goPosted_28 : decode cX11_goPosted 28 = .ok (.iload_n 1, 1) := by decide +kernel
theorem dX11_goPosted_29 : decode cX11_goPosted 29 = .ok (.iconst 0, 1) := by decide +kernel
theorem dX11_goPosted_30 : decode cX11_goPosted 30 = .ok (.iload_n 1, 1) := by decide +kernel
theorem dX11_goPosted_31 : decode cX11_goPosted 31 = .ok (.iconst 1, 1) := by decide +kernel
theorem dX11_goPosted_32 : decode cX11_goPosted 32 = .ok (.invokevirtual 225, 3) := by decide +kernel
theorem dX11_goPosted_35 : decode cX11_goPosted 35 = .ok (.goto 5, 3) := by decide +kernel
theorem dX11_goPosted_38 : decode cX11_goPosted 38 = .ok (.bipush (-4), 2) := by decide +kernel
theorem dX11_goPosted_40 : decode cX11_goPosted 40 = .ok (.iastore, 1) := by decide +kernel
theorem dX11_goPosted_41 : decode cX11_goPosted 41 = .ok (.iinc 1 1, 3) := by decide +kernel
theorem dX11_goPosted_44 : decode cX11_goPosted 44 = .ok (.goto (-42), 3) := by decide +kernel
theorem dX11_goPosted_47 : decode cX11_goPosted 47 = .ok (.iconst 0, 1) := by decide +kernel
theorem dX11_goPosted_48 : decode cX11_goPosted 48 = .ok (.istore_n 1, 1) := by decide +kernel
theorem dX11_goPosted_49 : decode cX11_goPosted 49 = .ok (.iload_n 1, 1) := by decide +kernel
theorem dX11_goPosted_50 : decode cX11_goPosted 50 = .ok (.aload_n 0, 1) := by decide +kernel
theorem dX11_goPosted_51 : decode cX11_goPosted 51 = .ok (.getfield 25, 3) := by decide +kernel
theorem dX11_goPosted_54 : decode cX11_goPosted 54 = .ok (.iconst 0, 1) := by decide +kernel
theorem dX11_goPosted_55 : decode cX11_goPosted 55 = .ok (.iaload, 1) := by decide +kernel
theorem dX11_goPosted_56 : decode cX11_goPosted 56 = .ok (.if_icmp .ge 179, 3) := by decide +kernel
theorem dX11_goPosted_59 : decode cX11_goPosted 59 = .ok (.aload_n 0, 1) := by decide +kernel
theorem dX11_goPosted_60 : decode cX11_goPosted 60 = .ok (.iconst 0, 1) := by decide +kernel
theorem dX11_goPosted_61 : decode cX11_goPosted 61 = .ok (.aload_n 0, 1) := by decide +kernel
theorem dX11_goPosted_62 : decode cX11_goPosted 62 = .ok (.iload_n 1, 1) := by decide +kernel
theorem dX11_goPosted_63 : decode cX11_goPosted 63 = .ok (.iconst 0, 1) := by decide +kernel
theorem dX11_goPosted_64 : decode cX11_goPosted 64 = .ok (.invokevirtual 199, 3) := by decide +kernel
theorem dX11_goPosted_67 : decode cX11_goPosted 67 = .ok (.aload_n 0, 1) := by decide +kernel
theorem dX11_goPosted_68 : decode cX11_goPosted 68 = .ok (.iconst 0, 1) := by decide +kernel
theorem dX11_goPosted_69 : decode cX11_goPosted 69 = .ok (.invokevirtual 169, 3) := by decide +kernel
theorem dX11_goPosted_72 : decode cX11_goPosted 72 = .ok (.irem, 1) := by decide +kernel
theorem dX11_goPosted_73 : decode cX11_goPosted 73 = .ok (.invokevirtual 237, 3) := by decide +kernel
theorem dX11_goPosted_76 : decode cX11_goPosted 76 = .ok (.istore_n 2, 1) := by decide +kernel
theorem dX11_goPosted_77 : decode cX11_goPosted 77 = .ok (.bipush (-4), 2) := by decide +kernel
theorem dX11_goPosted_79 : decode cX11_goPosted 79 = .ok (.istore_n 3, 1) := by decide +kernel
theorem dX11_goPosted_80 : decode cX11_goPosted 80 = .ok (.iconst 0, 1) := by decide +kernel
theorem dX11_goPosted_81 : decode cX11_goPosted 81 = .ok (.istore 4, 2) := by decide +kernel
theorem dX11_goPosted_83 : decode cX11_goPosted 83 = .ok (.iload 4, 2) := by decide +kernel
theorem dX11_goPosted_85 : decode cX11_goPosted 85 = .ok (.aload_n 0, 1) := by decide +kernel
theorem dX11_goPosted_86 : decode cX11_goPosted 86 = .ok (.getfield 13, 3) := by decide +kernel
theorem dX11_goPosted_89 : decode cX11_goPosted 89 = .ok (.iconst 0, 1) := by decide +kernel
theorem dX11_goPosted_90 : decode cX11_goPosted 90 = .ok (.iaload, 1) := by decide +kernel
theorem dX11_goPosted_91 : decode cX11_goPosted 91 = .ok (.if_icmp .ge 81, 3) := by decide +kernel
theorem dX11_goPosted_94 : decode cX11_goPosted 94 = .ok (.aload_n 0, 1) := by decide +kernel
theorem dX11_goPosted_95 : decode cX11_goPosted 95 = .ok (.getfield 16, 3) := by decide +kernel
theorem dX11_goPosted_98 : decode cX11_goPosted 98 = .ok (.iload 4, 2) := by decide +kernel
theorem dX11_goPosted_100 : decode cX11_goPosted 100 = .ok (.iaload, 1) := by decide +kernel
theorem dX11_goPosted_101 : decode cX11_goPosted 101 = .ok (.iconst 1, 1) := by decide +kernel
theorem dX11_goPosted_102 : decode cX11_goPosted 102 = .ok (.if_icmp .ne 29, 3) := by decide +kernel
theorem dX11_goPosted_105 : decode cX11_goPosted 105 = .ok (.aload_n 0, 1) := by decide +kernel
theorem dX11_goPosted_106 : decode cX11_goPosted 106 = .ok (.getfield 58, 3) := by decide +kernel
theorem dX11_goPosted_109 : decode cX11_goPosted 109 = .ok (.iload 4, 2) := by decide +kernel
theorem dX11_goPosted_111 : decode cX11_goPosted 111 = .ok (.iaload, 1) := by decide +kernel
theorem dX11_goPosted_112 : decode cX11_goPosted 112 = .ok (.bipush (-4), 2) := by decide +kernel
theorem dX11_goPosted_114 : decode cX11_goPosted 114 = .ok (.if_icmp .ne 17, 3) := by decide +kernel
theorem dX11_goPosted_117 : decode cX11_goPosted 117 = .ok (.aload_n 0, 1) := by decide +kernel
theorem dX11_goPosted_118 : decode cX11_goPosted 118 = .ok (.getfield 61, 3) := by decide +kernel
theorem dX11_goPosted_121 : decode cX11_goPosted 121 = .ok (.iload 4, 2) := by decide +kernel
theorem dX11_goPosted_123 : decode cX11_goPosted 123 = .ok (.iaload, 1) := by decide +kernel
theorem dX11_goPosted_124 : decode cX11_goPosted 124 = .ok (.ifCond .lt 7, 3) := by decide +kernel
theorem dX11_goPosted_127 : decode cX11_goPosted 127 = .ok (.iconst 1, 1) := by decide +kernel
theorem dX11_goPosted_128 : decode cX11_goPosted 128 = .ok (.goto 4, 3) := by decide +kernel
theorem dX11_goPosted_131 : decode cX11_goPosted 131 = .ok (.iconst 0, 1) := by decide +kernel
theorem dX11_goPosted_132 : decode cX11_goPosted 132 = .ok (.istore 5, 2) := by decide +kernel
theorem dX11_goPosted_134 : decode cX11_goPosted 134 = .ok (.iload 5, 2) := by decide +kernel
theorem dX11_goPosted_136 : decode cX11_goPosted 136 = .ok (.ifCond .eq 28, 3) := by decide +kernel
theorem dX11_goPosted_139 : decode cX11_goPosted 139 = .ok (.iload_n 3, 1) := by decide +kernel
theorem dX11_goPosted_140 : decode cX11_goPosted 140 = .ok (.ifCond .lt 19, 3) := by decide +kernel
theorem dX11_goPosted_143 : decode cX11_goPosted 143 = .ok (.aload_n 0, 1) := by decide +kernel
theorem dX11_goPosted_144 : decode cX11_goPosted 144 = .ok (.getfield 61, 3) := by decide +kernel
theorem dX11_goPosted_147 : decode cX11_goPosted 147 = .ok (.iload 4, 2) := by decide +kernel
theorem dX11_goPosted_149 : decode cX11_goPosted 149 = .ok (.iaload, 1) := by decide +kernel
theorem dX11_goPosted_150 : decode cX11_goPosted 150 = .ok (.aload_n 0, 1) := by decide +kernel
theorem dX11_goPosted_151 : decode cX11_goPosted 151 = .ok (.getfield 61, 3) := by decide +kernel
theorem dX11_goPosted_154 : decode cX11_goPosted 154 = .ok (.iload_n 3, 1) := by decide +kernel
theorem dX11_goPosted_155 : decode cX11_goPosted 155 = .ok (.iaload, 1) := by decide +kernel
theorem dX11_goPosted_156 : decode cX11_goPosted 156 = .ok (.if_icmp .ge 8, 3) := by decide +kernel
theorem dX11_goPosted_159 : decode cX11_goPosted 159 = .ok (.iload 4, 2) := by decide +kernel
theorem dX11_goPosted_161 : decode cX11_goPosted 161 = .ok (.goto 4, 3) := by decide +kernel
theorem dX11_goPosted_164 : decode cX11_goPosted 164 = .ok (.iload_n 3, 1) := by decide +kernel
theorem dX11_goPosted_165 : decode cX11_goPosted 165 = .ok (.istore_n 3, 1) := by decide +kernel
theorem dX11_goPosted_166 : decode cX11_goPosted 166 = .ok (.iinc 4 1, 3) := by decide +kernel
theorem dX11_goPosted_169 : decode cX11_goPosted 169 = .ok (.goto (-86), 3) := by decide +kernel
theorem dX11_goPosted_172 : decode cX11_goPosted 172 = .ok (.aload_n 0, 1) := by decide +kernel
theorem dX11_goPosted_173 : decode cX11_goPosted 173 = .ok (.getfield 58, 3) := by decide +kernel
theorem dX11_goPosted_176 : decode cX11_goPosted 176 = .ok (.iload_n 2, 1) := by decide +kernel
theorem dX11_goPosted_177 : decode cX11_goPosted 177 = .ok (.iaload, 1) := by decide +kernel
theorem dX11_goPosted_178 : decode cX11_goPosted 178 = .ok (.bipush (-4), 2) := by decide +kernel
theorem dX11_goPosted_180 : decode cX11_goPosted 180 = .ok (.if_icmp .ne 49, 3) := by decide +kernel
theorem dX11_goPosted_183 : decode cX11_goPosted 183 = .ok (.iload_n 3, 1) := by decide +kernel
theorem dX11_goPosted_184 : decode cX11_goPosted 184 = .ok (.ifCond .lt 45, 3) := by decide +kernel
theorem dX11_goPosted_187 : decode cX11_goPosted 187 = .ok (.aload_n 0, 1) := by decide +kernel
theorem dX11_goPosted_188 : decode cX11_goPosted 188 = .ok (.getfield 61, 3) := by decide +kernel
theorem dX11_goPosted_191 : decode cX11_goPosted 191 = .ok (.iload_n 3, 1) := by decide +kernel
theorem dX11_goPosted_192 : decode cX11_goPosted 192 = .ok (.iaload, 1) := by decide +kernel
theorem dX11_goPosted_193 : decode cX11_goPosted 193 = .ok (.aload_n 0, 1) := by decide +kernel
theorem dX11_goPosted_194 : decode cX11_goPosted 194 = .ok (.getfield 25, 3) := by decide +kernel
theorem dX11_goPosted_197 : decode cX11_goPosted 197 = .ok (.iconst 1, 1) := by decide +kernel
theorem dX11_goPosted_198 : decode cX11_goPosted 198 = .ok (.iaload, 1) := by decide +kernel
theorem dX11_goPosted_199 : decode cX11_goPosted 199 = .ok (.iadd, 1) := by decide +kernel
theorem dX11_goPosted_200 : decode cX11_goPosted 200 = .ok (.aload_n 0, 1) := by decide +kernel
theorem dX11_goPosted_201 : decode cX11_goPosted 201 = .ok (.getfield 19, 3) := by decide +kernel
theorem dX11_goPosted_204 : decode cX11_goPosted 204 = .ok (.iload_n 2, 1) := by decide +kernel
theorem dX11_goPosted_205 : decode cX11_goPosted 205 = .ok (.iaload, 1) := by decide +kernel
theorem dX11_goPosted_206 : decode cX11_goPosted 206 = .ok (.if_icmp .gt 23, 3) := by decide +kernel
theorem dX11_goPosted_209 : decode cX11_goPosted 209 = .ok (.aload_n 0, 1) := by decide +kernel
theorem dX11_goPosted_210 : decode cX11_goPosted 210 = .ok (.iload_n 2, 1) := by decide +kernel
theorem dX11_goPosted_211 : decode cX11_goPosted 211 = .ok (.iload_n 3, 1) := by decide +kernel
theorem dX11_goPosted_212 : decode cX11_goPosted 212 = .ok (.aload_n 0, 1) := by decide +kernel
theorem dX11_goPosted_213 : decode cX11_goPosted 213 = .ok (.getfield 61, 3) := by decide +kernel
theorem dX11_goPosted_216 : decode cX11_goPosted 216 = .ok (.iload_n 3, 1) := by decide +kernel
theorem dX11_goPosted_217 : decode cX11_goPosted 217 = .ok (.iaload, 1) := by decide +kernel
theorem dX11_goPosted_218 : decode cX11_goPosted 218 = .ok (.aload_n 0, 1) := by decide +kernel
theorem dX11_goPosted_219 : decode cX11_goPosted 219 = .ok (.getfield 25, 3) := by decide +kernel
theorem dX11_goPosted_222 : decode cX11_goPosted 222 = .ok (.iconst 1, 1) := by decide +kernel
theorem dX11_goPosted_223 : decode cX11_goPosted 223 = .ok (.iaload, 1) := by decide +kernel
theorem dX11_goPosted_224 : decode cX11_goPosted 224 = .ok (.iadd, 1) := by decide +kernel
theorem dX11_goPosted_225 : decode cX11_goPosted 225 = .ok (.iload_n 1, 1) := by decide +kernel
theorem dX11_goPosted_226 : decode cX11_goPosted 226 = .ok (.invokevirtual 233, 3) := by decide +kernel
theorem dX11_goPosted_229 : decode cX11_goPosted 229 = .ok (.iinc 1 1, 3) := by decide +kernel
theorem dX11_goPosted_232 : decode cX11_goPosted 232 = .ok (.goto (-183), 3) := by decide +kernel
theorem dX11_goPosted_235 : decode cX11_goPosted 235 = .ok (.return_, 1) := by decide +kernel
theorem dX11_goBell_0 : decode cX11_goBell 0 = .ok (.iconst 0, 1) := by decide +kernel
theorem dX11_goBell_1 : decode cX11_goBell 1 = .ok (.istore_n 1, 1) := by decide +kernel
theorem dX11_goBell_2 : decode cX11_goBell 2 = .ok (.iload_n 1, 1) := by decide +kernel
theorem dX11_goBell_3 : decode cX11_goBell 3 = .ok (.aload_n 0, 1) := by decide +kernel
theorem dX11_goBell_4 : decode cX11_goBell 4 = .ok (.getfield 13, 3) := by decide +kernel
theorem dX11_goBell_7 : decode cX11_goBell 7 = .ok (.iconst 0, 1) := by decide +kernel
theorem dX11_goBell_8 : decode cX11_goBell 8 = .ok (.iaload, 1) := by decide +kernel
theorem dX11_goBell_9 : decode cX11_goBell 9 = .ok (.if_icmp .ge 30, 3) := by decide +kernel
theorem dX11_goBell_12 : decode cX11_goBell 12 = .ok (.aload_n 0, 1) := by decide +kernel
theorem dX11_goBell_13 : decode cX11_goBell 13 = .ok (.getfield 49, 3) := by decide +kernel
theorem dX11_goBell_16 : decode cX11_goBell 16 = .ok (.iload_n 1, 1) := by decide +kernel
theorem dX11_goBell_17 : decode cX11_goBell 17 = .ok (.aload_n 0, 1) := by decide +kernel
theorem dX11_goBell_18 : decode cX11_goBell 18 = .ok (.iload_n 1, 1) := by decide +kernel
theorem dX11_goBell_19 : decode cX11_goBell 19 = .ok (.aload_n 0, 1) := by decide +kernel
theorem dX11_goBell_20 : decode cX11_goBell 20 = .ok (.getfield 25, 3) := by decide +kernel
theorem dX11_goBell_23 : decode cX11_goBell 23 = .ok (.iconst 0, 1) := by decide +kernel
theorem dX11_goBell_24 : decode cX11_goBell 24 = .ok (.iaload, 1) := by decide +kernel
theorem dX11_goBell_25 : decode cX11_goBell 25 = .ok (.iconst 1, 1) := by decide +kernel
theorem dX11_goBell_26 : decode cX11_goBell 26 = .ok (.isub, 1) := by decide +kernel
theorem dX11_goBell_27 : decode cX11_goBell 27 = .ok (.iload_n 1, 1) := by decide +kernel
theorem dX11_goBell_28 : decode cX11_goBell 28 = .ok (.iconst 1, 1) := by decide +kernel
theorem dX11_goBell_29 : decode cX11_goBell 29 = .ok (.invokevirtual 225, 3) := by decide +kernel
theorem dX11_goBell_32 : decode cX11_goBell 32 = .ok (.iastore, 1) := by decide +kernel
theorem dX11_goBell_33 : decode cX11_goBell 33 = .ok (.iinc 1 1, 3) := by decide +kernel
theorem dX11_goBell_36 : decode cX11_goBell 36 = .ok (.goto (-34), 3) := by decide +kernel
theorem dX11_goBell_39 : decode cX11_goBell 39 = .ok (.aload_n 0, 1) := by decide +kernel
theorem dX11_goBell_40 : decode cX11_goBell 40 = .ok (.invokevirtual 151, 3) := by decide +kernel
theorem dX11_goBell_43 : decode cX11_goBell 43 = .ok (.aload_n 0, 1) := by decide +kernel
theorem dX11_goBell_44 : decode cX11_goBell 44 = .ok (.aload_n 0, 1) := by decide +kernel
theorem dX11_goBell_45 : decode cX11_goBell 45 = .ok (.getfield 25, 3) := by decide +kernel
theorem dX11_goBell_48 : decode cX11_goBell 48 = .ok (.iconst 1, 1) := by decide +kernel
theorem dX11_goBell_49 : decode cX11_goBell 49 = .ok (.iaload, 1) := by decide +kernel
theorem dX11_goBell_50 : decode cX11_goBell 50 = .ok (.invokevirtual 154, 3) := by decide +kernel
theorem dX11_goBell_53 : decode cX11_goBell 53 = .ok (.istore_n 1, 1) := by decide +kernel
theorem dX11_goBell_54 : decode cX11_goBell 54 = .ok (.iload_n 1, 1) := by decide +kernel
theorem dX11_goBell_55 : decode cX11_goBell 55 = .ok (.ifCond .le 46, 3) := by decide +kernel
theorem dX11_goBell_58 : decode cX11_goBell 58 = .ok (.aload_n 0, 1) := by decide +kernel
theorem dX11_goBell_59 : decode cX11_goBell 59 = .ok (.iload_n 1, 1) := by decide +kernel
theorem dX11_goBell_60 : decode cX11_goBell 60 = .ok (.aload_n 0, 1) := by decide +kernel
theorem dX11_goBell_61 : decode cX11_goBell 61 = .ok (.getfield 25, 3) := by decide +kernel
theorem dX11_goBell_64 : decode cX11_goBell 64 = .ok (.iconst 1, 1) := by decide +kernel
theorem dX11_goBell_65 : decode cX11_goBell 65 = .ok (.iaload, 1) := by decide +kernel
theorem dX11_goBell_66 : decode cX11_goBell 66 = .ok (.invokevirtual 160, 3) := by decide +kernel
theorem dX11_goBell_69 : decode cX11_goBell 69 = .ok (.istore_n 2, 1) := by decide +kernel
theorem dX11_goBell_70 : decode cX11_goBell 70 = .ok (.iconst 0, 1) := by decide +kernel
theorem dX11_goBell_71 : decode cX11_goBell 71 = .ok (.istore_n 3, 1) := by decide +kernel
theorem dX11_goBell_72 : decode cX11_goBell 72 = .ok (.iload_n 3, 1) := by decide +kernel
theorem dX11_goBell_73 : decode cX11_goBell 73 = .ok (.iload_n 1, 1) := by decide +kernel
theorem dX11_goBell_74 : decode cX11_goBell 74 = .ok (.if_icmp .ge 27, 3) := by decide +kernel
theorem dX11_goBell_77 : decode cX11_goBell 77 = .ok (.aload_n 0, 1) := by decide +kernel
theorem dX11_goBell_78 : decode cX11_goBell 78 = .ok (.aload_n 0, 1) := by decide +kernel
theorem dX11_goBell_79 : decode cX11_goBell 79 = .ok (.getfield 52, 3) := by decide +kernel
theorem dX11_goBell_82 : decode cX11_goBell 82 = .ok (.iload_n 3, 1) := by decide +kernel
theorem dX11_goBell_83 : decode cX11_goBell 83 = .ok (.iaload, 1) := by decide +kernel
theorem dX11_goBell_84 : decode cX11_goBell 84 = .ok (.aload_n 0, 1) := by decide +kernel
theorem dX11_goBell_85 : decode cX11_goBell 85 = .ok (.getfield 55, 3) := by decide +kernel
theorem dX11_goBell_88 : decode cX11_goBell 88 = .ok (.iload_n 3, 1) := by decide +kernel
theorem dX11_goBell_89 : decode cX11_goBell 89 = .ok (.iaload, 1) := by decide +kernel
theorem dX11_goBell_90 : decode cX11_goBell 90 = .ok (.iload_n 2, 1) := by decide +kernel
theorem dX11_goBell_91 : decode cX11_goBell 91 = .ok (.iconst 0, 1) := by decide +kernel
theorem dX11_goBell_92 : decode cX11_goBell 92 = .ok (.invokevirtual 233, 3) := by decide +kernel
theorem dX11_goBell_95 : decode cX11_goBell 95 = .ok (.iinc 3 1, 3) := by decide +kernel
theorem dX11_goBell_98 : decode cX11_goBell 98 = .ok (.goto (-26), 3) := by decide +kernel
theorem dX11_goBell_101 : decode cX11_goBell 101 = .ok (.return_, 1) := by decide +kernel
theorem dX11_goRound_0 : decode cX11_goRound 0 = .ok (.aload_n 0, 1) := by decide +kernel
theorem dX11_goRound_1 : decode cX11_goRound 1 = .ok (.iload_n 2, 1) := by decide +kernel
theorem dX11_goRound_2 : decode cX11_goRound 2 = .ok (.putfield 187, 3) := by decide +kernel
theorem dX11_goRound_5 : decode cX11_goRound 5 = .ok (.aload_n 0, 1) := by decide +kernel
theorem dX11_goRound_6 : decode cX11_goRound 6 = .ok (.bipush (-4), 2) := by decide +kernel
theorem dX11_goRound_8 : decode cX11_goRound 8 = .ok (.putfield 196, 3) := by decide +kernel
theorem dX11_goRound_11 : decode cX11_goRound 11 = .ok (.aload_n 0, 1) := by decide +kernel
theorem dX11_goRound_12 : decode cX11_goRound 12 = .ok (.iconst 0, 1) := by decide +kernel
theorem dX11_goRound_13 : decode cX11_goRound 13 = .ok (.putfield 209, 3) := by decide +kernel
theorem dX11_goRound_16 : decode cX11_goRound 16 = .ok (.aload_n 0, 1) := by decide +kernel
theorem dX11_goRound_17 : decode cX11_goRound 17 = .ok (.iconst 0, 1) := by decide +kernel
theorem dX11_goRound_18 : decode cX11_goRound 18 = .ok (.putfield 206, 3) := by decide +kernel
theorem dX11_goRound_21 : decode cX11_goRound 21 = .ok (.aload_n 0, 1) := by decide +kernel
theorem dX11_goRound_22 : decode cX11_goRound 22 = .ok (.iconst 0, 1) := by decide +kernel
theorem dX11_goRound_23 : decode cX11_goRound 23 = .ok (.putfield 218, 3) := by decide +kernel
theorem dX11_goRound_26 : decode cX11_goRound 26 = .ok (.aload_n 0, 1) := by decide +kernel
theorem dX11_goRound_27 : decode cX11_goRound 27 = .ok (.iconst 0, 1) := by decide +kernel
theorem dX11_goRound_28 : decode cX11_goRound 28 = .ok (.putfield 212, 3) := by decide +kernel
theorem dX11_goRound_31 : decode cX11_goRound 31 = .ok (.aload_n 0, 1) := by decide +kernel
theorem dX11_goRound_32 : decode cX11_goRound 32 = .ok (.iconst 0, 1) := by decide +kernel
theorem dX11_goRound_33 : decode cX11_goRound 33 = .ok (.putfield 215, 3) := by decide +kernel
theorem dX11_goRound_36 : decode cX11_goRound 36 = .ok (.aload_n 0, 1) := by decide +kernel
theorem dX11_goRound_37 : decode cX11_goRound 37 = .ok (.iload_n 3, 1) := by decide +kernel
theorem dX11_goRound_38 : decode cX11_goRound 38 = .ok (.ifCond .eq 11, 3) := by decide +kernel
theorem dX11_goRound_41 : decode cX11_goRound 41 = .ok (.iload_n 1, 1) := by decide +kernel
theorem dX11_goRound_42 : decode cX11_goRound 42 = .ok (.ifCond .ne 7, 3) := by decide +kernel
theorem dX11_goRound_45 : decode cX11_goRound 45 = .ok (.iconst 1, 1) := by decide +kernel
theorem dX11_goRound_46 : decode cX11_goRound 46 = .ok (.goto 4, 3) := by decide +kernel
theorem dX11_goRound_49 : decode cX11_goRound 49 = .ok (.iconst 0, 1) := by decide +kernel
theorem dX11_goRound_50 : decode cX11_goRound 50 = .ok (.putfield 221, 3) := by decide +kernel
theorem dX11_goRound_53 : decode cX11_goRound 53 = .ok (.aload_n 0, 1) := by decide +kernel
theorem dX11_goRound_54 : decode cX11_goRound 54 = .ok (.getfield 28, 3) := by decide +kernel
theorem dX11_goRound_57 : decode cX11_goRound 57 = .ok (.iconst 0, 1) := by decide +kernel
theorem dX11_goRound_58 : decode cX11_goRound 58 = .ok (.aload_n 0, 1) := by decide +kernel
theorem dX11_goRound_59 : decode cX11_goRound 59 = .ok (.getfield 221, 3) := by decide +kernel
theorem dX11_goRound_62 : decode cX11_goRound 62 = .ok (.ifCond .eq 7, 3) := by decide +kernel
theorem dX11_goRound_65 : decode cX11_goRound 65 = .ok (.iconst 0, 1) := by decide +kernel
theorem dX11_goRound_66 : decode cX11_goRound 66 = .ok (.goto 9, 3) := by decide +kernel
theorem dX11_goRound_69 : decode cX11_goRound 69 = .ok (.aload_n 0, 1) := by decide +kernel
theorem dX11_goRound_70 : decode cX11_goRound 70 = .ok (.getfield 28, 3) := by decide +kernel
theorem dX11_goRound_73 : decode cX11_goRound 73 = .ok (.iconst 0, 1) := by decide +kernel
theorem dX11_goRound_74 : decode cX11_goRound 74 = .ok (.iaload, 1) := by decide +kernel
theorem dX11_goRound_75 : decode cX11_goRound 75 = .ok (.iastore, 1) := by decide +kernel
theorem dX11_goRound_76 : decode cX11_goRound 76 = .ok (.iconst 0, 1) := by decide +kernel
theorem dX11_goRound_77 : decode cX11_goRound 77 = .ok (.istore 4, 2) := by decide +kernel
theorem dX11_goRound_79 : decode cX11_goRound 79 = .ok (.iload 4, 2) := by decide +kernel
theorem dX11_goRound_81 : decode cX11_goRound 81 = .ok (.bipush 20, 2) := by decide +kernel
theorem dX11_goRound_83 : decode cX11_goRound 83 = .ok (.if_icmp .ge 18, 3) := by decide +kernel
theorem dX11_goRound_86 : decode cX11_goRound 86 = .ok (.aload_n 0, 1) := by decide +kernel
theorem dX11_goRound_87 : decode cX11_goRound 87 = .ok (.getfield 58, 3) := by decide +kernel
theorem dX11_goRound_90 : decode cX11_goRound 90 = .ok (.iload 4, 2) := by decide +kernel
theorem dX11_goRound_92 : decode cX11_goRound 92 = .ok (.bipush (-4), 2) := by decide +kernel
theorem dX11_goRound_94 : decode cX11_goRound 94 = .ok (.iastore, 1) := by decide +kernel
theorem dX11_goRound_95 : decode cX11_goRound 95 = .ok (.iinc 4 1, 3) := by decide +kernel
theorem dX11_goRound_98 : decode cX11_goRound 98 = .ok (.goto (-19), 3) := by decide +kernel
theorem dX11_goRound_101 : decode cX11_goRound 101 = .ok (.iload_n 1, 1) := by decide +kernel
theorem dX11_goRound_102 : decode cX11_goRound 102 = .ok (.tableswitch 47 0 2 #[26, 33, 40], 26) := by decide +kernel
theorem dX11_goRound_128 : decode cX11_goRound 128 = .ok (.aload_n 0, 1) := by decide +kernel
theorem dX11_goRound_129 : decode cX11_goRound 129 = .ok (.invokevirtual 240, 3) := by decide +kernel
theorem dX11_goRound_132 : decode cX11_goRound 132 = .ok (.goto 21, 3) := by decide +kernel
theorem dX11_goRound_135 : decode cX11_goRound 135 = .ok (.aload_n 0, 1) := by decide +kernel
theorem dX11_goRound_136 : decode cX11_goRound 136 = .ok (.invokevirtual 243, 3) := by decide +kernel
theorem dX11_goRound_139 : decode cX11_goRound 139 = .ok (.goto 14, 3) := by decide +kernel
theorem dX11_goRound_142 : decode cX11_goRound 142 = .ok (.aload_n 0, 1) := by decide +kernel
theorem dX11_goRound_143 : decode cX11_goRound 143 = .ok (.invokevirtual 246, 3) := by decide +kernel
theorem dX11_goRound_146 : decode cX11_goRound 146 = .ok (.goto 7, 3) := by decide +kernel
theorem dX11_goRound_149 : decode cX11_goRound 149 = .ok (.aload_n 0, 1) := by decide +kernel
theorem dX11_goRound_150 : decode cX11_goRound 150 = .ok (.invokevirtual 249, 3) := by decide +kernel
theorem dX11_goRound_153 : decode cX11_goRound 153 = .ok (.return_, 1) := by decide +kernel
theorem dX11_isRound_0 : decode cX11_isRound 0 = .ok (.iload_n 0, 1) := by decide +kernel
theorem dX11_isRound_1 : decode cX11_isRound 1 = .ok (.i2l, 1) := by decide +kernel
theorem dX11_isRound_2 : decode cX11_isRound 2 = .ok (.lconst 0, 1) := by decide +kernel
theorem dX11_isRound_3 : decode cX11_isRound 3 = .ok (.ldc2_w 100, 3) := by decide +kernel
theorem dX11_isRound_6 : decode cX11_isRound 6 = .ok (.invokestatic 79, 3) := by decide +kernel
theorem dX11_isRound_9 : decode cX11_isRound 9 = .ok (.ifCond .eq 19, 3) := by decide +kernel
theorem dX11_isRound_12 : decode cX11_isRound 12 = .ok (.iload_n 1, 1) := by decide +kernel
theorem dX11_isRound_13 : decode cX11_isRound 13 = .ok (.i2l, 1) := by decide +kernel
theorem dX11_isRound_14 : decode cX11_isRound 14 = .ok (.lconst 0, 1) := by decide +kernel
theorem dX11_isRound_15 : decode cX11_isRound 15 = .ok (.ldc2_w 252, 3) := by decide +kernel
theorem dX11_isRound_18 : decode cX11_isRound 18 = .ok (.invokestatic 79, 3) := by decide +kernel
theorem dX11_isRound_21 : decode cX11_isRound 21 = .ok (.ifCond .eq 7, 3) := by decide +kernel
theorem dX11_isRound_24 : decode cX11_isRound 24 = .ok (.iconst 1, 1) := by decide +kernel
theorem dX11_isRound_25 : decode cX11_isRound 25 = .ok (.goto 4, 3) := by decide +kernel
theorem dX11_isRound_28 : decode cX11_isRound 28 = .ok (.iconst 0, 1) := by decide +kernel
theorem dX11_isRound_29 : decode cX11_isRound 29 = .ok (.ireturn, 1) := by decide +kernel
theorem dX11_round_0 : decode cX11_round 0 = .ok (.iload_n 1, 1) := by decide +kernel
theorem dX11_round_1 : decode cX11_round 1 = .ok (.iload_n 2, 1) := by decide +kernel
theorem dX11_round_2 : decode cX11_round 2 = .ok (.invokestatic 254, 3) := by decide +kernel
theorem dX11_round_5 : decode cX11_round 5 = .ok (.ifCond .eq 15, 3) := by decide +kernel
theorem dX11_round_8 : decode cX11_round 8 = .ok (.iload_n 3, 1) := by decide +kernel
theorem dX11_round_9 : decode cX11_round 9 = .ok (.i2l, 1) := by decide +kernel
theorem dX11_round_10 : decode cX11_round 10 = .ok (.lconst 0, 1) := by decide +kernel
theorem dX11_round_11 : decode cX11_round 11 = .ok (.ldc2_w 100, 3) := by decide +kernel
theorem dX11_round_14 : decode cX11_round 14 = .ok (.invokestatic 79, 3) := by decide +kernel
theorem dX11_round_17 : decode cX11_round 17 = .ok (.ifCond .ne 7, 3) := by decide +kernel
theorem dX11_round_20 : decode cX11_round 20 = .ok (.sipush (-10000), 3) := by decide +kernel
theorem dX11_round_23 : decode cX11_round 23 = .ok (.ireturn, 1) := by decide +kernel
theorem dX11_round_24 : decode cX11_round 24 = .ok (.aload_n 0, 1) := by decide +kernel
theorem dX11_round_25 : decode cX11_round 25 = .ok (.iload_n 1, 1) := by decide +kernel
theorem dX11_round_26 : decode cX11_round 26 = .ok (.iload_n 2, 1) := by decide +kernel
theorem dX11_round_27 : decode cX11_round 27 = .ok (.iconst 1, 1) := by decide +kernel
theorem dX11_round_28 : decode cX11_round 28 = .ok (.invokevirtual 257, 3) := by decide +kernel
theorem dX11_round_31 : decode cX11_round 31 = .ok (.iload_n 3, 1) := by decide +kernel
theorem dX11_round_32 : decode cX11_round 32 = .ok (.ifCond .ne 10, 3) := by decide +kernel
theorem dX11_round_35 : decode cX11_round 35 = .ok (.aload_n 0, 1) := by decide +kernel
theorem dX11_round_36 : decode cX11_round 36 = .ok (.getfield 209, 3) := by decide +kernel
theorem dX11_round_39 : decode cX11_round 39 = .ok (.goto 36, 3) := by decide +kernel
theorem dX11_round_42 : decode cX11_round 42 = .ok (.iload_n 3, 1) := by decide +kernel
theorem dX11_round_43 : decode cX11_round 43 = .ok (.iconst 1, 1) := by decide +kernel
theorem dX11_round_44 : decode cX11_round 44 = .ok (.if_icmp .ne 10, 3) := by decide +kernel
theorem dX11_round_47 : decode cX11_round 47 = .ok (.aload_n 0, 1) := by decide +kernel
theorem dX11_round_48 : decode cX11_round 48 = .ok (.getfield 206, 3) := by decide +kernel
theorem dX11_round_51 : decode cX11_round 51 = .ok (.goto 24, 3) := by decide +kernel
theorem dX11_round_54 : decode cX11_round 54 = .ok (.iload_n 3, 1) := by decide +kernel
theorem dX11_round_55 : decode cX11_round 55 = .ok (.iconst 2, 1) := by decide +kernel
theorem dX11_round_56 : decode cX11_round 56 = .ok (.if_icmp .ne 10, 3) := by decide +kernel
theorem dX11_round_59 : decode cX11_round 59 = .ok (.aload_n 0, 1) := by decide +kernel
theorem dX11_round_60 : decode cX11_round 60 = .ok (.getfield 218, 3) := by decide +kernel
theorem dX11_round_63 : decode cX11_round 63 = .ok (.goto 12, 3) := by decide +kernel
theorem dX11_round_66 : decode cX11_round 66 = .ok (.aload_n 0, 1) := by decide +kernel
theorem dX11_round_67 : decode cX11_round 67 = .ok (.getfield 215, 3) := by decide +kernel
theorem dX11_round_70 : decode cX11_round 70 = .ok (.aload_n 0, 1) := by decide +kernel
theorem dX11_round_71 : decode cX11_round 71 = .ok (.getfield 212, 3) := by decide +kernel
theorem dX11_round_74 : decode cX11_round 74 = .ok (.isub, 1) := by decide +kernel
theorem dX11_round_75 : decode cX11_round 75 = .ok (.ireturn, 1) := by decide +kernel
theorem dX11_of_0 : decode cX11_of 0 = .ok (.iload_n 1, 1) := by decide +kernel
theorem dX11_of_1 : decode cX11_of 1 = .ok (.iload_n 2, 1) := by decide +kernel
theorem dX11_of_2 : decode cX11_of 2 = .ok (.invokestatic 254, 3) := by decide +kernel
theorem dX11_of_5 : decode cX11_of 5 = .ok (.ifCond .eq 11, 3) := by decide +kernel
theorem dX11_of_8 : decode cX11_of 8 = .ok (.aload_n 0, 1) := by decide +kernel
theorem dX11_of_9 : decode cX11_of 9 = .ok (.iload_n 3, 1) := by decide +kernel
theorem dX11_of_10 : decode cX11_of 10 = .ok (.invokevirtual 127, 3) := by decide +kernel
theorem dX11_of_13 : decode cX11_of 13 = .ok (.ifCond .ne 5, 3) := by decide +kernel
theorem dX11_of_16 : decode cX11_of 16 = .ok (.iconst (-1), 1) := by decide +kernel
theorem dX11_of_17 : decode cX11_of 17 = .ok (.ireturn, 1) := by decide +kernel
theorem dX11_of_18 : decode cX11_of 18 = .ok (.aload_n 0, 1) := by decide +kernel
theorem dX11_of_19 : decode cX11_of 19 = .ok (.iload_n 1, 1) := by decide +kernel
theorem dX11_of_20 : decode cX11_of 20 = .ok (.iload_n 2, 1) := by decide +kernel
theorem dX11_of_21 : decode cX11_of 21 = .ok (.iconst 1, 1) := by decide +kernel
theorem dX11_of_22 : decode cX11_of 22 = .ok (.invokevirtual 257, 3) := by decide +kernel
theorem dX11_of_25 : decode cX11_of 25 = .ok (.aload_n 0, 1) := by decide +kernel
theorem dX11_of_26 : decode cX11_of 26 = .ok (.getfield 58, 3) := by decide +kernel
theorem dX11_of_29 : decode cX11_of 29 = .ok (.iload_n 3, 1) := by decide +kernel
theorem dX11_of_30 : decode cX11_of 30 = .ok (.iaload, 1) := by decide +kernel
theorem dX11_of_31 : decode cX11_of 31 = .ok (.ireturn, 1) := by decide +kernel
theorem dX11_layMeans_0 : decode cX11_layMeans 0 = .ok (.iconst 0, 1) := by decide +kernel
theorem dX11_layMeans_1 : decode cX11_layMeans 1 = .ok (.istore_n 3, 1) := by decide +kernel
theorem dX11_layMeans_2 : decode cX11_layMeans 2 = .ok (.iload_n 3, 1) := by decide +kernel
theorem dX11_layMeans_3 : decode cX11_layMeans 3 = .ok (.iconst 3, 1) := by decide +kernel
theorem dX11_layMeans_4 : decode cX11_layMeans 4 = .ok (.if_icmp .ge 20, 3) := by decide +kernel
theorem dX11_layMeans_7 : decode cX11_layMeans 7 = .ok (.aload_n 0, 1) := by decide +kernel
theorem dX11_layMeans_8 : decode cX11_layMeans 8 = .ok (.getfield 64, 3) := by decide +kernel
theorem dX11_layMeans_11 : decode cX11_layMeans 11 = .ok (.iconst 3, 1) := by decide +kernel
theorem dX11_layMeans_12 : decode cX11_layMeans 12 = .ok (.iload_n 1, 1) := by decide +kernel
theorem dX11_layMeans_13 : decode cX11_layMeans 13 = .ok (.imul, 1) := by decide +kernel
theorem dX11_layMeans_14 : decode cX11_layMeans 14 = .ok (.iload_n 3, 1) := by decide +kernel
theorem dX11_layMeans_15 : decode cX11_layMeans 15 = .ok (.iadd, 1) := by decide +kernel
theorem dX11_layMeans_16 : decode cX11_layMeans 16 = .ok (.iconst 0, 1) := by decide +kernel
theorem dX11_layMeans_17 : decode cX11_layMeans 17 = .ok (.iastore, 1) := by decide +kernel
theorem dX11_layMeans_18 : decode cX11_layMeans 18 = .ok (.iinc 3 1, 3) := by decide +kernel
theorem dX11_layMeans_21 : decode cX11_layMeans 21 = .ok (.goto (-19), 3) := by decide +kernel
theorem dX11_layMeans_24 : decode cX11_layMeans 24 = .ok (.iconst 0, 1) := by decide +kernel
theorem dX11_layMeans_25 : decode cX11_layMeans 25 = .ok (.istore_n 3, 1) := by decide +kernel
theorem dX11_layMeans_26 : decode cX11_layMeans 26 = .ok (.iload_n 3, 1) := by decide +kernel
theorem dX11_layMeans_27 : decode cX11_layMeans 27 = .ok (.bipush 10, 2) := by decide +kernel
theorem dX11_layMeans_29 : decode cX11_layMeans 29 = .ok (.if_icmp .ge 76, 3) := by decide +kernel
theorem dX11_layMeans_32 : decode cX11_layMeans 32 = .ok (.aload_n 0, 1) := by decide +kernel
theorem dX11_layMeans_33 : decode cX11_layMeans 33 = .ok (.iload_n 1, 1) := by decide +kernel
theorem dX11_layMeans_34 : decode cX11_layMeans 34 = .ok (.iload_n 2, 1) := by decide +kernel
theorem dX11_layMeans_35 : decode cX11_layMeans 35 = .ok (.iload_n 3, 1) := by decide +kernel
theorem dX11_layMeans_36 : decode cX11_layMeans 36 = .ok (.iadd, 1) := by decide +kernel
theorem dX11_layMeans_37 : decode cX11_layMeans 37 = .ok (.sipush 10000, 3) := by decide +kernel
theorem dX11_layMeans_40 : decode cX11_layMeans 40 = .ok (.irem, 1) := by decide +kernel
theorem dX11_layMeans_41 : decode cX11_layMeans 41 = .ok (.iconst 0, 1) := by decide +kernel
theorem dX11_layMeans_42 : decode cX11_layMeans 42 = .ok (.invokevirtual 257, 3) := by decide +kernel
theorem dX11_layMeans_45 : decode cX11_layMeans 45 = .ok (.aload_n 0, 1) := by decide +kernel
theorem dX11_layMeans_46 : decode cX11_layMeans 46 = .ok (.getfield 64, 3) := by decide +kernel
theorem dX11_layMeans_49 : decode cX11_layMeans 49 = .ok (.iconst 3, 1) := by decide +kernel
theorem dX11_layMeans_50 : decode cX11_layMeans 50 = .ok (.iload_n 1, 1) := by decide +kernel
theorem dX11_layMeans_51 : decode cX11_layMeans 51 = .ok (.imul, 1) := by decide +kernel
theorem dX11_layMeans_52 : decode cX11_layMeans 52 = .ok (.dup2, 1) := by decide +kernel
theorem dX11_layMeans_53 : decode cX11_layMeans 53 = .ok (.iaload, 1) := by decide +kernel
theorem dX11_layMeans_54 : decode cX11_layMeans 54 = .ok (.aload_n 0, 1) := by decide +kernel
theorem dX11_layMeans_55 : decode cX11_layMeans 55 = .ok (.getfield 206, 3) := by decide +kernel
theorem dX11_layMeans_58 : decode cX11_layMeans 58 = .ok (.iadd, 1) := by decide +kernel
theorem dX11_layMeans_59 : decode cX11_layMeans 59 = .ok (.iastore, 1) := by decide +kernel
theorem dX11_layMeans_60 : decode cX11_layMeans 60 = .ok (.aload_n 0, 1) := by decide +kernel
theorem dX11_layMeans_61 : decode cX11_layMeans 61 = .ok (.getfield 64, 3) := by decide +kernel
theorem dX11_layMeans_64 : decode cX11_layMeans 64 = .ok (.iconst 3, 1) := by decide +kernel
theorem dX11_layMeans_65 : decode cX11_layMeans 65 = .ok (.iload_n 1, 1) := by decide +kernel
theorem dX11_layMeans_66 : decode cX11_layMeans 66 = .ok (.imul, 1) := by decide +kernel
theorem dX11_layMeans_67 : decode cX11_layMeans 67 = .ok (.iconst 1, 1) := by decide +kernel
theorem dX11_layMeans_68 : decode cX11_layMeans 68 = .ok (.iadd, 1) := by decide +kernel
theorem dX11_layMeans_69 : decode cX11_layMeans 69 = .ok (.dup2, 1) := by decide +kernel
theorem dX11_layMeans_70 : decode cX11_layMeans 70 = .ok (.iaload, 1) := by decide +kernel
theorem dX11_layMeans_71 : decode cX11_layMeans 71 = .ok (.aload_n 0, 1) := by decide +kernel
theorem dX11_layMeans_72 : decode cX11_layMeans 72 = .ok (.getfield 218, 3) := by decide +kernel
theorem dX11_layMeans_75 : decode cX11_layMeans 75 = .ok (.iadd, 1) := by decide +kernel
theorem dX11_layMeans_76 : decode cX11_layMeans 76 = .ok (.iastore, 1) := by decide +kernel
theorem dX11_layMeans_77 : decode cX11_layMeans 77 = .ok (.aload_n 0, 1) := by decide +kernel
theorem dX11_layMeans_78 : decode cX11_layMeans 78 = .ok (.getfield 64, 3) := by decide +kernel
theorem dX11_layMeans_81 : decode cX11_layMeans 81 = .ok (.iconst 3, 1) := by decide +kernel
theorem dX11_layMeans_82 : decode cX11_layMeans 82 = .ok (.iload_n 1, 1) := by decide +kernel
theorem dX11_layMeans_83 : decode cX11_layMeans 83 = .ok (.imul, 1) := by decide +kernel
theorem dX11_layMeans_84 : decode cX11_layMeans 84 = .ok (.iconst 2, 1) := by decide +kernel
theorem dX11_layMeans_85 : decode cX11_layMeans 85 = .ok (.iadd, 1) := by decide +kernel
theorem dX11_layMeans_86 : decode cX11_layMeans 86 = .ok (.dup2, 1) := by decide +kernel
theorem dX11_layMeans_87 : decode cX11_layMeans 87 = .ok (.iaload, 1) := by decide +kernel
theorem dX11_layMeans_88 : decode cX11_layMeans 88 = .ok (.aload_n 0, 1) := by decide +kernel
theorem dX11_layMeans_89 : decode cX11_layMeans 89 = .ok (.getfield 215, 3) := by decide +kernel
theorem dX11_layMeans_92 : decode cX11_layMeans 92 = .ok (.aload_n 0, 1) := by decide +kernel
theorem dX11_layMeans_93 : decode cX11_layMeans 93 = .ok (.getfield 212, 3) := by decide +kernel
theorem dX11_layMeans_96 : decode cX11_layMeans 96 = .ok (.isub, 1) := by decide +kernel
theorem dX11_layMeans_97 : decode cX11_layMeans 97 = .ok (.iadd, 1) := by decide +kernel
theorem dX11_layMeans_98 : decode cX11_layMeans 98 = .ok (.iastore, 1) := by decide +kernel
theorem dX11_layMeans_99 : decode cX11_layMeans 99 = .ok (.iinc 3 1, 3) := by decide +kernel
theorem dX11_layMeans_102 : decode cX11_layMeans 102 = .ok (.goto (-76), 3) := by decide +kernel
theorem dX11_layMeans_105 : decode cX11_layMeans 105 = .ok (.return_, 1) := by decide +kernel
theorem dX11_means_0 : decode cX11_means 0 = .ok (.iload_n 1, 1) := by decide +kernel
theorem dX11_means_1 : decode cX11_means 1 = .ok (.iload_n 2, 1) := by decide +kernel
theorem dX11_means_2 : decode cX11_means 2 = .ok (.invokestatic 254, 3) := by decide +kernel
theorem dX11_means_5 : decode cX11_means 5 = .ok (.ifCond .eq 15, 3) := by decide +kernel
theorem dX11_means_8 : decode cX11_means 8 = .ok (.iload_n 3, 1) := by decide +kernel
theorem dX11_means_9 : decode cX11_means 9 = .ok (.i2l, 1) := by decide +kernel
theorem dX11_means_10 : decode cX11_means 10 = .ok (.lconst 0, 1) := by decide +kernel
theorem dX11_means_11 : decode cX11_means 11 = .ok (.ldc2_w 130, 3) := by decide +kernel
theorem dX11_means_14 : decode cX11_means 14 = .ok (.invokestatic 79, 3) := by decide +kernel
theorem dX11_means_17 : decode cX11_means 17 = .ok (.ifCond .ne 7, 3) := by decide +kernel
theorem dX11_means_20 : decode cX11_means 20 = .ok (.sipush (-10000), 3) := by decide +kernel
theorem dX11_means_23 : decode cX11_means 23 = .ok (.ireturn, 1) := by decide +kernel
theorem dX11_means_24 : decode cX11_means 24 = .ok (.aload_n 0, 1) := by decide +kernel
theorem dX11_means_25 : decode cX11_means 25 = .ok (.iload_n 1, 1) := by decide +kernel
theorem dX11_means_26 : decode cX11_means 26 = .ok (.iload_n 2, 1) := by decide +kernel
theorem dX11_means_27 : decode cX11_means 27 = .ok (.invokevirtual 261, 3) := by decide +kernel
theorem dX11_means_30 : decode cX11_means 30 = .ok (.aload_n 0, 1) := by decide +kernel
theorem dX11_means_31 : decode cX11_means 31 = .ok (.getfield 64, 3) := by decide +kernel
theorem dX11_means_34 : decode cX11_means 34 = .ok (.iconst 3, 1) := by decide +kernel
theorem dX11_means_35 : decode cX11_means 35 = .ok (.iload_n 1, 1) := by decide +kernel
theorem dX11_means_36 : decode cX11_means 36 = .ok (.imul, 1) := by decide +kernel
theorem dX11_means_37 : decode cX11_means 37 = .ok (.iload_n 3, 1) := by decide +kernel
theorem dX11_means_38 : decode cX11_means 38 = .ok (.iadd, 1) := by decide +kernel
theorem dX11_means_39 : decode cX11_means 39 = .ok (.iaload, 1) := by decide +kernel
theorem dX11_means_40 : decode cX11_means 40 = .ok (.ireturn, 1) := by decide +kernel
theorem dX11_bestBy_0 : decode cX11_bestBy 0 = .ok (.iconst 0, 1) := by decide +kernel
theorem dX11_bestBy_1 : decode cX11_bestBy 1 = .ok (.istore_n 2, 1) := by decide +kernel
theorem dX11_bestBy_2 : decode cX11_bestBy 2 = .ok (.iconst 1, 1) := by decide +kernel
theorem dX11_bestBy_3 : decode cX11_bestBy 3 = .ok (.istore_n 3, 1) := by decide +kernel
theorem dX11_bestBy_4 : decode cX11_bestBy 4 = .ok (.iload_n 3, 1) := by decide +kernel
theorem dX11_bestBy_5 : decode cX11_bestBy 5 = .ok (.iconst 4, 1) := by decide +kernel
theorem dX11_bestBy_6 : decode cX11_bestBy 6 = .ok (.if_icmp .ge 56, 3) := by decide +kernel
theorem dX11_bestBy_9 : decode cX11_bestBy 9 = .ok (.aload_n 0, 1) := by decide +kernel
theorem dX11_bestBy_10 : decode cX11_bestBy 10 = .ok (.getfield 64, 3) := by decide +kernel
theorem dX11_bestBy_13 : decode cX11_bestBy 13 = .ok (.iconst 3, 1) := by decide +kernel
theorem dX11_bestBy_14 : decode cX11_bestBy 14 = .ok (.iload_n 3, 1) := by decide +kernel
theorem dX11_bestBy_15 : decode cX11_bestBy 15 = .ok (.imul, 1) := by decide +kernel
theorem dX11_bestBy_16 : decode cX11_bestBy 16 = .ok (.iload_n 1, 1) := by decide +kernel
theorem dX11_bestBy_17 : decode cX11_bestBy 17 = .ok (.iadd, 1) := by decide +kernel
theorem dX11_bestBy_18 : decode cX11_bestBy 18 = .ok (.iaload, 1) := by decide +kernel
theorem dX11_bestBy_19 : decode cX11_bestBy 19 = .ok (.aload_n 0, 1) := by decide +kernel
theorem dX11_bestBy_20 : decode cX11_bestBy 20 = .ok (.getfield 64, 3) := by decide +kernel
theorem dX11_bestBy_23 : decode cX11_bestBy 23 = .ok (.iconst 3, 1) := by decide +kernel
theorem dX11_bestBy_24 : decode cX11_bestBy 24 = .ok (.iload_n 2, 1) := by decide +kernel
theorem dX11_bestBy_25 : decode cX11_bestBy 25 = .ok (.imul, 1) := by decide +kernel
theorem dX11_bestBy_26 : decode cX11_bestBy 26 = .ok (.iload_n 1, 1) := by decide +kernel
theorem dX11_bestBy_27 : decode cX11_bestBy 27 = .ok (.iadd, 1) := by decide +kernel
theorem dX11_bestBy_28 : decode cX11_bestBy 28 = .ok (.iaload, 1) := by decide +kernel
theorem dX11_bestBy_29 : decode cX11_bestBy 29 = .ok (.isub, 1) := by decide +kernel
theorem dX11_bestBy_30 : decode cX11_bestBy 30 = .ok (.istore 4, 2) := by decide +kernel
theorem dX11_bestBy_32 : decode cX11_bestBy 32 = .ok (.iload_n 1, 1) := by decide +kernel
theorem dX11_bestBy_33 : decode cX11_bestBy 33 = .ok (.ifCond .ne 8, 3) := by decide +kernel
theorem dX11_bestBy_36 : decode cX11_bestBy 36 = .ok (.iload 4, 2) := by decide +kernel
theorem dX11_bestBy_38 : decode cX11_bestBy 38 = .ok (.ifCond .gt 12, 3) := by decide +kernel
theorem dX11_bestBy_41 : decode cX11_bestBy 41 = .ok (.iload_n 1, 1) := by decide +kernel
theorem dX11_bestBy_42 : decode cX11_bestBy 42 = .ok (.ifCond .le 12, 3) := by decide +kernel
theorem dX11_bestBy_45 : decode cX11_bestBy 45 = .ok (.iload 4, 2) := by decide +kernel
theorem dX11_bestBy_47 : decode cX11_bestBy 47 = .ok (.ifCond .ge 7, 3) := by decide +kernel
theorem dX11_bestBy_50 : decode cX11_bestBy 50 = .ok (.iload_n 3, 1) := by decide +kernel
theorem dX11_bestBy_51 : decode cX11_bestBy 51 = .ok (.goto 4, 3) := by decide +kernel
theorem dX11_bestBy_54 : decode cX11_bestBy 54 = .ok (.iload_n 2, 1) := by decide +kernel
theorem dX11_bestBy_55 : decode cX11_bestBy 55 = .ok (.istore_n 2, 1) := by decide +kernel
theorem dX11_bestBy_56 : decode cX11_bestBy 56 = .ok (.iinc 3 1, 3) := by decide +kernel
theorem dX11_bestBy_59 : decode cX11_bestBy 59 = .ok (.goto (-55), 3) := by decide +kernel
theorem dX11_bestBy_62 : decode cX11_bestBy 62 = .ok (.iload_n 2, 1) := by decide +kernel
theorem dX11_bestBy_63 : decode cX11_bestBy 63 = .ok (.ireturn, 1) := by decide +kernel
theorem dX11_rules_0 : decode cX11_rules 0 = .ok (.iload_n 1, 1) := by decide +kernel
theorem dX11_rules_1 : decode cX11_rules 1 = .ok (.i2l, 1) := by decide +kernel
theorem dX11_rules_2 : decode cX11_rules 2 = .ok (.lconst 0, 1) := by decide +kernel
theorem dX11_rules_3 : decode cX11_rules 3 = .ok (.ldc2_w 252, 3) := by decide +kernel
theorem dX11_rules_6 : decode cX11_rules 6 = .ok (.invokestatic 79, 3) := by decide +kernel
theorem dX11_rules_9 : decode cX11_rules 9 = .ok (.ifCond .eq 15, 3) := by decide +kernel
theorem dX11_rules_12 : decode cX11_rules 12 = .ok (.iload_n 2, 1) := by decide +kernel
theorem dX11_rules_13 : decode cX11_rules 13 = .ok (.i2l, 1) := by decide +kernel
theorem dX11_rules_14 : decode cX11_rules 14 = .ok (.lconst 0, 1) := by decide +kernel
theorem dX11_rules_15 : decode cX11_rules 15 = .ok (.ldc2_w 100, 3) := by decide +kernel
theorem dX11_rules_18 : decode cX11_rules 18 = .ok (.invokestatic 79, 3) := by decide +kernel
theorem dX11_rules_21 : decode cX11_rules 21 = .ok (.ifCond .ne 5, 3) := by decide +kernel
theorem dX11_rules_24 : decode cX11_rules 24 = .ok (.iconst (-1), 1) := by decide +kernel
theorem dX11_rules_25 : decode cX11_rules 25 = .ok (.ireturn, 1) := by decide +kernel
theorem dX11_rules_26 : decode cX11_rules 26 = .ok (.iconst 0, 1) := by decide +kernel
theorem dX11_rules_27 : decode cX11_rules 27 = .ok (.istore_n 3, 1) := by decide +kernel
theorem dX11_rules_28 : decode cX11_rules 28 = .ok (.iload_n 3, 1) := by decide +kernel
theorem dX11_rules_29 : decode cX11_rules 29 = .ok (.iconst 4, 1) := by decide +kernel
theorem dX11_rules_30 : decode cX11_rules 30 = .ok (.if_icmp .ge 15, 3) := by decide +kernel
theorem dX11_rules_33 : decode cX11_rules 33 = .ok (.aload_n 0, 1) := by decide +kernel
theorem dX11_rules_34 : decode cX11_rules 34 = .ok (.iload_n 3, 1) := by decide +kernel
theorem dX11_rules_35 : decode cX11_rules 35 = .ok (.iload_n 1, 1) := by decide +kernel
theorem dX11_rules_36 : decode cX11_rules 36 = .ok (.invokevirtual 261, 3) := by decide +kernel
theorem dX11_rules_39 : decode cX11_rules 39 = .ok (.iinc 3 1, 3) := by decide +kernel
theorem dX11_rules_42 : decode cX11_rules 42 = .ok (.goto (-14), 3) := by decide +kernel
theorem dX11_rules_45 : decode cX11_rules 45 = .ok (.iload_n 2, 1) := by decide +kernel
theorem dX11_rules_46 : decode cX11_rules 46 = .ok (.iconst 3, 1) := by decide +kernel
theorem dX11_rules_47 : decode cX11_rules 47 = .ok (.if_icmp .ge 9, 3) := by decide +kernel
theorem dX11_rules_50 : decode cX11_rules 50 = .ok (.aload_n 0, 1) := by decide +kernel
theorem dX11_rules_51 : decode cX11_rules 51 = .ok (.iload_n 2, 1) := by decide +kernel
theorem dX11_rules_52 : decode cX11_rules 52 = .ok (.invokevirtual 265, 3) := by decide +kernel
theorem dX11_rules_55 : decode cX11_rules 55 = .ok (.ireturn, 1) := by decide +kernel
theorem dX11_rules_56 : decode cX11_rules 56 = .ok (.aload_n 0, 1) := by decide +kernel
theorem dX11_rules_57 : decode cX11_rules 57 = .ok (.iconst 0, 1) := by decide +kernel
theorem dX11_rules_58 : decode cX11_rules 58 = .ok (.invokevirtual 265, 3) := by decide +kernel
theorem dX11_rules_61 : decode cX11_rules 61 = .ok (.aload_n 0, 1) := by decide +kernel
theorem dX11_rules_62 : decode cX11_rules 62 = .ok (.iconst 1, 1) := by decide +kernel
theorem dX11_rules_63 : decode cX11_rules 63 = .ok (.invokevirtual 265, 3) := by decide +kernel
theorem dX11_rules_66 : decode cX11_rules 66 = .ok (.if_icmp .ne 24, 3) := by decide +kernel
theorem dX11_rules_69 : decode cX11_rules 69 = .ok (.aload_n 0, 1) := by decide +kernel
theorem dX11_rules_70 : decode cX11_rules 70 = .ok (.iconst 1, 1) := by decide +kernel
theorem dX11_rules_71 : decode cX11_rules 71 = .ok (.invokevirtual 265, 3) := by decide +kernel
theorem dX11_rules_74 : decode cX11_rules 74 = .ok (.aload_n 0, 1) := by decide +kernel
theorem dX11_rules_75 : decode cX11_rules 75 = .ok (.iconst 2, 1) := by decide +kernel
theorem dX11_rules_76 : decode cX11_rules 76 = .ok (.invokevirtual 265, 3) := by decide +kernel
theorem dX11_rules_79 : decode cX11_rules 79 = .ok (.if_icmp .ne 11, 3) := by decide +kernel
theorem dX11_rules_82 : decode cX11_rules 82 = .ok (.aload_n 0, 1) := by decide +kernel
theorem dX11_rules_83 : decode cX11_rules 83 = .ok (.iconst 0, 1) := by decide +kernel
theorem dX11_rules_84 : decode cX11_rules 84 = .ok (.invokevirtual 265, 3) := by decide +kernel
theorem dX11_rules_87 : decode cX11_rules 87 = .ok (.goto 5, 3) := by decide +kernel
theorem dX11_rules_90 : decode cX11_rules 90 = .ok (.bipush (-4), 2) := by decide +kernel
theorem dX11_rules_92 : decode cX11_rules 92 = .ok (.ireturn, 1) := by decide +kernel
theorem dX11_shout_0 : decode cX11_shout 0 = .ok (.iload_n 1, 1) := by decide +kernel
theorem dX11_shout_1 : decode cX11_shout 1 = .ok (.i2l, 1) := by decide +kernel
theorem dX11_shout_2 : decode cX11_shout 2 = .ok (.lconst 0, 1) := by decide +kernel
theorem dX11_shout_3 : decode cX11_shout 3 = .ok (.aload_n 0, 1) := by decide +kernel
theorem dX11_shout_4 : decode cX11_shout 4 = .ok (.getfield 28, 3) := by decide +kernel
theorem dX11_shout_7 : decode cX11_shout 7 = .ok (.iconst 0, 1) := by decide +kernel
theorem dX11_shout_8 : decode cX11_shout 8 = .ok (.iaload, 1) := by decide +kernel
theorem dX11_shout_9 : decode cX11_shout 9 = .ok (.iconst 1, 1) := by decide +kernel
theorem dX11_shout_10 : decode cX11_shout 10 = .ok (.isub, 1) := by decide +kernel
theorem dX11_shout_11 : decode cX11_shout 11 = .ok (.i2l, 1) := by decide +kernel
theorem dX11_shout_12 : decode cX11_shout 12 = .ok (.invokestatic 79, 3) := by decide +kernel
theorem dX11_shout_15 : decode cX11_shout 15 = .ok (.ifCond .eq 15, 3) := by decide +kernel
theorem dX11_shout_18 : decode cX11_shout 18 = .ok (.iload_n 2, 1) := by decide +kernel
theorem dX11_shout_19 : decode cX11_shout 19 = .ok (.i2l, 1) := by decide +kernel
theorem dX11_shout_20 : decode cX11_shout 20 = .ok (.lconst 0, 1) := by decide +kernel
theorem dX11_shout_21 : decode cX11_shout 21 = .ok (.ldc2_w 100, 3) := by decide +kernel
theorem dX11_shout_24 : decode cX11_shout 24 = .ok (.invokestatic 79, 3) := by decide +kernel
theorem dX11_shout_27 : decode cX11_shout 27 = .ok (.ifCond .ne 5, 3) := by decide +kernel
theorem dX11_shout_30 : decode cX11_shout 30 = .ok (.iconst (-1), 1) := by decide +kernel
theorem dX11_shout_31 : decode cX11_shout 31 = .ok (.ireturn, 1) := by decide +kernel
theorem dX11_shout_32 : decode cX11_shout 32 = .ok (.iload_n 2, 1) := by decide +kernel
theorem dX11_shout_33 : decode cX11_shout 33 = .ok (.ifCond .ne 12, 3) := by decide +kernel
theorem dX11_shout_36 : decode cX11_shout 36 = .ok (.aload_n 0, 1) := by decide +kernel
theorem dX11_shout_37 : decode cX11_shout 37 = .ok (.getfield 31, 3) := by decide +kernel
theorem dX11_shout_40 : decode cX11_shout 40 = .ok (.iload_n 1, 1) := by decide +kernel
theorem dX11_shout_41 : decode cX11_shout 41 = .ok (.iaload, 1) := by decide +kernel
theorem dX11_shout_42 : decode cX11_shout 42 = .ok (.goto 37, 3) := by decide +kernel
theorem dX11_shout_45 : decode cX11_shout 45 = .ok (.iload_n 2, 1) := by decide +kernel
theorem dX11_shout_46 : decode cX11_shout 46 = .ok (.iconst 1, 1) := by decide +kernel
theorem dX11_shout_47 : decode cX11_shout 47 = .ok (.if_icmp .ne 12, 3) := by decide +kernel
theorem dX11_shout_50 : decode cX11_shout 50 = .ok (.aload_n 0, 1) := by decide +kernel
theorem dX11_shout_51 : decode cX11_shout 51 = .ok (.getfield 34, 3) := by decide +kernel
theorem dX11_shout_54 : decode cX11_shout 54 = .ok (.iload_n 1, 1) := by decide +kernel
theorem dX11_shout_55 : decode cX11_shout 55 = .ok (.iaload, 1) := by decide +kernel
theorem dX11_shout_56 : decode cX11_shout 56 = .ok (.goto 23, 3) := by decide +kernel
theorem dX11_shout_59 : decode cX11_shout 59 = .ok (.iload_n 2, 1) := by decide +kernel
theorem dX11_shout_60 : decode cX11_shout 60 = .ok (.iconst 2, 1) := by decide +kernel
theorem dX11_shout_61 : decode cX11_shout 61 = .ok (.if_icmp .ne 12, 3) := by decide +kernel
theorem dX11_shout_64 : decode cX11_shout 64 = .ok (.aload_n 0, 1) := by decide +kernel
theorem dX11_shout_65 : decode cX11_shout 65 = .ok (.getfield 37, 3) := by decide +kernel
theorem dX11_shout_68 : decode cX11_shout 68 = .ok (.iload_n 1, 1) := by decide +kernel
theorem dX11_shout_69 : decode cX11_shout 69 = .ok (.iaload, 1) := by decide +kernel
theorem dX11_shout_70 : decode cX11_shout 70 = .ok (.goto 9, 3) := by decide +kernel
theorem dX11_shout_73 : decode cX11_shout 73 = .ok (.aload_n 0, 1) := by decide +kernel
theorem dX11_shout_74 : decode cX11_shout 74 = .ok (.getfield 40, 3) := by decide +kernel
theorem dX11_shout_77 : decode cX11_shout 77 = .ok (.iload_n 1, 1) := by decide +kernel
theorem dX11_shout_78 : decode cX11_shout 78 = .ok (.iaload, 1) := by decide +kernel
theorem dX11_shout_79 : decode cX11_shout 79 = .ok (.ireturn, 1) := by decide +kernel
theorem dX11_knownOf_0 : decode cX11_knownOf 0 = .ok (.aload_n 0, 1) := by decide +kernel
theorem dX11_knownOf_1 : decode cX11_knownOf 1 = .ok (.getfield 16, 3) := by decide +kernel
theorem dX11_knownOf_4 : decode cX11_knownOf 4 = .ok (.iload_n 1, 1) := by decide +kernel
theorem dX11_knownOf_5 : decode cX11_knownOf 5 = .ok (.iaload, 1) := by decide +kernel
theorem dX11_knownOf_6 : decode cX11_knownOf 6 = .ok (.ifCond .ne 7, 3) := by decide +kernel
theorem dX11_knownOf_9 : decode cX11_knownOf 9 = .ok (.iconst 0, 1) := by decide +kernel
theorem dX11_knownOf_10 : decode cX11_knownOf 10 = .ok (.goto 5, 3) := by decide +kernel
theorem dX11_knownOf_13 : decode cX11_knownOf 13 = .ok (.bipush 99, 2) := by decide +kernel
theorem dX11_knownOf_15 : decode cX11_knownOf 15 = .ok (.istore_n 2, 1) := by decide +kernel
theorem dX11_knownOf_16 : decode cX11_knownOf 16 = .ok (.iconst 0, 1) := by decide +kernel
theorem dX11_knownOf_17 : decode cX11_knownOf 17 = .ok (.istore_n 3, 1) := by decide +kernel
theorem dX11_knownOf_18 : decode cX11_knownOf 18 = .ok (.iload_n 3, 1) := by decide +kernel
theorem dX11_knownOf_19 : decode cX11_knownOf 19 = .ok (.aload_n 0, 1) := by decide +kernel
theorem dX11_knownOf_20 : decode cX11_knownOf 20 = .ok (.getfield 28, 3) := by decide +kernel
theorem dX11_knownOf_23 : decode cX11_knownOf 23 = .ok (.iconst 0, 1) := by decide +kernel
theorem dX11_knownOf_24 : decode cX11_knownOf 24 = .ok (.iaload, 1) := by decide +kernel
theorem dX11_knownOf_25 : decode cX11_knownOf 25 = .ok (.if_icmp .ge 79, 3) := by decide +kernel
theorem dX11_knownOf_28 : decode cX11_knownOf 28 = .ok (.aload_n 0, 1) := by decide +kernel
theorem dX11_knownOf_29 : decode cX11_knownOf 29 = .ok (.getfield 16, 3) := by decide +kernel
theorem dX11_knownOf_32 : decode cX11_knownOf 32 = .ok (.iload_n 1, 1) := by decide +kernel
theorem dX11_knownOf_33 : decode cX11_knownOf 33 = .ok (.iaload, 1) := by decide +kernel
theorem dX11_knownOf_34 : decode cX11_knownOf 34 = .ok (.ifCond .ne 21, 3) := by decide +kernel
theorem dX11_knownOf_37 : decode cX11_knownOf 37 = .ok (.aload_n 0, 1) := by decide +kernel
theorem dX11_knownOf_38 : decode cX11_knownOf 38 = .ok (.getfield 34, 3) := by decide +kernel
theorem dX11_knownOf_41 : decode cX11_knownOf 41 = .ok (.iload_n 3, 1) := by decide +kernel
theorem dX11_knownOf_42 : decode cX11_knownOf 42 = .ok (.iaload, 1) := by decide +kernel
theorem dX11_knownOf_43 : decode cX11_knownOf 43 = .ok (.iload_n 2, 1) := by decide +kernel
theorem dX11_knownOf_44 : decode cX11_knownOf 44 = .ok (.if_icmp .le 7, 3) := by decide +kernel
theorem dX11_knownOf_47 : decode cX11_knownOf 47 = .ok (.iconst 1, 1) := by decide +kernel
theorem dX11_knownOf_48 : decode cX11_knownOf 48 = .ok (.goto 22, 3) := by decide +kernel
theorem dX11_knownOf_51 : decode cX11_knownOf 51 = .ok (.iconst 0, 1) := by decide +kernel
theorem dX11_knownOf_52 : decode cX11_knownOf 52 = .ok (.goto 18, 3) := by decide +kernel
theorem dX11_knownOf_55 : decode cX11_knownOf 55 = .ok (.aload_n 0, 1) := by decide +kernel
theorem dX11_knownOf_56 : decode cX11_knownOf 56 = .ok (.getfield 34, 3) := by decide +kernel
theorem dX11_knownOf_59 : decode cX11_knownOf 59 = .ok (.iload_n 3, 1) := by decide +kernel
theorem dX11_knownOf_60 : decode cX11_knownOf 60 = .ok (.iaload, 1) := by decide +kernel
theorem dX11_knownOf_61 : decode cX11_knownOf 61 = .ok (.iload_n 2, 1) := by decide +kernel
theorem dX11_knownOf_62 : decode cX11_knownOf 62 = .ok (.if_icmp .ge 7, 3) := by decide +kernel
theorem dX11_knownOf_65 : decode cX11_knownOf 65 = .ok (.iconst 1, 1) := by decide +kernel
theorem dX11_knownOf_66 : decode cX11_knownOf 66 = .ok (.goto 4, 3) := by decide +kernel
theorem dX11_knownOf_69 : decode cX11_knownOf 69 = .ok (.iconst 0, 1) := by decide +kernel
theorem dX11_knownOf_70 : decode cX11_knownOf 70 = .ok (.istore 4, 2) := by decide +kernel
theorem dX11_knownOf_72 : decode cX11_knownOf 72 = .ok (.aload_n 0, 1) := by decide +kernel
theorem dX11_knownOf_73 : decode cX11_knownOf 73 = .ok (.getfield 31, 3) := by decide +kernel
theorem dX11_knownOf_76 : decode cX11_knownOf 76 = .ok (.iload_n 3, 1) := by decide +kernel
theorem dX11_knownOf_77 : decode cX11_knownOf 77 = .ok (.iaload, 1) := by decide +kernel
theorem dX11_knownOf_78 : decode cX11_knownOf 78 = .ok (.iload_n 1, 1) := by decide +kernel
theorem dX11_knownOf_79 : decode cX11_knownOf 79 = .ok (.if_icmp .ne 17, 3) := by decide +kernel
theorem dX11_knownOf_82 : decode cX11_knownOf 82 = .ok (.iload 4, 2) := by decide +kernel
theorem dX11_knownOf_84 : decode cX11_knownOf 84 = .ok (.ifCond .eq 12, 3) := by decide +kernel
theorem dX11_knownOf_87 : decode cX11_knownOf 87 = .ok (.aload_n 0, 1) := by decide +kernel
theorem dX11_knownOf_88 : decode cX11_knownOf 88 = .ok (.getfield 34, 3) := by decide +kernel
theorem dX11_knownOf_91 : decode cX11_knownOf 91 = .ok (.iload_n 3, 1) := by decide +kernel
theorem dX11_knownOf_92 : decode cX11_knownOf 92 = .ok (.iaload, 1) := by decide +kernel
theorem dX11_knownOf_93 : decode cX11_knownOf 93 = .ok (.goto 4, 3) := by decide +kernel
theorem dX11_knownOf_96 : decode cX11_knownOf 96 = .ok (.iload_n 2, 1) := by decide +kernel
theorem dX11_knownOf_97 : decode cX11_knownOf 97 = .ok (.istore_n 2, 1) := by decide +kernel
theorem dX11_knownOf_98 : decode cX11_knownOf 98 = .ok (.iinc 3 1, 3) := by decide +kernel
theorem dX11_knownOf_101 : decode cX11_knownOf 101 = .ok (.goto (-83), 3) := by decide +kernel
theorem dX11_knownOf_104 : decode cX11_knownOf 104 = .ok (.iload_n 2, 1) := by decide +kernel
theorem dX11_knownOf_105 : decode cX11_knownOf 105 = .ok (.ireturn, 1) := by decide +kernel
theorem dX11_known_0 : decode cX11_known 0 = .ok (.aload_n 0, 1) := by decide +kernel
theorem dX11_known_1 : decode cX11_known 1 = .ok (.iload_n 1, 1) := by decide +kernel
theorem dX11_known_2 : decode cX11_known 2 = .ok (.invokevirtual 127, 3) := by decide +kernel
theorem dX11_known_5 : decode cX11_known 5 = .ok (.ifCond .eq 11, 3) := by decide +kernel
theorem dX11_known_8 : decode cX11_known 8 = .ok (.aload_n 0, 1) := by decide +kernel
theorem dX11_known_9 : decode cX11_known 9 = .ok (.iload_n 1, 1) := by decide +kernel
theorem dX11_known_10 : decode cX11_known 10 = .ok (.invokevirtual 268, 3) := by decide +kernel
theorem dX11_known_13 : decode cX11_known 13 = .ok (.goto 4, 3) := by decide +kernel
theorem dX11_known_16 : decode cX11_known 16 = .ok (.iconst (-1), 1) := by decide +kernel
theorem dX11_known_17 : decode cX11_known 17 = .ok (.ireturn, 1) := by decide +kernel
theorem dX11_least_0 : decode cX11_least 0 = .ok (.iload_n 1, 1) := by decide +kernel
theorem dX11_least_1 : decode cX11_least 1 = .ok (.i2l, 1) := by decide +kernel
theorem dX11_least_2 : decode cX11_least 2 = .ok (.lconst 0, 1) := by decide +kernel
theorem dX11_least_3 : decode cX11_least 3 = .ok (.lconst 1, 1) := by decide +kernel
theorem dX11_least_4 : decode cX11_least 4 = .ok (.invokestatic 79, 3) := by decide +kernel
theorem dX11_least_7 : decode cX11_least 7 = .ok (.ifCond .ne 5, 3) := by decide +kernel
theorem dX11_least_10 : decode cX11_least 10 = .ok (.iconst (-1), 1) := by decide +kernel
theorem dX11_least_11 : decode cX11_least 11 = .ok (.ireturn, 1) := by decide +kernel
theorem dX11_least_12 : decode cX11_least 12 = .ok (.iconst 0, 1) := by decide +kernel
theorem dX11_least_13 : decode cX11_least 13 = .ok (.istore_n 2, 1) := by decide +kernel
theorem dX11_least_14 : decode cX11_least 14 = .ok (.iload_n 2, 1) := by decide +kernel
theorem dX11_least_15 : decode cX11_least 15 = .ok (.aload_n 0, 1) := by decide +kernel
theorem dX11_least_16 : decode cX11_least 16 = .ok (.getfield 13, 3) := by decide +kernel
theorem dX11_least_19 : decode cX11_least 19 = .ok (.iconst 0, 1) := by decide +kernel
theorem dX11_least_20 : decode cX11_least 20 = .ok (.iaload, 1) := by decide +kernel
theorem dX11_least_21 : decode cX11_least 21 = .ok (.if_icmp .ge 20, 3) := by decide +kernel
theorem dX11_least_24 : decode cX11_least 24 = .ok (.aload_n 0, 1) := by decide +kernel
theorem dX11_least_25 : decode cX11_least 25 = .ok (.getfield 49, 3) := by decide +kernel
theorem dX11_least_28 : decode cX11_least 28 = .ok (.iload_n 2, 1) := by decide +kernel
theorem dX11_least_29 : decode cX11_least 29 = .ok (.aload_n 0, 1) := by decide +kernel
theorem dX11_least_30 : decode cX11_least 30 = .ok (.iload_n 2, 1) := by decide +kernel
theorem dX11_least_31 : decode cX11_least 31 = .ok (.invokevirtual 268, 3) := by decide +kernel
theorem dX11_least_34 : decode cX11_least 34 = .ok (.iastore, 1) := by decide +kernel
theorem dX11_least_35 : decode cX11_least 35 = .ok (.iinc 2 1, 3) := by decide +kernel
theorem dX11_least_38 : decode cX11_least 38 = .ok (.goto (-24), 3) := by decide +kernel
theorem dX11_least_41 : decode cX11_least 41 = .ok (.aload_n 0, 1) := by decide +kernel
theorem dX11_least_42 : decode cX11_least 42 = .ok (.invokevirtual 151, 3) := by decide +kernel
theorem dX11_least_45 : decode cX11_least 45 = .ok (.aload_n 0, 1) := by decide +kernel
theorem dX11_least_46 : decode cX11_least 46 = .ok (.aload_n 0, 1) := by decide +kernel
theorem dX11_least_47 : decode cX11_least 47 = .ok (.getfield 25, 3) := by decide +kernel
theorem dX11_least_50 : decode cX11_least 50 = .ok (.iconst 1, 1) := by decide +kernel
theorem dX11_least_51 : decode cX11_least 51 = .ok (.iaload, 1) := by decide +kernel
theorem dX11_least_52 : decode cX11_least 52 = .ok (.invokevirtual 154, 3) := by decide +kernel
theorem dX11_least_55 : decode cX11_least 55 = .ok (.istore_n 2, 1) := by decide +kernel
theorem dX11_least_56 : decode cX11_least 56 = .ok (.iload_n 1, 1) := by decide +kernel
theorem dX11_least_57 : decode cX11_least 57 = .ok (.ifCond .ne 7, 3) := by decide +kernel
theorem dX11_least_60 : decode cX11_least 60 = .ok (.iload_n 2, 1) := by decide +kernel
theorem dX11_least_61 : decode cX11_least 61 = .ok (.goto 8, 3) := by decide +kernel
theorem dX11_least_64 : decode cX11_least 64 = .ok (.aload_n 0, 1) := by decide +kernel
theorem dX11_least_65 : decode cX11_least 65 = .ok (.iload_n 2, 1) := by decide +kernel
theorem dX11_least_66 : decode cX11_least 66 = .ok (.invokevirtual 157, 3) := by decide +kernel
theorem dX11_least_69 : decode cX11_least 69 = .ok (.ireturn, 1) := by decide +kernel
theorem dX11_mayBe_0 : decode cX11_mayBe 0 = .ok (.aload_n 0, 1) := by decide +kernel
theorem dX11_mayBe_1 : decode cX11_mayBe 1 = .ok (.getfield 31, 3) := by decide +kernel
theorem dX11_mayBe_4 : decode cX11_mayBe 4 = .ok (.iload_n 2, 1) := by decide +kernel
theorem dX11_mayBe_5 : decode cX11_mayBe 5 = .ok (.iaload, 1) := by decide +kernel
theorem dX11_mayBe_6 : decode cX11_mayBe 6 = .ok (.istore_n 3, 1) := by decide +kernel
theorem dX11_mayBe_7 : decode cX11_mayBe 7 = .ok (.iconst 0, 1) := by decide +kernel
theorem dX11_mayBe_8 : decode cX11_mayBe 8 = .ok (.istore 4, 2) := by decide +kernel
theorem dX11_mayBe_10 : decode cX11_mayBe 10 = .ok (.iload 4, 2) := by decide +kernel
theorem dX11_mayBe_12 : decode cX11_mayBe 12 = .ok (.bipush 101, 2) := by decide +kernel
theorem dX11_mayBe_14 : decode cX11_mayBe 14 = .ok (.if_icmp .ge 51, 3) := by decide +kernel
theorem dX11_mayBe_17 : decode cX11_mayBe 17 = .ok (.aload_n 0, 1) := by decide +kernel
theorem dX11_mayBe_18 : decode cX11_mayBe 18 = .ok (.iload_n 1, 1) := by decide +kernel
theorem dX11_mayBe_19 : decode cX11_mayBe 19 = .ok (.aload_n 0, 1) := by decide +kernel
theorem dX11_mayBe_20 : decode cX11_mayBe 20 = .ok (.getfield 16, 3) := by decide +kernel
theorem dX11_mayBe_23 : decode cX11_mayBe 23 = .ok (.iload_n 3, 1) := by decide +kernel
theorem dX11_mayBe_24 : decode cX11_mayBe 24 = .ok (.iaload, 1) := by decide +kernel
theorem dX11_mayBe_25 : decode cX11_mayBe 25 = .ok (.aload_n 0, 1) := by decide +kernel
theorem dX11_mayBe_26 : decode cX11_mayBe 26 = .ok (.getfield 19, 3) := by decide +kernel
theorem dX11_mayBe_29 : decode cX11_mayBe 29 = .ok (.iload_n 3, 1) := by decide +kernel
theorem dX11_mayBe_30 : decode cX11_mayBe 30 = .ok (.iaload, 1) := by decide +kernel
theorem dX11_mayBe_31 : decode cX11_mayBe 31 = .ok (.aload_n 0, 1) := by decide +kernel
theorem dX11_mayBe_32 : decode cX11_mayBe 32 = .ok (.getfield 37, 3) := by decide +kernel
theorem dX11_mayBe_35 : decode cX11_mayBe 35 = .ok (.iload_n 2, 1) := by decide +kernel
theorem dX11_mayBe_36 : decode cX11_mayBe 36 = .ok (.iaload, 1) := by decide +kernel
theorem dX11_mayBe_37 : decode cX11_mayBe 37 = .ok (.aload_n 0, 1) := by decide +kernel
theorem dX11_mayBe_38 : decode cX11_mayBe 38 = .ok (.getfield 40, 3) := by decide +kernel
theorem dX11_mayBe_41 : decode cX11_mayBe 41 = .ok (.iload_n 2, 1) := by decide +kernel
theorem dX11_mayBe_42 : decode cX11_mayBe 42 = .ok (.iaload, 1) := by decide +kernel
theorem dX11_mayBe_43 : decode cX11_mayBe 43 = .ok (.iload 4, 2) := by decide +kernel
theorem dX11_mayBe_45 : decode cX11_mayBe 45 = .ok (.invokevirtual 202, 3) := by decide +kernel
theorem dX11_mayBe_48 : decode cX11_mayBe 48 = .ok (.aload_n 0, 1) := by decide +kernel
theorem dX11_mayBe_49 : decode cX11_mayBe 49 = .ok (.getfield 34, 3) := by decide +kernel
theorem dX11_mayBe_52 : decode cX11_mayBe 52 = .ok (.iload_n 2, 1) := by decide +kernel
theorem dX11_mayBe_53 : decode cX11_mayBe 53 = .ok (.iaload, 1) := by decide +kernel
theorem dX11_mayBe_54 : decode cX11_mayBe 54 = .ok (.if_icmp .ne 5, 3) := by decide +kernel
theorem dX11_mayBe_57 : decode cX11_mayBe 57 = .ok (.iconst 1, 1) := by decide +kernel
theorem dX11_mayBe_58 : decode cX11_mayBe 58 = .ok (.ireturn, 1) := by decide +kernel
theorem dX11_mayBe_59 : decode cX11_mayBe 59 = .ok (.iinc 4 1, 3) := by decide +kernel
theorem dX11_mayBe_62 : decode cX11_mayBe 62 = .ok (.goto (-52), 3) := by decide +kernel
theorem dX11_mayBe_65 : decode cX11_mayBe 65 = .ok (.iconst 0, 1) := by decide +kernel
theorem dX11_mayBe_66 : decode cX11_mayBe 66 = .ok (.ireturn, 1) := by decide +kernel
theorem dX11_laws_0 : decode cX11_laws 0 = .ok (.aload_n 0, 1) := by decide +kernel
theorem dX11_laws_1 : decode cX11_laws 1 = .ok (.iload_n 1, 1) := by decide +kernel
theorem dX11_laws_2 : decode cX11_laws 2 = .ok (.invokevirtual 127, 3) := by decide +kernel
theorem dX11_laws_5 : decode cX11_laws 5 = .ok (.ifCond .ne 5, 3) := by decide +kernel
theorem dX11_laws_8 : decode cX11_laws 8 = .ok (.iconst (-1), 1) := by decide +kernel
theorem dX11_laws_9 : decode cX11_laws 9 = .ok (.ireturn, 1) := by decide +kernel
theorem dX11_laws_10 : decode cX11_laws 10 = .ok (.iconst 0, 1) := by decide +kernel
theorem dX11_laws_11 : decode cX11_laws 11 = .ok (.istore_n 2, 1) := by decide +kernel
theorem dX11_laws_12 : decode cX11_laws 12 = .ok (.iconst 0, 1) := by decide +kernel
theorem dX11_laws_13 : decode cX11_laws 13 = .ok (.istore_n 3, 1) := by decide +kernel
theorem dX11_laws_14 : decode cX11_laws 14 = .ok (.iload_n 3, 1) := by decide +kernel
theorem dX11_laws_15 : decode cX11_laws 15 = .ok (.bipush 6, 2) := by decide +kernel
theorem dX11_laws_17 : decode cX11_laws 17 = .ok (.if_icmp .ge 80, 3) := by decide +kernel
theorem dX11_laws_20 : decode cX11_laws 20 = .ok (.iconst 1, 1) := by decide +kernel
theorem dX11_laws_21 : decode cX11_laws 21 = .ok (.istore 4, 2) := by decide +kernel
theorem dX11_laws_23 : decode cX11_laws 23 = .ok (.iconst 0, 1) := by decide +kernel
theorem dX11_laws_24 : decode cX11_laws 24 = .ok (.istore 5, 2) := by decide +kernel
theorem dX11_laws_26 : decode cX11_laws 26 = .ok (.iload 5, 2) := by decide +kernel
theorem dX11_laws_28 : decode cX11_laws 28 = .ok (.aload_n 0, 1) := by decide +kernel
theorem dX11_laws_29 : decode cX11_laws 29 = .ok (.getfield 28, 3) := by decide +kernel
theorem dX11_laws_32 : decode cX11_laws 32 = .ok (.iconst 0, 1) := by decide +kernel
theorem dX11_laws_33 : decode cX11_laws 33 = .ok (.iaload, 1) := by decide +kernel
theorem dX11_laws_34 : decode cX11_laws 34 = .ok (.if_icmp .ge 42, 3) := by decide +kernel
theorem dX11_laws_37 : decode cX11_laws 37 = .ok (.iload 4, 2) := by decide +kernel
theorem dX11_laws_39 : decode cX11_laws 39 = .ok (.ifCond .eq 37, 3) := by decide +kernel
theorem dX11_laws_42 : decode cX11_laws 42 = .ok (.aload_n 0, 1) := by decide +kernel
theorem dX11_laws_43 : decode cX11_laws 43 = .ok (.getfield 31, 3) := by decide +kernel
theorem dX11_laws_46 : decode cX11_laws 46 = .ok (.iload 5, 2) := by decide +kernel
theorem dX11_laws_48 : decode cX11_laws 48 = .ok (.iaload, 1) := by decide +kernel
theorem dX11_laws_49 : decode cX11_laws 49 = .ok (.iload_n 1, 1) := by decide +kernel
theorem dX11_laws_50 : decode cX11_laws 50 = .ok (.if_icmp .ne 13, 3) := by decide +kernel
theorem dX11_laws_53 : decode cX11_laws 53 = .ok (.aload_n 0, 1) := by decide +kernel
theorem dX11_laws_54 : decode cX11_laws 54 = .ok (.iload_n 3, 1) := by decide +kernel
theorem dX11_laws_55 : decode cX11_laws 55 = .ok (.iload 5, 2) := by decide +kernel
theorem dX11_laws_57 : decode cX11_laws 57 = .ok (.invokevirtual 271, 3) := by decide +kernel
theorem dX11_laws_60 : decode cX11_laws 60 = .ok (.ifCond .eq 7, 3) := by decide +kernel
theorem dX11_laws_63 : decode cX11_laws 63 = .ok (.iconst 1, 1) := by decide +kernel
theorem dX11_laws_64 : decode cX11_laws 64 = .ok (.goto 4, 3) := by decide +kernel
theorem dX11_laws_67 : decode cX11_laws 67 = .ok (.iconst 0, 1) := by decide +kernel
theorem dX11_laws_68 : decode cX11_laws 68 = .ok (.istore 4, 2) := by decide +kernel
theorem dX11_laws_70 : decode cX11_laws 70 = .ok (.iinc 5 1, 3) := by decide +kernel
theorem dX11_laws_73 : decode cX11_laws 73 = .ok (.goto (-47), 3) := by decide +kernel
theorem dX11_laws_76 : decode cX11_laws 76 = .ok (.iload_n 2, 1) := by decide +kernel
theorem dX11_laws_77 : decode cX11_laws 77 = .ok (.iload 4, 2) := by decide +kernel
theorem dX11_laws_79 : decode cX11_laws 79 = .ok (.ifCond .eq 9, 3) := by decide +kernel
theorem dX11_laws_82 : decode cX11_laws 82 = .ok (.iconst 1, 1) := by decide +kernel
theorem dX11_laws_83 : decode cX11_laws 83 = .ok (.iload_n 3, 1) := by decide +kernel
theorem dX11_laws_84 : decode cX11_laws 84 = .ok (.ishl, 1) := by decide +kernel
theorem dX11_laws_85 : decode cX11_laws 85 = .ok (.goto 4, 3) := by decide +kernel
theorem dX11_laws_88 : decode cX11_laws 88 = .ok (.iconst 0, 1) := by decide +kernel
theorem dX11_laws_89 : decode cX11_laws 89 = .ok (.ior, 1) := by decide +kernel
theorem dX11_laws_90 : decode cX11_laws 90 = .ok (.istore_n 2, 1) := by decide +kernel
theorem dX11_laws_91 : decode cX11_laws 91 = .ok (.iinc 3 1, 3) := by decide +kernel
theorem dX11_laws_94 : decode cX11_laws 94 = .ok (.goto (-80), 3) := by decide +kernel
theorem dX11_laws_97 : decode cX11_laws 97 = .ok (.iload_n 2, 1) := by decide +kernel
theorem dX11_laws_98 : decode cX11_laws 98 = .ok (.ireturn, 1) := by decide +kernel
theorem dX11_layRooms_0 : decode cX11_layRooms 0 = .ok (.aload_n 0, 1) := by decide +kernel
theorem dX11_layRooms_1 : decode cX11_layRooms 1 = .ok (.invokevirtual 148, 3) := by decide +kernel
theorem dX11_layRooms_4 : decode cX11_layRooms 4 = .ok (.aload_n 0, 1) := by decide +kernel
theorem dX11_layRooms_5 : decode cX11_layRooms 5 = .ok (.invokevirtual 151, 3) := by decide +kernel
theorem dX11_layRooms_8 : decode cX11_layRooms 8 = .ok (.iconst 0, 1) := by decide +kernel
theorem dX11_layRooms_9 : decode cX11_layRooms 9 = .ok (.istore_n 2, 1) := by decide +kernel
theorem dX11_layRooms_10 : decode cX11_layRooms 10 = .ok (.iload_n 2, 1) := by decide +kernel
theorem dX11_layRooms_11 : decode cX11_layRooms 11 = .ok (.iconst 2, 1) := by decide +kernel
theorem dX11_layRooms_12 : decode cX11_layRooms 12 = .ok (.if_icmp .ge 234, 3) := by decide +kernel
theorem dX11_layRooms_15 : decode cX11_layRooms 15 = .ok (.aload_n 0, 1) := by decide +kernel
theorem dX11_layRooms_16 : decode cX11_layRooms 16 = .ok (.getfield 70, 3) := by decide +kernel
theorem dX11_layRooms_19 : decode cX11_layRooms 19 = .ok (.iconst 2, 1) := by decide +kernel
theorem dX11_layRooms_20 : decode cX11_layRooms 20 = .ok (.iload_n 2, 1) := by decide +kernel
theorem dX11_layRooms_21 : decode cX11_layRooms 21 = .ok (.imul, 1) := by decide +kernel
theorem dX11_layRooms_22 : decode cX11_layRooms 22 = .ok (.iconst 0, 1) := by decide +kernel
theorem dX11_layRooms_23 : decode cX11_layRooms 23 = .ok (.iastore, 1) := by decide +kernel
theorem dX11_layRooms_24 : decode cX11_layRooms 24 = .ok (.aload_n 0, 1) := by decide +kernel
theorem dX11_layRooms_25 : decode cX11_layRooms 25 = .ok (.getfield 70, 3) := by decide +kernel
theorem dX11_layRooms_28 : decode cX11_layRooms 28 = .ok (.iconst 2, 1) := by decide +kernel
theorem dX11_layRooms_29 : decode cX11_layRooms 29 = .ok (.iload_n 2, 1) := by decide +kernel
theorem dX11_layRooms_30 : decode cX11_layRooms 30 = .ok (.imul, 1) := by decide +kernel
theorem dX11_layRooms_31 : decode cX11_layRooms 31 = .ok (.iconst 1, 1) := by decide +kernel
theorem dX11_layRooms_32 : decode cX11_layRooms 32 = .ok (.iadd, 1) := by decide +kernel
theorem dX11_layRooms_33 : decode cX11_layRooms 33 = .ok (.iconst 0, 1) := by decide +kernel
theorem dX11_layRooms_34 : decode cX11_layRooms 34 = .ok (.iastore, 1) := by decide +kernel
theorem dX11_layRooms_35 : decode cX11_layRooms 35 = .ok (.aload_n 0, 1) := by decide +kernel
theorem dX11_layRooms_36 : decode cX11_layRooms 36 = .ok (.getfield 67, 3) := by decide +kernel
theorem dX11_layRooms_39 : decode cX11_layRooms 39 = .ok (.bipush 22, 2) := by decide +kernel
theorem dX11_layRooms_41 : decode cX11_layRooms 41 = .ok (.iload_n 2, 1) := by decide +kernel
theorem dX11_layRooms_42 : decode cX11_layRooms 42 = .ok (.imul, 1) := by decide +kernel
theorem dX11_layRooms_43 : decode cX11_layRooms 43 = .ok (.iconst 0, 1) := by decide +kernel
theorem dX11_layRooms_44 : decode cX11_layRooms 44 = .ok (.iastore, 1) := by decide +kernel
theorem dX11_layRooms_45 : decode cX11_layRooms 45 = .ok (.aload_n 0, 1) := by decide +kernel
theorem dX11_layRooms_46 : decode cX11_layRooms 46 = .ok (.getfield 67, 3) := by decide +kernel
theorem dX11_layRooms_49 : decode cX11_layRooms 49 = .ok (.bipush 22, 2) := by decide +kernel
theorem dX11_layRooms_51 : decode cX11_layRooms 51 = .ok (.iload_n 2, 1) := by decide +kernel
theorem dX11_layRooms_52 : decode cX11_layRooms 52 = .ok (.imul, 1) := by decide +kernel
theorem dX11_layRooms_53 : decode cX11_layRooms 53 = .ok (.bipush 11, 2) := by decide +kernel
theorem dX11_layRooms_55 : decode cX11_layRooms 55 = .ok (.iadd, 1) := by decide +kernel
theorem dX11_layRooms_56 : decode cX11_layRooms 56 = .ok (.iconst 0, 1) := by decide +kernel
theorem dX11_layRooms_57 : decode cX11_layRooms 57 = .ok (.iastore, 1) := by decide +kernel
theorem dX11_layRooms_58 : decode cX11_layRooms 58 = .ok (.iconst 0, 1) := by decide +kernel
theorem dX11_layRooms_59 : decode cX11_layRooms 59 = .ok (.istore_n 3, 1) := by decide +kernel
theorem dX11_layRooms_60 : decode cX11_layRooms 60 = .ok (.iload_n 3, 1) := by decide +kernel
theorem dX11_layRooms_61 : decode cX11_layRooms 61 = .ok (.aload_n 0, 1) := by decide +kernel
theorem dX11_layRooms_62 : decode cX11_layRooms 62 = .ok (.getfield 134, 3) := by decide +kernel
theorem dX11_layRooms_65 : decode cX11_layRooms 65 = .ok (.if_icmp .ge 79, 3) := by decide +kernel
theorem dX11_layRooms_68 : decode cX11_layRooms 68 = .ok (.iload_n 1, 1) := by decide +kernel
theorem dX11_layRooms_69 : decode cX11_layRooms 69 = .ok (.aload_n 0, 1) := by decide +kernel
theorem dX11_layRooms_70 : decode cX11_layRooms 70 = .ok (.getfield 52, 3) := by decide +kernel
theorem dX11_layRooms_73 : decode cX11_layRooms 73 = .ok (.iload_n 3, 1) := by decide +kernel
theorem dX11_layRooms_74 : decode cX11_layRooms 74 = .ok (.iaload, 1) := by decide +kernel
theorem dX11_layRooms_75 : decode cX11_layRooms 75 = .ok (.ishr, 1) := by decide +kernel
theorem dX11_layRooms_76 : decode cX11_layRooms 76 = .ok (.iconst 1, 1) := by decide +kernel
theorem dX11_layRooms_77 : decode cX11_layRooms 77 = .ok (.iand, 1) := by decide +kernel
theorem dX11_layRooms_78 : decode cX11_layRooms 78 = .ok (.iload_n 2, 1) := by decide +kernel
theorem dX11_layRooms_79 : decode cX11_layRooms 79 = .ok (.if_icmp .ne 59, 3) := by decide +kernel
theorem dX11_layRooms_82 : decode cX11_layRooms 82 = .ok (.aload_n 0, 1) := by decide +kernel
theorem dX11_layRooms_83 : decode cX11_layRooms 83 = .ok (.getfield 70, 3) := by decide +kernel
theorem dX11_layRooms_86 : decode cX11_layRooms 86 = .ok (.iconst 2, 1) := by decide +kernel
theorem dX11_layRooms_87 : decode cX11_layRooms 87 = .ok (.iload_n 2, 1) := by decide +kernel
theorem dX11_layRooms_88 : decode cX11_layRooms 88 = .ok (.imul, 1) := by decide +kernel
theorem dX11_layRooms_89 : decode cX11_layRooms 89 = .ok (.dup2, 1) := by decide +kernel
theorem dX11_layRooms_90 : decode cX11_layRooms 90 = .ok (.iaload, 1) := by decide +kernel
theorem dX11_layRooms_91 : decode cX11_layRooms 91 = .ok (.iconst 1, 1) := by decide +kernel
theorem dX11_layRooms_92 : decode cX11_layRooms 92 = .ok (.iadd, 1) := by decide +kernel
theorem dX11_layRooms_93 : decode cX11_layRooms 93 = .ok (.iastore, 1) := by decide +kernel
theorem dX11_layRooms_94 : decode cX11_layRooms 94 = .ok (.aload_n 0, 1) := by decide +kernel
theorem dX11_layRooms_95 : decode cX11_layRooms 95 = .ok (.getfield 67, 3) := by decide +kernel
theorem dX11_layRooms_98 : decode cX11_layRooms 98 = .ok (.bipush 22, 2) := by decide +kernel
theorem dX11_layRooms_100 : decode cX11_layRooms 100 = .ok (.iload_n 2, 1) := by decide +kernel
theorem dX11_layRooms_101 : decode cX11_layRooms 101 = .ok (.imul, 1) := by decide +kernel
theorem dX11_layRooms_102 : decode cX11_layRooms 102 = .ok (.aload_n 0, 1) := by decide +kernel
theorem dX11_layRooms_103 : decode cX11_layRooms 103 = .ok (.getfield 70, 3) := by decide +kernel
theorem dX11_layRooms_106 : decode cX11_layRooms 106 = .ok (.iconst 2, 1) := by decide +kernel
theorem dX11_layRooms_107 : decode cX11_layRooms 107 = .ok (.iload_n 2, 1) := by decide +kernel
theorem dX11_layRooms_108 : decode cX11_layRooms 108 = .ok (.imul, 1) := by decide +kernel
theorem dX11_layRooms_109 : decode cX11_layRooms 109 = .ok (.iaload, 1) := by decide +kernel
theorem dX11_layRooms_110 : decode cX11_layRooms 110 = .ok (.iadd, 1) := by decide +kernel
theorem dX11_layRooms_111 : decode cX11_layRooms 111 = .ok (.aload_n 0, 1) := by decide +kernel
theorem dX11_layRooms_112 : decode cX11_layRooms 112 = .ok (.getfield 67, 3) := by decide +kernel
theorem dX11_layRooms_115 : decode cX11_layRooms 115 = .ok (.bipush 22, 2) := by decide +kernel
theorem dX11_layRooms_117 : decode cX11_layRooms 117 = .ok (.iload_n 2, 1) := by decide +kernel
theorem dX11_layRooms_118 : decode cX11_layRooms 118 = .ok (.imul, 1) := by decide +kernel
theorem dX11_layRooms_119 : decode cX11_layRooms 119 = .ok (.aload_n 0, 1) := by decide +kernel
theorem dX11_layRooms_120 : decode cX11_layRooms 120 = .ok (.getfield 70, 3) := by decide +kernel
theorem dX11_layRooms_123 : decode cX11_layRooms 123 = .ok (.iconst 2, 1) := by decide +kernel
theorem dX11_layRooms_124 : decode cX11_layRooms 124 = .ok (.iload_n 2, 1) := by decide +kernel
theorem dX11_layRooms_125 : decode cX11_layRooms 125 = .ok (.imul, 1) := by decide +kernel
theorem dX11_layRooms_126 : decode cX11_layRooms 126 = .ok (.iaload, 1) := by decide +kernel
theorem dX11_layRooms_127 : decode cX11_layRooms 127 = .ok (.iadd, 1) := by decide +kernel
theorem dX11_layRooms_128 : decode cX11_layRooms 128 = .ok (.iconst 1, 1) := by decide +kernel
theorem dX11_layRooms_129 : decode cX11_layRooms 129 = .ok (.isub, 1) := by decide +kernel
theorem dX11_layRooms_130 : decode cX11_layRooms 130 = .ok (.iaload, 1) := by decide +kernel
theorem dX11_layRooms_131 : decode cX11_layRooms 131 = .ok (.aload_n 0, 1) := by decide +kernel
theorem dX11_layRooms_132 : decode cX11_layRooms 132 = .ok (.iload_n 3, 1) := by decide +kernel
theorem dX11_layRooms_133 : decode cX11_layRooms 133 = .ok (.invokevirtual 140, 3) := by decide +kernel
theorem dX11_layRooms_136 : decode cX11_layRooms 136 = .ok (.iadd, 1) := by decide +kernel
theorem dX11_layRooms_137 : decode cX11_layRooms 137 = .ok (.iastore, 1) := by decide +kernel
theorem dX11_layRooms_138 : decode cX11_layRooms 138 = .ok (.iinc 3 1, 3) := by decide +kernel
theorem dX11_layRooms_141 : decode cX11_layRooms 141 = .ok (.goto (-81), 3) := by decide +kernel
theorem dX11_layRooms_144 : decode cX11_layRooms 144 = .ok (.iconst 0, 1) := by decide +kernel
theorem dX11_layRooms_145 : decode cX11_layRooms 145 = .ok (.istore_n 3, 1) := by decide +kernel
theorem dX11_layRooms_146 : decode cX11_layRooms 146 = .ok (.iload_n 3, 1) := by decide +kernel
theorem dX11_layRooms_147 : decode cX11_layRooms 147 = .ok (.aload_n 0, 1) := by decide +kernel
theorem dX11_layRooms_148 : decode cX11_layRooms 148 = .ok (.getfield 137, 3) := by decide +kernel
theorem dX11_layRooms_151 : decode cX11_layRooms 151 = .ok (.if_icmp .ge 89, 3) := by decide +kernel
theorem dX11_layRooms_154 : decode cX11_layRooms 154 = .ok (.iload_n 1, 1) := by decide +kernel
theorem dX11_layRooms_155 : decode cX11_layRooms 155 = .ok (.aload_n 0, 1) := by decide +kernel
theorem dX11_layRooms_156 : decode cX11_layRooms 156 = .ok (.getfield 55, 3) := by decide +kernel
theorem dX11_layRooms_159 : decode cX11_layRooms 159 = .ok (.iload_n 3, 1) := by decide +kernel
theorem dX11_layRooms_160 : decode cX11_layRooms 160 = .ok (.iaload, 1) := by decide +kernel
theorem dX11_layRooms_161 : decode cX11_layRooms 161 = .ok (.ishr, 1) := by decide +kernel
theorem dX11_layRooms_162 : decode cX11_layRooms 162 = .ok (.iconst 1, 1) := by decide +kernel
theorem dX11_layRooms_163 : decode cX11_layRooms 163 = .ok (.iand, 1) := by decide +kernel
theorem dX11_layRooms_164 : decode cX11_layRooms 164 = .ok (.iload_n 2, 1) := by decide +kernel
theorem dX11_layRooms_165 : decode cX11_layRooms 165 = .ok (.if_icmp .ne 69, 3) := by decide +kernel
theorem dX11_layRooms_168 : decode cX11_layRooms 168 = .ok (.aload_n 0, 1) := by decide +kernel
theorem dX11_layRooms_169 : decode cX11_layRooms 169 = .ok (.getfield 70, 3) := by decide +kernel
theorem dX11_layRooms_172 : decode cX11_layRooms 172 = .ok (.iconst 2, 1) := by decide +kernel
theorem dX11_layRooms_173 : decode cX11_layRooms 173 = .ok (.iload_n 2, 1) := by decide +kernel
theorem dX11_layRooms_174 : decode cX11_layRooms 174 = .ok (.imul, 1) := by decide +kernel
theorem dX11_layRooms_175 : decode cX11_layRooms 175 = .ok (.iconst 1, 1) := by decide +kernel
theorem dX11_layRooms_176 : decode cX11_layRooms 176 = .ok (.iadd, 1) := by decide +kernel
theorem dX11_layRooms_177 : decode cX11_layRooms 177 = .ok (.dup2, 1) := by decide +kernel
theorem dX11_layRooms_178 : decode cX11_layRooms 178 = .ok (.iaload, 1) := by decide +kernel
theorem dX11_layRooms_179 : decode cX11_layRooms 179 = .ok (.iconst 1, 1) := by decide +kernel
theorem dX11_layRooms_180 : decode cX11_layRooms 180 = .ok (.iadd, 1) := by decide +kernel
theorem dX11_layRooms_181 : decode cX11_layRooms 181 = .ok (.iastore, 1) := by decide +kernel
theorem dX11_layRooms_182 : decode cX11_layRooms 182 = .ok (.aload_n 0, 1) := by decide +kernel
theorem dX11_layRooms_183 : decode cX11_layRooms 183 = .ok (.getfield 67, 3) := by decide +kernel
theorem dX11_layRooms_186 : decode cX11_layRooms 186 = .ok (.bipush 22, 2) := by decide +kernel
theorem dX11_layRooms_188 : decode cX11_layRooms 188 = .ok (.iload_n 2, 1) := by decide +kernel
theorem dX11_layRooms_189 : decode cX11_layRooms 189 = .ok (.imul, 1) := by decide +kernel
theorem dX11_layRooms_190 : decode cX11_layRooms 190 = .ok (.bipush 11, 2) := by decide +kernel
theorem dX11_layRooms_192 : decode cX11_layRooms 192 = .ok (.iadd, 1) := by decide +kernel
theorem dX11_layRooms_193 : decode cX11_layRooms 193 = .ok (.aload_n 0, 1) := by decide +kernel
theorem dX11_layRooms_194 : decode cX11_layRooms 194 = .ok (.getfield 70, 3) := by decide +kernel
theorem dX11_layRooms_197 : decode cX11_layRooms 197 = .ok (.iconst 2, 1) := by decide +kernel
theorem dX11_layRooms_198 : decode cX11_layRooms 198 = .ok (.iload_n 2, 1) := by decide +kernel
theorem dX11_layRooms_199 : decode cX11_layRooms 199 = .ok (.imul, 1) := by decide +kernel
theorem dX11_layRooms_200 : decode cX11_layRooms 200 = .ok (.iconst 1, 1) := by decide +kernel
theorem dX11_layRooms_201 : decode cX11_layRooms 201 = .ok (.iadd, 1) := by decide +kernel
theorem dX11_layRooms_202 : decode cX11_layRooms 202 = .ok (.iaload, 1) := by decide +kernel
theorem dX11_layRooms_203 : decode cX11_layRooms 203 = .ok (.iadd, 1) := by decide +kernel
theorem dX11_layRooms_204 : decode cX11_layRooms 204 = .ok (.aload_n 0, 1) := by decide +kernel
theorem dX11_layRooms_205 : decode cX11_layRooms 205 = .ok (.getfield 67, 3) := by decide +kernel
theorem dX11_layRooms_208 : decode cX11_layRooms 208 = .ok (.bipush 22, 2) := by decide +kernel
theorem dX11_layRooms_210 : decode cX11_layRooms 210 = .ok (.iload_n 2, 1) := by decide +kernel
theorem dX11_layRooms_211 : decode cX11_layRooms 211 = .ok (.imul, 1) := by decide +kernel
theorem dX11_layRooms_212 : decode cX11_layRooms 212 = .ok (.bipush 10, 2) := by decide +kernel
theorem dX11_layRooms_214 : decode cX11_layRooms 214 = .ok (.iadd, 1) := by decide +kernel
theorem dX11_layRooms_215 : decode cX11_layRooms 215 = .ok (.aload_n 0, 1) := by decide +kernel
theorem dX11_layRooms_216 : decode cX11_layRooms 216 = .ok (.getfield 70, 3) := by decide +kernel
theorem dX11_layRooms_219 : decode cX11_layRooms 219 = .ok (.iconst 2, 1) := by decide +kernel
theorem dX11_layRooms_220 : decode cX11_layRooms 220 = .ok (.iload_n 2, 1) := by decide +kernel
theorem dX11_layRooms_221 : decode cX11_layRooms 221 = .ok (.imul, 1) := by decide +kernel
theorem dX11_layRooms_222 : decode cX11_layRooms 222 = .ok (.iconst 1, 1) := by decide +kernel
theorem dX11_layRooms_223 : decode cX11_layRooms 223 = .ok (.iadd, 1) := by decide +kernel
theorem dX11_layRooms_224 : decode cX11_layRooms 224 = .ok (.iaload, 1) := by decide +kernel
theorem dX11_layRooms_225 : decode cX11_layRooms 225 = .ok (.iadd, 1) := by decide +kernel
theorem dX11_layRooms_226 : decode cX11_layRooms 226 = .ok (.iaload, 1) := by decide +kernel
theorem dX11_layRooms_227 : decode cX11_layRooms 227 = .ok (.aload_n 0, 1) := by decide +kernel
theorem dX11_layRooms_228 : decode cX11_layRooms 228 = .ok (.iload_n 3, 1) := by decide +kernel
theorem dX11_layRooms_229 : decode cX11_layRooms 229 = .ok (.invokevirtual 143, 3) := by decide +kernel
theorem dX11_layRooms_232 : decode cX11_layRooms 232 = .ok (.iadd, 1) := by decide +kernel
theorem dX11_layRooms_233 : decode cX11_layRooms 233 = .ok (.iastore, 1) := by decide +kernel
theorem dX11_layRooms_234 : decode cX11_layRooms 234 = .ok (.iinc 3 1, 3) := by decide +kernel
theorem dX11_layRooms_237 : decode cX11_layRooms 237 = .ok (.goto (-91), 3) := by decide +kernel
theorem dX11_layRooms_240 : decode cX11_layRooms 240 = .ok (.iinc 2 1, 3) := by decide +kernel
theorem dX11_layRooms_243 : decode cX11_layRooms 243 = .ok (.goto (-233), 3) := by decide +kernel
theorem dX11_layRooms_246 : decode cX11_layRooms 246 = .ok (.return_, 1) := by decide +kernel
theorem dX11_carried_0 : decode cX11_carried 0 = .ok (.sipush (-10000), 3) := by decide +kernel
theorem dX11_carried_3 : decode cX11_carried 3 = .ok (.istore_n 3, 1) := by decide +kernel
theorem dX11_carried_4 : decode cX11_carried 4 = .ok (.iconst 0, 1) := by decide +kernel
theorem dX11_carried_5 : decode cX11_carried 5 = .ok (.istore 4, 2) := by decide +kernel
theorem dX11_carried_7 : decode cX11_carried 7 = .ok (.iload 4, 2) := by decide +kernel
theorem dX11_carried_9 : decode cX11_carried 9 = .ok (.aload_n 0, 1) := by decide +kernel
theorem dX11_carried_10 : decode cX11_carried 10 = .ok (.getfield 70, 3) := by decide +kernel
theorem dX11_carried_13 : decode cX11_carried 13 = .ok (.iconst 0, 1) := by decide +kernel
theorem dX11_carried_14 : decode cX11_carried 14 = .ok (.iaload, 1) := by decide +kernel
theorem dX11_carried_15 : decode cX11_carried 15 = .ok (.if_icmp .gt 143, 3) := by decide +kernel
theorem dX11_carried_18 : decode cX11_carried 18 = .ok (.iconst 0, 1) := by decide +kernel
theorem dX11_carried_19 : decode cX11_carried 19 = .ok (.istore 5, 2) := by decide +kernel
theorem dX11_carried_21 : decode cX11_carried 21 = .ok (.iload 5, 2) := by decide +kernel
theorem dX11_carried_23 : decode cX11_carried 23 = .ok (.aload_n 0, 1) := by decide +kernel
theorem dX11_carried_24 : decode cX11_carried 24 = .ok (.getfield 70, 3) := by decide +kernel
theorem dX11_carried_27 : decode cX11_carried 27 = .ok (.iconst 2, 1) := by decide +kernel
theorem dX11_carried_28 : decode cX11_carried 28 = .ok (.iaload, 1) := by decide +kernel
theorem dX11_carried_29 : decode cX11_carried 29 = .ok (.if_icmp .gt 123, 3) := by decide +kernel
theorem dX11_carried_32 : decode cX11_carried 32 = .ok (.iload 4, 2) := by decide +kernel
theorem dX11_carried_34 : decode cX11_carried 34 = .ok (.iload_n 1, 1) := by decide +kernel
theorem dX11_carried_35 : decode cX11_carried 35 = .ok (.iadd, 1) := by decide +kernel
theorem dX11_carried_36 : decode cX11_carried 36 = .ok (.istore 6, 2) := by decide +kernel
theorem dX11_carried_38 : decode cX11_carried 38 = .ok (.iload 5, 2) := by decide +kernel
theorem dX11_carried_40 : decode cX11_carried 40 = .ok (.iload_n 1, 1) := by decide +kernel
theorem dX11_carried_41 : decode cX11_carried 41 = .ok (.isub, 1) := by decide +kernel
theorem dX11_carried_42 : decode cX11_carried 42 = .ok (.istore 7, 2) := by decide +kernel
theorem dX11_carried_44 : decode cX11_carried 44 = .ok (.iload 6, 2) := by decide +kernel
theorem dX11_carried_46 : decode cX11_carried 46 = .ok (.i2l, 1) := by decide +kernel
theorem dX11_carried_47 : decode cX11_carried 47 = .ok (.lconst 0, 1) := by decide +kernel
theorem dX11_carried_48 : decode cX11_carried 48 = .ok (.aload_n 0, 1) := by decide +kernel
theorem dX11_carried_49 : decode cX11_carried 49 = .ok (.getfield 70, 3) := by decide +kernel
theorem dX11_carried_52 : decode cX11_carried 52 = .ok (.iconst 1, 1) := by decide +kernel
theorem dX11_carried_53 : decode cX11_carried 53 = .ok (.iaload, 1) := by decide +kernel
theorem dX11_carried_54 : decode cX11_carried 54 = .ok (.i2l, 1) := by decide +kernel
theorem dX11_carried_55 : decode cX11_carried 55 = .ok (.invokestatic 79, 3) := by decide +kernel
theorem dX11_carried_58 : decode cX11_carried 58 = .ok (.ifCond .eq 88, 3) := by decide +kernel
theorem dX11_carried_61 : decode cX11_carried 61 = .ok (.iload 7, 2) := by decide +kernel
theorem dX11_carried_63 : decode cX11_carried 63 = .ok (.i2l, 1) := by decide +kernel
theorem dX11_carried_64 : decode cX11_carried 64 = .ok (.lconst 0, 1) := by decide +kernel
theorem dX11_carried_65 : decode cX11_carried 65 = .ok (.aload_n 0, 1) := by decide +kernel
theorem dX11_carried_66 : decode cX11_carried 66 = .ok (.getfield 70, 3) := by decide +kernel
theorem dX11_carried_69 : decode cX11_carried 69 = .ok (.iconst 3, 1) := by decide +kernel
theorem dX11_carried_70 : decode cX11_carried 70 = .ok (.iaload, 1) := by decide +kernel
theorem dX11_carried_71 : decode cX11_carried 71 = .ok (.i2l, 1) := by decide +kernel
theorem dX11_carried_72 : decode cX11_carried 72 = .ok (.invokestatic 79, 3) := by decide +kernel
theorem dX11_carried_75 : decode cX11_carried 75 = .ok (.ifCond .eq 71, 3) := by decide +kernel
theorem dX11_carried_78 : decode cX11_carried 78 = .ok (.aload_n 0, 1) := by decide +kernel
theorem dX11_carried_79 : decode cX11_carried 79 = .ok (.getfield 67, 3) := by decide +kernel
theorem dX11_carried_82 : decode cX11_carried 82 = .ok (.iload 4, 2) := by decide +kernel
theorem dX11_carried_84 : decode cX11_carried 84 = .ok (.iaload, 1) := by decide +kernel
theorem dX11_carried_85 : decode cX11_carried 85 = .ok (.aload_n 0, 1) := by decide +kernel
theorem dX11_carried_86 : decode cX11_carried 86 = .ok (.getfield 67, 3) := by decide +kernel
theorem dX11_carried_89 : decode cX11_carried 89 = .ok (.bipush 11, 2) := by decide +kernel
theorem dX11_carried_91 : decode cX11_carried 91 = .ok (.iload 6, 2) := by decide +kernel
theorem dX11_carried_93 : decode cX11_carried 93 = .ok (.iadd, 1) := by decide +kernel
theorem dX11_carried_94 : decode cX11_carried 94 = .ok (.iaload, 1) := by decide +kernel
theorem dX11_carried_95 : decode cX11_carried 95 = .ok (.isub, 1) := by decide +kernel
theorem dX11_carried_96 : decode cX11_carried 96 = .ok (.aload_n 0, 1) := by decide +kernel
theorem dX11_carried_97 : decode cX11_carried 97 = .ok (.getfield 67, 3) := by decide +kernel
theorem dX11_carried_100 : decode cX11_carried 100 = .ok (.bipush 22, 2) := by decide +kernel
theorem dX11_carried_102 : decode cX11_carried 102 = .ok (.iload 5, 2) := by decide +kernel
theorem dX11_carried_104 : decode cX11_carried 104 = .ok (.iadd, 1) := by decide +kernel
theorem dX11_carried_105 : decode cX11_carried 105 = .ok (.iaload, 1) := by decide +kernel
theorem dX11_carried_106 : decode cX11_carried 106 = .ok (.iadd, 1) := by decide +kernel
theorem dX11_carried_107 : decode cX11_carried 107 = .ok (.aload_n 0, 1) := by decide +kernel
theorem dX11_carried_108 : decode cX11_carried 108 = .ok (.getfield 67, 3) := by decide +kernel
theorem dX11_carried_111 : decode cX11_carried 111 = .ok (.bipush 33, 2) := by decide +kernel
theorem dX11_carried_113 : decode cX11_carried 113 = .ok (.iload 7, 2) := by decide +kernel
theorem dX11_carried_115 : decode cX11_carried 115 = .ok (.iadd, 1) := by decide +kernel
theorem dX11_carried_116 : decode cX11_carried 116 = .ok (.iaload, 1) := by decide +kernel
theorem dX11_carried_117 : decode cX11_carried 117 = .ok (.isub, 1) := by decide +kernel
theorem dX11_carried_118 : decode cX11_carried 118 = .ok (.iload_n 2, 1) := by decide +kernel
theorem dX11_carried_119 : decode cX11_carried 119 = .ok (.iload_n 1, 1) := by decide +kernel
theorem dX11_carried_120 : decode cX11_carried 120 = .ok (.ifCond .ge 8, 3) := by decide +kernel
theorem dX11_carried_123 : decode cX11_carried 123 = .ok (.iload_n 1, 1) := by decide +kernel
theorem dX11_carried_124 : decode cX11_carried 124 = .ok (.ineg, 1) := by decide +kernel
theorem dX11_carried_125 : decode cX11_carried 125 = .ok (.goto 4, 3) := by decide +kernel
theorem dX11_carried_128 : decode cX11_carried 128 = .ok (.iload_n 1, 1) := by decide +kernel
theorem dX11_carried_129 : decode cX11_carried 129 = .ok (.imul, 1) := by decide +kernel
theorem dX11_carried_130 : decode cX11_carried 130 = .ok (.isub, 1) := by decide +kernel
theorem dX11_carried_131 : decode cX11_carried 131 = .ok (.istore 8, 2) := by decide +kernel
theorem dX11_carried_133 : decode cX11_carried 133 = .ok (.iload 8, 2) := by decide +kernel
theorem dX11_carried_135 : decode cX11_carried 135 = .ok (.iload_n 3, 1) := by decide +kernel
theorem dX11_carried_136 : decode cX11_carried 136 = .ok (.if_icmp .le 8, 3) := by decide +kernel
theorem dX11_carried_139 : decode cX11_carried 139 = .ok (.iload 8, 2) := by decide +kernel
theorem dX11_carried_141 : decode cX11_carried 141 = .ok (.goto 4, 3) := by decide +kernel
theorem dX11_carried_144 : decode cX11_carried 144 = .ok (.iload_n 3, 1) := by decide +kernel
theorem dX11_carried_145 : decode cX11_carried 145 = .ok (.istore_n 3, 1) := by decide +kernel
theorem dX11_carried_146 : decode cX11_carried 146 = .ok (.iinc 5 1, 3) := by decide +kernel
theorem dX11_carried_149 : decode cX11_carried 149 = .ok (.goto (-128), 3) := by decide +kernel
theorem dX11_carried_152 : decode cX11_carried 152 = .ok (.iinc 4 1, 3) := by decide +kernel
theorem dX11_carried_155 : decode cX11_carried 155 = .ok (.goto (-148), 3) := by decide +kernel
theorem dX11_carried_158 : decode cX11_carried 158 = .ok (.iload_n 3, 1) := by decide +kernel
theorem dX11_carried_159 : decode cX11_carried 159 = .ok (.ireturn, 1) := by decide +kernel
theorem dX11_two_0 : decode cX11_two 0 = .ok (.iload_n 1, 1) := by decide +kernel
theorem dX11_two_1 : decode cX11_two 1 = .ok (.i2l, 1) := by decide +kernel
theorem dX11_two_2 : decode cX11_two 2 = .ok (.lconst 0, 1) := by decide +kernel
theorem dX11_two_3 : decode cX11_two 3 = .ok (.iconst 1, 1) := by decide +kernel
theorem dX11_two_4 : decode cX11_two 4 = .ok (.aload_n 0, 1) := by decide +kernel
theorem dX11_two_5 : decode cX11_two 5 = .ok (.getfield 13, 3) := by decide +kernel
theorem dX11_two_8 : decode cX11_two 8 = .ok (.iconst 0, 1) := by decide +kernel
theorem dX11_two_9 : decode cX11_two 9 = .ok (.iaload, 1) := by decide +kernel
theorem dX11_two_10 : decode cX11_two 10 = .ok (.ishl, 1) := by decide +kernel
theorem dX11_two_11 : decode cX11_two 11 = .ok (.iconst 1, 1) := by decide +kernel
theorem dX11_two_12 : decode cX11_two 12 = .ok (.isub, 1) := by decide +kernel
theorem dX11_two_13 : decode cX11_two 13 = .ok (.i2l, 1) := by decide +kernel
theorem dX11_two_14 : decode cX11_two 14 = .ok (.invokestatic 79, 3) := by decide +kernel
theorem dX11_two_17 : decode cX11_two 17 = .ok (.ifCond .eq 25, 3) := by decide +kernel
theorem dX11_two_20 : decode cX11_two 20 = .ok (.iload_n 2, 1) := by decide +kernel
theorem dX11_two_21 : decode cX11_two 21 = .ok (.i2l, 1) := by decide +kernel
theorem dX11_two_22 : decode cX11_two 22 = .ok (.lconst 0, 1) := by decide +kernel
theorem dX11_two_23 : decode cX11_two 23 = .ok (.ldc2_w 180, 3) := by decide +kernel
theorem dX11_two_26 : decode cX11_two 26 = .ok (.invokestatic 79, 3) := by decide +kernel
theorem dX11_two_29 : decode cX11_two 29 = .ok (.ifCond .eq 13, 3) := by decide +kernel
theorem dX11_two_32 : decode cX11_two 32 = .ok (.iload_n 3, 1) := by decide +kernel
theorem dX11_two_33 : decode cX11_two 33 = .ok (.i2l, 1) := by decide +kernel
theorem dX11_two_34 : decode cX11_two 34 = .ok (.lconst 0, 1) := by decide +kernel
theorem dX11_two_35 : decode cX11_two 35 = .ok (.lconst 1, 1) := by decide +kernel
theorem dX11_two_36 : decode cX11_two 36 = .ok (.invokestatic 79, 3) := by decide +kernel
theorem dX11_two_39 : decode cX11_two 39 = .ok (.ifCond .ne 7, 3) := by decide +kernel
theorem dX11_two_42 : decode cX11_two 42 = .ok (.sipush (-10000), 3) := by decide +kernel
theorem dX11_two_45 : decode cX11_two 45 = .ok (.ireturn, 1) := by decide +kernel
theorem dX11_two_46 : decode cX11_two 46 = .ok (.aload_n 0, 1) := by decide +kernel
theorem dX11_two_47 : decode cX11_two 47 = .ok (.iload_n 1, 1) := by decide +kernel
theorem dX11_two_48 : decode cX11_two 48 = .ok (.invokevirtual 274, 3) := by decide +kernel
theorem dX11_two_51 : decode cX11_two 51 = .ok (.iconst 0, 1) := by decide +kernel
theorem dX11_two_52 : decode cX11_two 52 = .ok (.istore 4, 2) := by decide +kernel
theorem dX11_two_54 : decode cX11_two 54 = .ok (.iconst 1, 1) := by decide +kernel
theorem dX11_two_55 : decode cX11_two 55 = .ok (.istore 5, 2) := by decide +kernel
theorem dX11_two_57 : decode cX11_two 57 = .ok (.iload 5, 2) := by decide +kernel
theorem dX11_two_59 : decode cX11_two 59 = .ok (.bipush 10, 2) := by decide +kernel
theorem dX11_two_61 : decode cX11_two 61 = .ok (.if_icmp .gt 63, 3) := by decide +kernel
theorem dX11_two_64 : decode cX11_two 64 = .ok (.aload_n 0, 1) := by decide +kernel
theorem dX11_two_65 : decode cX11_two 65 = .ok (.iload 5, 2) := by decide +kernel
theorem dX11_two_67 : decode cX11_two 67 = .ok (.iload_n 2, 1) := by decide +kernel
theorem dX11_two_68 : decode cX11_two 68 = .ok (.invokevirtual 277, 3) := by decide +kernel
theorem dX11_two_71 : decode cX11_two 71 = .ok (.aload_n 0, 1) := by decide +kernel
theorem dX11_two_72 : decode cX11_two 72 = .ok (.iload 4, 2) := by decide +kernel
theorem dX11_two_74 : decode cX11_two 74 = .ok (.iload_n 2, 1) := by decide +kernel
theorem dX11_two_75 : decode cX11_two 75 = .ok (.invokevirtual 277, 3) := by decide +kernel
theorem dX11_two_78 : decode cX11_two 78 = .ok (.if_icmp .le 8, 3) := by decide +kernel
theorem dX11_two_81 : decode cX11_two 81 = .ok (.iload 5, 2) := by decide +kernel
theorem dX11_two_83 : decode cX11_two 83 = .ok (.goto 5, 3) := by decide +kernel
theorem dX11_two_86 : decode cX11_two 86 = .ok (.iload 4, 2) := by decide +kernel
theorem dX11_two_88 : decode cX11_two 88 = .ok (.istore 4, 2) := by decide +kernel
theorem dX11_two_90 : decode cX11_two 90 = .ok (.aload_n 0, 1) := by decide +kernel
theorem dX11_two_91 : decode cX11_two 91 = .ok (.iload 5, 2) := by decide +kernel
theorem dX11_two_93 : decode cX11_two 93 = .ok (.ineg, 1) := by decide +kernel
theorem dX11_two_94 : decode cX11_two 94 = .ok (.iload_n 2, 1) := by decide +kernel
theorem dX11_two_95 : decode cX11_two 95 = .ok (.invokevirtual 277, 3) := by decide +kernel
theorem dX11_two_98 : decode cX11_two 98 = .ok (.aload_n 0, 1) := by decide +kernel
theorem dX11_two_99 : decode cX11_two 99 = .ok (.iload 4, 2) := by decide +kernel
theorem dX11_two_101 : decode cX11_two 101 = .ok (.iload_n 2, 1) := by decide +kernel
theorem dX11_two_102 : decode cX11_two 102 = .ok (.invokevirtual 277, 3) := by decide +kernel
theorem dX11_two_105 : decode cX11_two 105 = .ok (.if_icmp .le 9, 3) := by decide +kernel
theorem dX11_two_108 : decode cX11_two 108 = .ok (.iload 5, 2) := by decide +kernel
theorem dX11_two_110 : decode cX11_two 110 = .ok (.ineg, 1) := by decide +kernel
theorem dX11_two_111 : decode cX11_two 111 = .ok (.goto 5, 3) := by decide +kernel
theorem dX11_two_114 : decode cX11_two 114 = .ok (.iload 4, 2) := by decide +kernel
theorem dX11_two_116 : decode cX11_two 116 = .ok (.istore 4, 2) := by decide +kernel
theorem dX11_two_118 : decode cX11_two 118 = .ok (.iinc 5 1, 3) := by decide +kernel
theorem dX11_two_121 : decode cX11_two 121 = .ok (.goto (-64), 3) := by decide +kernel
theorem dX11_two_124 : decode cX11_two 124 = .ok (.iload_n 3, 1) := by decide +kernel
theorem dX11_two_125 : decode cX11_two 125 = .ok (.ifCond .ne 13, 3) := by decide +kernel
theorem dX11_two_128 : decode cX11_two 128 = .ok (.aload_n 0, 1) := by decide +kernel
theorem dX11_two_129 : decode cX11_two 129 = .ok (.iload 4, 2) := by decide +kernel
theorem dX11_two_131 : decode cX11_two 131 = .ok (.iload_n 2, 1) := by decide +kernel
theorem dX11_two_132 : decode cX11_two 132 = .ok (.invokevirtual 277, 3) := by decide +kernel
theorem dX11_two_135 : decode cX11_two 135 = .ok (.goto 5, 3) := by decide +kernel
theorem dX11_two_138 : decode cX11_two 138 = .ok (.iload 4, 2) := by decide +kernel
theorem dX11_two_140 : decode cX11_two 140 = .ok (.ireturn, 1) := by decide +kernel
theorem dX11_copyLog_0 : decode cX11_copyLog 0 = .ok (.aload_n 0, 1) := by decide +kernel
theorem dX11_copyLog_1 : decode cX11_copyLog 1 = .ok (.getfield 28, 3) := by decide +kernel
theorem dX11_copyLog_4 : decode cX11_copyLog 4 = .ok (.iload_n 2, 1) := by decide +kernel
theorem dX11_copyLog_5 : decode cX11_copyLog 5 = .ok (.aload_n 0, 1) := by decide +kernel
theorem dX11_copyLog_6 : decode cX11_copyLog 6 = .ok (.getfield 28, 3) := by decide +kernel
theorem dX11_copyLog_9 : decode cX11_copyLog 9 = .ok (.iload_n 1, 1) := by decide +kernel
theorem dX11_copyLog_10 : decode cX11_copyLog 10 = .ok (.iaload, 1) := by decide +kernel
theorem dX11_copyLog_11 : decode cX11_copyLog 11 = .ok (.iastore, 1) := by decide +kernel
theorem dX11_copyLog_12 : decode cX11_copyLog 12 = .ok (.iconst 0, 1) := by decide +kernel
theorem dX11_copyLog_13 : decode cX11_copyLog 13 = .ok (.istore_n 3, 1) := by decide +kernel
theorem dX11_copyLog_14 : decode cX11_copyLog 14 = .ok (.iload_n 3, 1) := by decide +kernel
theorem dX11_copyLog_15 : decode cX11_copyLog 15 = .ok (.aload_n 0, 1) := by decide +kernel
theorem dX11_copyLog_16 : decode cX11_copyLog 16 = .ok (.getfield 28, 3) := by decide +kernel
theorem dX11_copyLog_19 : decode cX11_copyLog 19 = .ok (.iload_n 1, 1) := by decide +kernel
theorem dX11_copyLog_20 : decode cX11_copyLog 20 = .ok (.iaload, 1) := by decide +kernel
theorem dX11_copyLog_21 : decode cX11_copyLog 21 = .ok (.if_icmp .ge 105, 3) := by decide +kernel
theorem dX11_copyLog_24 : decode cX11_copyLog 24 = .ok (.aload_n 0, 1) := by decide +kernel
theorem dX11_copyLog_25 : decode cX11_copyLog 25 = .ok (.getfield 31, 3) := by decide +kernel
theorem dX11_copyLog_28 : decode cX11_copyLog 28 = .ok (.sipush 200, 3) := by decide +kernel
theorem dX11_copyLog_31 : decode cX11_copyLog 31 = .ok (.iload_n 2, 1) := by decide +kernel
theorem dX11_copyLog_32 : decode cX11_copyLog 32 = .ok (.imul, 1) := by decide +kernel
theorem dX11_copyLog_33 : decode cX11_copyLog 33 = .ok (.iload_n 3, 1) := by decide +kernel
theorem dX11_copyLog_34 : decode cX11_copyLog 34 = .ok (.iadd, 1) := by decide +kernel
theorem dX11_copyLog_35 : decode cX11_copyLog 35 = .ok (.aload_n 0, 1) := by decide +kernel
theorem dX11_copyLog_36 : decode cX11_copyLog 36 = .ok (.getfield 31, 3) := by decide +kernel
theorem dX11_copyLog_39 : decode cX11_copyLog 39 = .ok (.sipush 200, 3) := by decide +kernel
theorem dX11_copyLog_42 : decode cX11_copyLog 42 = .ok (.iload_n 1, 1) := by decide +kernel
theorem dX11_copyLog_43 : decode cX11_copyLog 43 = .ok (.imul, 1) := by decide +kernel
theorem dX11_copyLog_44 : decode cX11_copyLog 44 = .ok (.iload_n 3, 1) := by decide +kernel
theorem dX11_copyLog_45 : decode cX11_copyLog 45 = .ok (.iadd, 1) := by decide +kernel
theorem dX11_copyLog_46 : decode cX11_copyLog 46 = .ok (.iaload, 1) := by decide +kernel
theorem dX11_copyLog_47 : decode cX11_copyLog 47 = .ok (.iastore, 1) := by decide +kernel
theorem dX11_copyLog_48 : decode cX11_copyLog 48 = .ok (.aload_n 0, 1) := by decide +kernel
theorem dX11_copyLog_49 : decode cX11_copyLog 49 = .ok (.getfield 34, 3) := by decide +kernel
theorem dX11_copyLog_52 : decode cX11_copyLog 52 = .ok (.sipush 200, 3) := by decide +kernel
theorem dX11_copyLog_55 : decode cX11_copyLog 55 = .ok (.iload_n 2, 1) := by decide +kernel
theorem dX11_copyLog_56 : decode cX11_copyLog 56 = .ok (.imul, 1) := by decide +kernel
theorem dX11_copyLog_57 : decode cX11_copyLog 57 = .ok (.iload_n 3, 1) := by decide +kernel
theorem dX11_copyLog_58 : decode cX11_copyLog 58 = .ok (.iadd, 1) := by decide +kernel
theorem dX11_copyLog_59 : decode cX11_copyLog 59 = .ok (.aload_n 0, 1) := by decide +kernel
theorem dX11_copyLog_60 : decode cX11_copyLog 60 = .ok (.getfield 34, 3) := by decide +kernel
theorem dX11_copyLog_63 : decode cX11_copyLog 63 = .ok (.sipush 200, 3) := by decide +kernel
theorem dX11_copyLog_66 : decode cX11_copyLog 66 = .ok (.iload_n 1, 1) := by decide +kernel
theorem dX11_copyLog_67 : decode cX11_copyLog 67 = .ok (.imul, 1) := by decide +kernel
theorem dX11_copyLog_68 : decode cX11_copyLog 68 = .ok (.iload_n 3, 1) := by decide +kernel
theorem dX11_copyLog_69 : decode cX11_copyLog 69 = .ok (.iadd, 1) := by decide +kernel
theorem dX11_copyLog_70 : decode cX11_copyLog 70 = .ok (.iaload, 1) := by decide +kernel
theorem dX11_copyLog_71 : decode cX11_copyLog 71 = .ok (.iastore, 1) := by decide +kernel
theorem dX11_copyLog_72 : decode cX11_copyLog 72 = .ok (.aload_n 0, 1) := by decide +kernel
theorem dX11_copyLog_73 : decode cX11_copyLog 73 = .ok (.getfield 37, 3) := by decide +kernel
theorem dX11_copyLog_76 : decode cX11_copyLog 76 = .ok (.sipush 200, 3) := by decide +kernel
theorem dX11_copyLog_79 : decode cX11_copyLog 79 = .ok (.iload_n 2, 1) := by decide +kernel
theorem dX11_copyLog_80 : decode cX11_copyLog 80 = .ok (.imul, 1) := by decide +kernel
theorem dX11_copyLog_81 : decode cX11_copyLog 81 = .ok (.iload_n 3, 1) := by decide +kernel
theorem dX11_copyLog_82 : decode cX11_copyLog 82 = .ok (.iadd, 1) := by decide +kernel
theorem dX11_copyLog_83 : decode cX11_copyLog 83 = .ok (.aload_n 0, 1) := by decide +kernel
theorem dX11_copyLog_84 : decode cX11_copyLog 84 = .ok (.getfield 37, 3) := by decide +kernel
theorem dX11_copyLog_87 : decode cX11_copyLog 87 = .ok (.sipush 200, 3) := by decide +kernel
theorem dX11_copyLog_90 : decode cX11_copyLog 90 = .ok (.iload_n 1, 1) := by decide +kernel
theorem dX11_copyLog_91 : decode cX11_copyLog 91 = .ok (.imul, 1) := by decide +kernel
theorem dX11_copyLog_92 : decode cX11_copyLog 92 = .ok (.iload_n 3, 1) := by decide +kernel
theorem dX11_copyLog_93 : decode cX11_copyLog 93 = .ok (.iadd, 1) := by decide +kernel
theorem dX11_copyLog_94 : decode cX11_copyLog 94 = .ok (.iaload, 1) := by decide +kernel
theorem dX11_copyLog_95 : decode cX11_copyLog 95 = .ok (.iastore, 1) := by decide +kernel
theorem dX11_copyLog_96 : decode cX11_copyLog 96 = .ok (.aload_n 0, 1) := by decide +kernel
theorem dX11_copyLog_97 : decode cX11_copyLog 97 = .ok (.getfield 40, 3) := by decide +kernel
theorem dX11_copyLog_100 : decode cX11_copyLog 100 = .ok (.sipush 200, 3) := by decide +kernel
theorem dX11_copyLog_103 : decode cX11_copyLog 103 = .ok (.iload_n 2, 1) := by decide +kernel
theorem dX11_copyLog_104 : decode cX11_copyLog 104 = .ok (.imul, 1) := by decide +kernel
theorem dX11_copyLog_105 : decode cX11_copyLog 105 = .ok (.iload_n 3, 1) := by decide +kernel
theorem dX11_copyLog_106 : decode cX11_copyLog 106 = .ok (.iadd, 1) := by decide +kernel
theorem dX11_copyLog_107 : decode cX11_copyLog 107 = .ok (.aload_n 0, 1) := by decide +kernel
theorem dX11_copyLog_108 : decode cX11_copyLog 108 = .ok (.getfield 40, 3) := by decide +kernel
theorem dX11_copyLog_111 : decode cX11_copyLog 111 = .ok (.sipush 200, 3) := by decide +kernel
theorem dX11_copyLog_114 : decode cX11_copyLog 114 = .ok (.iload_n 1, 1) := by decide +kernel
theorem dX11_copyLog_115 : decode cX11_copyLog 115 = .ok (.imul, 1) := by decide +kernel
theorem dX11_copyLog_116 : decode cX11_copyLog 116 = .ok (.iload_n 3, 1) := by decide +kernel
theorem dX11_copyLog_117 : decode cX11_copyLog 117 = .ok (.iadd, 1) := by decide +kernel
theorem dX11_copyLog_118 : decode cX11_copyLog 118 = .ok (.iaload, 1) := by decide +kernel
theorem dX11_copyLog_119 : decode cX11_copyLog 119 = .ok (.iastore, 1) := by decide +kernel
theorem dX11_copyLog_120 : decode cX11_copyLog 120 = .ok (.iinc 3 1, 3) := by decide +kernel
theorem dX11_copyLog_123 : decode cX11_copyLog 123 = .ok (.goto (-109), 3) := by decide +kernel
theorem dX11_copyLog_126 : decode cX11_copyLog 126 = .ok (.return_, 1) := by decide +kernel
theorem dX11_keep_0 : decode cX11_keep 0 = .ok (.aload_n 0, 1) := by decide +kernel
theorem dX11_keep_1 : decode cX11_keep 1 = .ok (.getfield 124, 3) := by decide +kernel
theorem dX11_keep_4 : decode cX11_keep 4 = .ok (.iconst 2, 1) := by decide +kernel
theorem dX11_keep_5 : decode cX11_keep 5 = .ok (.if_icmp .ne 6, 3) := by decide +kernel
theorem dX11_keep_8 : decode cX11_keep 8 = .ok (.bipush (-3), 2) := by decide +kernel
theorem dX11_keep_10 : decode cX11_keep 10 = .ok (.ireturn, 1) := by decide +kernel
theorem dX11_keep_11 : decode cX11_keep 11 = .ok (.aload_n 0, 1) := by decide +kernel
theorem dX11_keep_12 : decode cX11_keep 12 = .ok (.dup, 1) := by decide +kernel
theorem dX11_keep_13 : decode cX11_keep 13 = .ok (.getfield 124, 3) := by decide +kernel
theorem dX11_keep_16 : decode cX11_keep 16 = .ok (.iconst 1, 1) := by decide +kernel
theorem dX11_keep_17 : decode cX11_keep 17 = .ok (.iadd, 1) := by decide +kernel
theorem dX11_keep_18 : decode cX11_keep 18 = .ok (.putfield 124, 3) := by decide +kernel
theorem dX11_keep_21 : decode cX11_keep 21 = .ok (.aload_n 0, 1) := by decide +kernel
theorem dX11_keep_22 : decode cX11_keep 22 = .ok (.iconst 0, 1) := by decide +kernel
theorem dX11_keep_23 : decode cX11_keep 23 = .ok (.aload_n 0, 1) := by decide +kernel
theorem dX11_keep_24 : decode cX11_keep 24 = .ok (.getfield 124, 3) := by decide +kernel
theorem dX11_keep_27 : decode cX11_keep 27 = .ok (.invokevirtual 280, 3) := by decide +kernel
theorem dX11_keep_30 : decode cX11_keep 30 = .ok (.iconst 0, 1) := by decide +kernel
theorem dX11_keep_31 : decode cX11_keep 31 = .ok (.istore_n 1, 1) := by decide +kernel
theorem dX11_keep_32 : decode cX11_keep 32 = .ok (.iload_n 1, 1) := by decide +kernel
theorem dX11_keep_33 : decode cX11_keep 33 = .ok (.bipush 20, 2) := by decide +kernel
theorem dX11_keep_35 : decode cX11_keep 35 = .ok (.if_icmp .ge 32, 3) := by decide +kernel
theorem dX11_keep_38 : decode cX11_keep 38 = .ok (.aload_n 0, 1) := by decide +kernel
theorem dX11_keep_39 : decode cX11_keep 39 = .ok (.getfield 43, 3) := by decide +kernel
theorem dX11_keep_42 : decode cX11_keep 42 = .ok (.bipush 20, 2) := by decide +kernel
theorem dX11_keep_44 : decode cX11_keep 44 = .ok (.aload_n 0, 1) := by decide +kernel
theorem dX11_keep_45 : decode cX11_keep 45 = .ok (.getfield 124, 3) := by decide +kernel
theorem dX11_keep_48 : decode cX11_keep 48 = .ok (.imul, 1) := by decide +kernel
theorem dX11_keep_49 : decode cX11_keep 49 = .ok (.bipush 20, 2) := by decide +kernel
theorem dX11_keep_51 : decode cX11_keep 51 = .ok (.isub, 1) := by decide +kernel
theorem dX11_keep_52 : decode cX11_keep 52 = .ok (.iload_n 1, 1) := by decide +kernel
theorem dX11_keep_53 : decode cX11_keep 53 = .ok (.iadd, 1) := by decide +kernel
theorem dX11_keep_54 : decode cX11_keep 54 = .ok (.aload_n 0, 1) := by decide +kernel
theorem dX11_keep_55 : decode cX11_keep 55 = .ok (.getfield 22, 3) := by decide +kernel
theorem dX11_keep_58 : decode cX11_keep 58 = .ok (.iload_n 1, 1) := by decide +kernel
theorem dX11_keep_59 : decode cX11_keep 59 = .ok (.iaload, 1) := by decide +kernel
theorem dX11_keep_60 : decode cX11_keep 60 = .ok (.iastore, 1) := by decide +kernel
theorem dX11_keep_61 : decode cX11_keep 61 = .ok (.iinc 1 1, 3) := by decide +kernel
theorem dX11_keep_64 : decode cX11_keep 64 = .ok (.goto (-32), 3) := by decide +kernel
theorem dX11_keep_67 : decode cX11_keep 67 = .ok (.aload_n 0, 1) := by decide +kernel
theorem dX11_keep_68 : decode cX11_keep 68 = .ok (.getfield 124, 3) := by decide +kernel
theorem dX11_keep_71 : decode cX11_keep 71 = .ok (.ireturn, 1) := by decide +kernel
theorem dX11_back_0 : decode cX11_back 0 = .ok (.aload_n 0, 1) := by decide +kernel
theorem dX11_back_1 : decode cX11_back 1 = .ok (.getfield 124, 3) := by decide +kernel
theorem dX11_back_4 : decode cX11_back 4 = .ok (.ifCond .ne 6, 3) := by decide +kernel
theorem dX11_back_7 : decode cX11_back 7 = .ok (.bipush (-2), 2) := by decide +kernel
theorem dX11_back_9 : decode cX11_back 9 = .ok (.ireturn, 1) := by decide +kernel
theorem dX11_back_10 : decode cX11_back 10 = .ok (.aload_n 0, 1) := by decide +kernel
theorem dX11_back_11 : decode cX11_back 11 = .ok (.aload_n 0, 1) := by decide +kernel
theorem dX11_back_12 : decode cX11_back 12 = .ok (.getfield 124, 3) := by decide +kernel
theorem dX11_back_15 : decode cX11_back 15 = .ok (.iconst 0, 1) := by decide +kernel
theorem dX11_back_16 : decode cX11_back 16 = .ok (.invokevirtual 280, 3) := by decide +kernel
theorem dX11_back_19 : decode cX11_back 19 = .ok (.iconst 0, 1) := by decide +kernel
theorem dX11_back_20 : decode cX11_back 20 = .ok (.istore_n 1, 1) := by decide +kernel
theorem dX11_back_21 : decode cX11_back 21 = .ok (.iload_n 1, 1) := by decide +kernel
theorem dX11_back_22 : decode cX11_back 22 = .ok (.bipush 20, 2) := by decide +kernel
theorem dX11_back_24 : decode cX11_back 24 = .ok (.if_icmp .ge 32, 3) := by decide +kernel
theorem dX11_back_27 : decode cX11_back 27 = .ok (.aload_n 0, 1) := by decide +kernel
theorem dX11_back_28 : decode cX11_back 28 = .ok (.getfield 22, 3) := by decide +kernel
theorem dX11_back_31 : decode cX11_back 31 = .ok (.iload_n 1, 1) := by decide +kernel
theorem dX11_back_32 : decode cX11_back 32 = .ok (.aload_n 0, 1) := by decide +kernel
theorem dX11_back_33 : decode cX11_back 33 = .ok (.getfield 43, 3) := by decide +kernel
theorem dX11_back_36 : decode cX11_back 36 = .ok (.bipush 20, 2) := by decide +kernel
theorem dX11_back_38 : decode cX11_back 38 = .ok (.aload_n 0, 1) := by decide +kernel
theorem dX11_back_39 : decode cX11_back 39 = .ok (.getfield 124, 3) := by decide +kernel
theorem dX11_back_42 : decode cX11_back 42 = .ok (.imul, 1) := by decide +kernel
theorem dX11_back_43 : decode cX11_back 43 = .ok (.bipush 20, 2) := by decide +kernel
theorem dX11_back_45 : decode cX11_back 45 = .ok (.isub, 1) := by decide +kernel
theorem dX11_back_46 : decode cX11_back 46 = .ok (.iload_n 1, 1) := by decide +kernel
theorem dX11_back_47 : decode cX11_back 47 = .ok (.iadd, 1) := by decide +kernel
theorem dX11_back_48 : decode cX11_back 48 = .ok (.iaload, 1) := by decide +kernel
theorem dX11_back_49 : decode cX11_back 49 = .ok (.iastore, 1) := by decide +kernel
theorem dX11_back_50 : decode cX11_back 50 = .ok (.iinc 1 1, 3) := by decide +kernel
theorem dX11_back_53 : decode cX11_back 53 = .ok (.goto (-32), 3) := by decide +kernel
theorem dX11_back_56 : decode cX11_back 56 = .ok (.aload_n 0, 1) := by decide +kernel
theorem dX11_back_57 : decode cX11_back 57 = .ok (.dup, 1) := by decide +kernel
theorem dX11_back_58 : decode cX11_back 58 = .ok (.getfield 124, 3) := by decide +kernel
theorem dX11_back_61 : decode cX11_back 61 = .ok (.iconst 1, 1) := by decide +kernel
theorem dX11_back_62 : decode cX11_back 62 = .ok (.isub, 1) := by decide +kernel
theorem dX11_back_63 : decode cX11_back 63 = .ok (.putfield 124, 3) := by decide +kernel
theorem dX11_back_66 : decode cX11_back 66 = .ok (.aload_n 0, 1) := by decide +kernel
theorem dX11_back_67 : decode cX11_back 67 = .ok (.getfield 124, 3) := by decide +kernel
theorem dX11_back_70 : decode cX11_back 70 = .ok (.ireturn, 1) := by decide +kernel
theorem dX11_count_0 : decode cX11_count 0 = .ok (.iload_n 1, 1) := by decide +kernel
theorem dX11_count_1 : decode cX11_count 1 = .ok (.tableswitch 86 0 6 #[43, 50, 56, 62, 67, 74, 79], 43) := by decide +kernel
theorem dX11_count_44 : decode cX11_count 44 = .ok (.aload_n 0, 1) := by decide +kernel
theorem dX11_count_45 : decode cX11_count 45 = .ok (.getfield 13, 3) := by decide +kernel
theorem dX11_count_48 : decode cX11_count 48 = .ok (.iconst 0, 1) := by decide +kernel
theorem dX11_count_49 : decode cX11_count 49 = .ok (.iaload, 1) := by decide +kernel
theorem dX11_count_50 : decode cX11_count 50 = .ok (.ireturn, 1) := by decide +kernel
theorem dX11_count_51 : decode cX11_count 51 = .ok (.aload_n 0, 1) := by decide +kernel
theorem dX11_count_52 : decode cX11_count 52 = .ok (.iconst 0, 1) := by decide +kernel
theorem dX11_count_53 : decode cX11_count 53 = .ok (.invokevirtual 169, 3) := by decide +kernel
theorem dX11_count_56 : decode cX11_count 56 = .ok (.ireturn, 1) := by decide +kernel
theorem dX11_count_57 : decode cX11_count 57 = .ok (.aload_n 0, 1) := by decide +kernel
theorem dX11_count_58 : decode cX11_count 58 = .ok (.iconst 1, 1) := by decide +kernel
theorem dX11_count_59 : decode cX11_count 59 = .ok (.invokevirtual 169, 3) := by decide +kernel
theorem dX11_count_62 : decode cX11_count 62 = .ok (.ireturn, 1) := by decide +kernel
theorem dX11_count_63 : decode cX11_count 63 = .ok (.aload_n 0, 1) := by decide +kernel
theorem dX11_count_64 : decode cX11_count 64 = .ok (.getfield 83, 3) := by decide +kernel
theorem dX11_count_67 : decode cX11_count 67 = .ok (.ireturn, 1) := by decide +kernel
theorem dX11_count_68 : decode cX11_count 68 = .ok (.aload_n 0, 1) := by decide +kernel
theorem dX11_count_69 : decode cX11_count 69 = .ok (.getfield 28, 3) := by decide +kernel
theorem dX11_count_72 : decode cX11_count 72 = .ok (.iconst 0, 1) := by decide +kernel
theorem dX11_count_73 : decode cX11_count 73 = .ok (.iaload, 1) := by decide +kernel
theorem dX11_count_74 : decode cX11_count 74 = .ok (.ireturn, 1) := by decide +kernel
theorem dX11_count_75 : decode cX11_count 75 = .ok (.aload_n 0, 1) := by decide +kernel
theorem dX11_count_76 : decode cX11_count 76 = .ok (.getfield 124, 3) := by decide +kernel
theorem dX11_count_79 : decode cX11_count 79 = .ok (.ireturn, 1) := by decide +kernel
theorem dX11_count_80 : decode cX11_count 80 = .ok (.aload_n 0, 1) := by decide +kernel
theorem dX11_count_81 : decode cX11_count 81 = .ok (.getfield 25, 3) := by decide +kernel
theorem dX11_count_84 : decode cX11_count 84 = .ok (.iconst 0, 1) := by decide +kernel
theorem dX11_count_85 : decode cX11_count 85 = .ok (.iaload, 1) := by decide +kernel
theorem dX11_count_86 : decode cX11_count 86 = .ok (.ireturn, 1) := by decide +kernel
theorem dX11_count_87 : decode cX11_count 87 = .ok (.iconst (-1), 1) := by decide +kernel
theorem dX11_count_88 : decode cX11_count 88 = .ok (.ireturn, 1) := by decide +kernel
