theorem dX10_init_0 : decode cX10_init 0 = .ok (.aload_n 0, 1) := by decide +kernel
theorem dX10_init_1 : decode cX10_init 1 = .ok (.invokespecial 1, 3) := by decide +kernel
theorem dX10_init_4 : decode cX10_init 4 = .ok (.aload_n 0, 1) := by decide +kernel
theorem dX10_init_5 : decode cX10_init 5 = .ok (.new 7, 3) := by decide +kernel
theorem dX10_init_8 : decode cX10_init 8 = .ok (.dup, 1) := by decide +kernel
theorem dX10_init_9 : decode cX10_init 9 = .ok (.invokespecial 9, 3) := by decide +kernel
theorem dX10_init_12 : decode cX10_init 12 = .ok (.putfield 10, 3) := by decide +kernel
theorem dX10_init_15 : decode cX10_init 15 = .ok (.aload_n 0, 1) := by decide +kernel
theorem dX10_init_16 : decode cX10_init 16 = .ok (.new 16, 3) := by decide +kernel
theorem dX10_init_19 : decode cX10_init 19 = .ok (.dup, 1) := by decide +kernel
theorem dX10_init_20 : decode cX10_init 20 = .ok (.invokespecial 18, 3) := by decide +kernel
theorem dX10_init_23 : decode cX10_init 23 = .ok (.putfield 19, 3) := by decide +kernel
theorem dX10_init_26 : decode cX10_init 26 = .ok (.aload_n 0, 1) := by decide +kernel
theorem dX10_init_27 : decode cX10_init 27 = .ok (.new 23, 3) := by decide +kernel
theorem dX10_init_30 : decode cX10_init 30 = .ok (.dup, 1) := by decide +kernel
theorem dX10_init_31 : decode cX10_init 31 = .ok (.invokespecial 25, 3) := by decide +kernel
theorem dX10_init_34 : decode cX10_init 34 = .ok (.putfield 26, 3) := by decide +kernel
theorem dX10_init_37 : decode cX10_init 37 = .ok (.aload_n 0, 1) := by decide +kernel
theorem dX10_init_38 : decode cX10_init 38 = .ok (.new 23, 3) := by decide +kernel
theorem dX10_init_41 : decode cX10_init 41 = .ok (.dup, 1) := by decide +kernel
theorem dX10_init_42 : decode cX10_init 42 = .ok (.invokespecial 25, 3) := by decide +kernel
theorem dX10_init_45 : decode cX10_init 45 = .ok (.putfield 30, 3) := by decide +kernel
theorem dX10_init_48 : decode cX10_init 48 = .ok (.aload_n 0, 1) := by decide +kernel
theorem dX10_init_49 : decode cX10_init 49 = .ok (.new 33, 3) := by decide +kernel
theorem dX10_init_52 : decode cX10_init 52 = .ok (.dup, 1) := by decide +kernel
theorem dX10_init_53 : decode cX10_init 53 = .ok (.invokespecial 35, 3) := by decide +kernel
theorem dX10_init_56 : decode cX10_init 56 = .ok (.putfield 36, 3) := by decide +kernel
theorem dX10_init_59 : decode cX10_init 59 = .ok (.aload_n 0, 1) := by decide +kernel
theorem dX10_init_60 : decode cX10_init 60 = .ok (.iconst 2, 1) := by decide +kernel
theorem dX10_init_61 : decode cX10_init 61 = .ok (.anewarray 40, 3) := by decide +kernel
theorem dX10_init_64 : decode cX10_init 64 = .ok (.putfield 42, 3) := by decide +kernel
theorem dX10_init_67 : decode cX10_init 67 = .ok (.aload_n 0, 1) := by decide +kernel
theorem dX10_init_68 : decode cX10_init 68 = .ok (.iconst 0, 1) := by decide +kernel
theorem dX10_init_69 : decode cX10_init 69 = .ok (.putfield 46, 3) := by decide +kernel
theorem dX10_init_72 : decode cX10_init 72 = .ok (.aload_n 0, 1) := by decide +kernel
theorem dX10_init_73 : decode cX10_init 73 = .ok (.new 50, 3) := by decide +kernel
theorem dX10_init_76 : decode cX10_init 76 = .ok (.dup, 1) := by decide +kernel
theorem dX10_init_77 : decode cX10_init 77 = .ok (.invokespecial 52, 3) := by decide +kernel
theorem dX10_init_80 : decode cX10_init 80 = .ok (.putfield 53, 3) := by decide +kernel
theorem dX10_init_83 : decode cX10_init 83 = .ok (.aload_n 0, 1) := by decide +kernel
theorem dX10_init_84 : decode cX10_init 84 = .ok (.new 50, 3) := by decide +kernel
theorem dX10_init_87 : decode cX10_init 87 = .ok (.dup, 1) := by decide +kernel
theorem dX10_init_88 : decode cX10_init 88 = .ok (.invokespecial 52, 3) := by decide +kernel
theorem dX10_init_91 : decode cX10_init 91 = .ok (.putfield 57, 3) := by decide +kernel
theorem dX10_init_94 : decode cX10_init 94 = .ok (.aload_n 0, 1) := by decide +kernel
theorem dX10_init_95 : decode cX10_init 95 = .ok (.new 60, 3) := by decide +kernel
theorem dX10_init_98 : decode cX10_init 98 = .ok (.dup, 1) := by decide +kernel
theorem dX10_init_99 : decode cX10_init 99 = .ok (.invokespecial 62, 3) := by decide +kernel
theorem dX10_init_102 : decode cX10_init 102 = .ok (.putfield 63, 3) := by decide +kernel
theorem dX10_init_105 : decode cX10_init 105 = .ok (.aload_n 0, 1) := by decide +kernel
theorem dX10_init_106 : decode cX10_init 106 = .ok (.new 67, 3) := by decide +kernel
theorem dX10_init_109 : decode cX10_init 109 = .ok (.dup, 1) := by decide +kernel
theorem dX10_init_110 : decode cX10_init 110 = .ok (.invokespecial 69, 3) := by decide +kernel
theorem dX10_init_113 : decode cX10_init 113 = .ok (.putfield 70, 3) := by decide +kernel
theorem dX10_init_116 : decode cX10_init 116 = .ok (.aload_n 0, 1) := by decide +kernel
theorem dX10_init_117 : decode cX10_init 117 = .ok (.iconst 4, 1) := by decide +kernel
theorem dX10_init_118 : decode cX10_init 118 = .ok (.iconst 3, 1) := by decide +kernel
theorem dX10_init_119 : decode cX10_init 119 = .ok (.multianewarray 74 2, 4) := by decide +kernel
theorem dX10_init_123 : decode cX10_init 123 = .ok (.putfield 76, 3) := by decide +kernel
theorem dX10_init_126 : decode cX10_init 126 = .ok (.iconst 0, 1) := by decide +kernel
theorem dX10_init_127 : decode cX10_init 127 = .ok (.istore_n 1, 1) := by decide +kernel
theorem dX10_init_128 : decode cX10_init 128 = .ok (.iload_n 1, 1) := by decide +kernel
theorem dX10_init_129 : decode cX10_init 129 = .ok (.iconst 2, 1) := by decide +kernel
theorem dX10_init_130 : decode cX10_init 130 = .ok (.if_icmp .ge 22, 3) := by decide +kernel
theorem dX10_init_133 : decode cX10_init 133 = .ok (.aload_n 0, 1) := by decide +kernel
theorem dX10_init_134 : decode cX10_init 134 = .ok (.getfield 42, 3) := by decide +kernel
theorem dX10_init_137 : decode cX10_init 137 = .ok (.iload_n 1, 1) := by decide +kernel
theorem dX10_init_138 : decode cX10_init 138 = .ok (.new 40, 3) := by decide +kernel
theorem dX10_init_141 : decode cX10_init 141 = .ok (.dup, 1) := by decide +kernel
theorem dX10_init_142 : decode cX10_init 142 = .ok (.invokespecial 79, 3) := by decide +kernel
theorem dX10_init_145 : decode cX10_init 145 = .ok (.aastore, 1) := by decide +kernel
theorem dX10_init_146 : decode cX10_init 146 = .ok (.iinc 1 1, 3) := by decide +kernel
theorem dX10_init_149 : decode cX10_init 149 = .ok (.goto (-21), 3) := by decide +kernel
theorem dX10_init_152 : decode cX10_init 152 = .ok (.aload_n 0, 1) := by decide +kernel
theorem dX10_init_153 : decode cX10_init 153 = .ok (.getfield 26, 3) := by decide +kernel
theorem dX10_init_156 : decode cX10_init 156 = .ok (.iconst 0, 1) := by decide +kernel
theorem dX10_init_157 : decode cX10_init 157 = .ok (.bipush 9, 2) := by decide +kernel
theorem dX10_init_159 : decode cX10_init 159 = .ok (.iconst 0, 1) := by decide +kernel
theorem dX10_init_160 : decode cX10_init 160 = .ok (.invokevirtual 80, 3) := by decide +kernel
theorem dX10_init_163 : decode cX10_init 163 = .ok (.pop, 1) := by decide +kernel
theorem dX10_init_164 : decode cX10_init 164 = .ok (.aload_n 0, 1) := by decide +kernel
theorem dX10_init_165 : decode cX10_init 165 = .ok (.getfield 26, 3) := by decide +kernel
theorem dX10_init_168 : decode cX10_init 168 = .ok (.iconst 1, 1) := by decide +kernel
theorem dX10_init_169 : decode cX10_init 169 = .ok (.iconst 1, 1) := by decide +kernel
theorem dX10_init_170 : decode cX10_init 170 = .ok (.iconst 0, 1) := by decide +kernel
theorem dX10_init_171 : decode cX10_init 171 = .ok (.invokevirtual 80, 3) := by decide +kernel
theorem dX10_init_174 : decode cX10_init 174 = .ok (.pop, 1) := by decide +kernel
theorem dX10_init_175 : decode cX10_init 175 = .ok (.return_, 1) := by decide +kernel
theorem dX10_write_0 : decode cX10_write 0 = .ok (.iload_n 1, 1) := by decide +kernel
theorem dX10_write_1 : decode cX10_write 1 = .ok (.iconst 1, 1) := by decide +kernel
theorem dX10_write_2 : decode cX10_write 2 = .ok (.bipush 8, 2) := by decide +kernel
theorem dX10_write_4 : decode cX10_write 4 = .ok (.invokestatic 84, 3) := by decide +kernel
theorem dX10_write_7 : decode cX10_write 7 = .ok (.ifCond .ne 5, 3) := by decide +kernel
theorem dX10_write_10 : decode cX10_write 10 = .ok (.iconst (-1), 1) := by decide +kernel
theorem dX10_write_11 : decode cX10_write 11 = .ok (.ireturn, 1) := by decide +kernel
theorem dX10_write_12 : decode cX10_write 12 = .ok (.aload_n 0, 1) := by decide +kernel
theorem dX10_write_13 : decode cX10_write 13 = .ok (.getfield 10, 3) := by decide +kernel
theorem dX10_write_16 : decode cX10_write 16 = .ok (.getfield 88, 3) := by decide +kernel
theorem dX10_write_19 : decode cX10_write 19 = .ok (.iload_n 1, 1) := by decide +kernel
theorem dX10_write_20 : decode cX10_write 20 = .ok (.iadd, 1) := by decide +kernel
theorem dX10_write_21 : decode cX10_write 21 = .ok (.sipush 300, 3) := by decide +kernel
theorem dX10_write_24 : decode cX10_write 24 = .ok (.if_icmp .le 6, 3) := by decide +kernel
theorem dX10_write_27 : decode cX10_write 27 = .ok (.bipush (-3), 2) := by decide +kernel
theorem dX10_write_29 : decode cX10_write 29 = .ok (.ireturn, 1) := by decide +kernel
theorem dX10_write_30 : decode cX10_write 30 = .ok (.iload_n 1, 1) := by decide +kernel
theorem dX10_write_31 : decode cX10_write 31 = .ok (.iconst 1, 1) := by decide +kernel
theorem dX10_write_32 : decode cX10_write 32 = .ok (.isub, 1) := by decide +kernel
theorem dX10_write_33 : decode cX10_write 33 = .ok (.istore 4, 2) := by decide +kernel
theorem dX10_write_35 : decode cX10_write 35 = .ok (.iload 4, 2) := by decide +kernel
theorem dX10_write_37 : decode cX10_write 37 = .ok (.ifCond .lt 28, 3) := by decide +kernel
theorem dX10_write_40 : decode cX10_write 40 = .ok (.aload_n 0, 1) := by decide +kernel
theorem dX10_write_41 : decode cX10_write 41 = .ok (.getfield 10, 3) := by decide +kernel
theorem dX10_write_44 : decode cX10_write 44 = .ok (.lload_n 2, 1) := by decide +kernel
theorem dX10_write_45 : decode cX10_write 45 = .ok (.bipush 8, 2) := by decide +kernel
theorem dX10_write_47 : decode cX10_write 47 = .ok (.iload 4, 2) := by decide +kernel
theorem dX10_write_49 : decode cX10_write 49 = .ok (.imul, 1) := by decide +kernel
theorem dX10_write_50 : decode cX10_write 50 = .ok (.lushr, 1) := by decide +kernel
theorem dX10_write_51 : decode cX10_write 51 = .ok (.l2i, 1) := by decide +kernel
theorem dX10_write_52 : decode cX10_write 52 = .ok (.sipush 255, 3) := by decide +kernel
theorem dX10_write_55 : decode cX10_write 55 = .ok (.iand, 1) := by decide +kernel
theorem dX10_write_56 : decode cX10_write 56 = .ok (.invokevirtual 91, 3) := by decide +kernel
theorem dX10_write_59 : decode cX10_write 59 = .ok (.iinc 4 (-1), 3) := by decide +kernel
theorem dX10_write_62 : decode cX10_write 62 = .ok (.goto (-27), 3) := by decide +kernel
theorem dX10_write_65 : decode cX10_write 65 = .ok (.aload_n 0, 1) := by decide +kernel
theorem dX10_write_66 : decode cX10_write 66 = .ok (.getfield 10, 3) := by decide +kernel
theorem dX10_write_69 : decode cX10_write 69 = .ok (.getfield 88, 3) := by decide +kernel
theorem dX10_write_72 : decode cX10_write 72 = .ok (.ireturn, 1) := by decide +kernel
theorem dX10_wipe_0 : decode cX10_wipe 0 = .ok (.aload_n 0, 1) := by decide +kernel
theorem dX10_wipe_1 : decode cX10_wipe 1 = .ok (.getfield 10, 3) := by decide +kernel
theorem dX10_wipe_4 : decode cX10_wipe 4 = .ok (.getfield 88, 3) := by decide +kernel
theorem dX10_wipe_7 : decode cX10_wipe 7 = .ok (.istore_n 1, 1) := by decide +kernel
theorem dX10_wipe_8 : decode cX10_wipe 8 = .ok (.aload_n 0, 1) := by decide +kernel
theorem dX10_wipe_9 : decode cX10_wipe 9 = .ok (.getfield 10, 3) := by decide +kernel
theorem dX10_wipe_12 : decode cX10_wipe 12 = .ok (.iconst 0, 1) := by decide +kernel
theorem dX10_wipe_13 : decode cX10_wipe 13 = .ok (.putfield 88, 3) := by decide +kernel
theorem dX10_wipe_16 : decode cX10_wipe 16 = .ok (.iload_n 1, 1) := by decide +kernel
theorem dX10_wipe_17 : decode cX10_wipe 17 = .ok (.ireturn, 1) := by decide +kernel
theorem dX10_fault_0 : decode cX10_fault 0 = .ok (.aload_n 0, 1) := by decide +kernel
theorem dX10_fault_1 : decode cX10_fault 1 = .ok (.getfield 19, 3) := by decide +kernel
theorem dX10_fault_4 : decode cX10_fault 4 = .ok (.aload_n 0, 1) := by decide +kernel
theorem dX10_fault_5 : decode cX10_fault 5 = .ok (.getfield 10, 3) := by decide +kernel
theorem dX10_fault_8 : decode cX10_fault 8 = .ok (.aload_n 0, 1) := by decide +kernel
theorem dX10_fault_9 : decode cX10_fault 9 = .ok (.getfield 30, 3) := by decide +kernel
theorem dX10_fault_12 : decode cX10_fault 12 = .ok (.invokevirtual 95, 3) := by decide +kernel
theorem dX10_fault_15 : decode cX10_fault 15 = .ok (.ireturn, 1) := by decide +kernel
theorem dX10_lay_0 : decode cX10_lay 0 = .ok (.aload_n 0, 1) := by decide +kernel
theorem dX10_lay_1 : decode cX10_lay 1 = .ok (.getfield 19, 3) := by decide +kernel
theorem dX10_lay_4 : decode cX10_lay 4 = .ok (.aload_n 0, 1) := by decide +kernel
theorem dX10_lay_5 : decode cX10_lay 5 = .ok (.getfield 10, 3) := by decide +kernel
theorem dX10_lay_8 : decode cX10_lay 8 = .ok (.aload_n 0, 1) := by decide +kernel
theorem dX10_lay_9 : decode cX10_lay 9 = .ok (.getfield 30, 3) := by decide +kernel
theorem dX10_lay_12 : decode cX10_lay 12 = .ok (.invokevirtual 95, 3) := by decide +kernel
theorem dX10_lay_15 : decode cX10_lay 15 = .ok (.bipush (-4), 2) := by decide +kernel
theorem dX10_lay_17 : decode cX10_lay 17 = .ok (.if_icmp .ne 23, 3) := by decide +kernel
theorem dX10_lay_20 : decode cX10_lay 20 = .ok (.aload_n 0, 1) := by decide +kernel
theorem dX10_lay_21 : decode cX10_lay 21 = .ok (.getfield 30, 3) := by decide +kernel
theorem dX10_lay_24 : decode cX10_lay 24 = .ok (.getfield 99, 3) := by decide +kernel
theorem dX10_lay_27 : decode cX10_lay 27 = .ok (.ifCond .eq 13, 3) := by decide +kernel
theorem dX10_lay_30 : decode cX10_lay 30 = .ok (.aload_n 0, 1) := by decide +kernel
theorem dX10_lay_31 : decode cX10_lay 31 = .ok (.getfield 30, 3) := by decide +kernel
theorem dX10_lay_34 : decode cX10_lay 34 = .ok (.getfield 102, 3) := by decide +kernel
theorem dX10_lay_37 : decode cX10_lay 37 = .ok (.ifCond .ne 6, 3) := by decide +kernel
theorem dX10_lay_40 : decode cX10_lay 40 = .ok (.bipush (-2), 2) := by decide +kernel
theorem dX10_lay_42 : decode cX10_lay 42 = .ok (.ireturn, 1) := by decide +kernel
theorem dX10_lay_43 : decode cX10_lay 43 = .ok (.aload_n 0, 1) := by decide +kernel
theorem dX10_lay_44 : decode cX10_lay 44 = .ok (.getfield 30, 3) := by decide +kernel
theorem dX10_lay_47 : decode cX10_lay 47 = .ok (.astore_n 1, 1) := by decide +kernel
theorem dX10_lay_48 : decode cX10_lay 48 = .ok (.aload_n 0, 1) := by decide +kernel
theorem dX10_lay_49 : decode cX10_lay 49 = .ok (.aload_n 0, 1) := by decide +kernel
theorem dX10_lay_50 : decode cX10_lay 50 = .ok (.getfield 26, 3) := by decide +kernel
theorem dX10_lay_53 : decode cX10_lay 53 = .ok (.putfield 30, 3) := by decide +kernel
theorem dX10_lay_56 : decode cX10_lay 56 = .ok (.aload_n 0, 1) := by decide +kernel
theorem dX10_lay_57 : decode cX10_lay 57 = .ok (.aload_n 1, 1) := by decide +kernel
theorem dX10_lay_58 : decode cX10_lay 58 = .ok (.putfield 26, 3) := by decide +kernel
theorem dX10_lay_61 : decode cX10_lay 61 = .ok (.aload_n 0, 1) := by decide +kernel
theorem dX10_lay_62 : decode cX10_lay 62 = .ok (.getfield 36, 3) := by decide +kernel
theorem dX10_lay_65 : decode cX10_lay 65 = .ok (.iconst 0, 1) := by decide +kernel
theorem dX10_lay_66 : decode cX10_lay 66 = .ok (.putfield 105, 3) := by decide +kernel
theorem dX10_lay_69 : decode cX10_lay 69 = .ok (.aload_n 0, 1) := by decide +kernel
theorem dX10_lay_70 : decode cX10_lay 70 = .ok (.iconst 0, 1) := by decide +kernel
theorem dX10_lay_71 : decode cX10_lay 71 = .ok (.putfield 46, 3) := by decide +kernel
theorem dX10_lay_74 : decode cX10_lay 74 = .ok (.aload_n 0, 1) := by decide +kernel
theorem dX10_lay_75 : decode cX10_lay 75 = .ok (.getfield 26, 3) := by decide +kernel
theorem dX10_lay_78 : decode cX10_lay 78 = .ok (.getfield 106, 3) := by decide +kernel
theorem dX10_lay_81 : decode cX10_lay 81 = .ok (.ireturn, 1) := by decide +kernel
theorem dX10_person_0 : decode cX10_person 0 = .ok (.aload_n 0, 1) := by decide +kernel
theorem dX10_person_1 : decode cX10_person 1 = .ok (.getfield 26, 3) := by decide +kernel
theorem dX10_person_4 : decode cX10_person 4 = .ok (.iload_n 1, 1) := by decide +kernel
theorem dX10_person_5 : decode cX10_person 5 = .ok (.invokevirtual 109, 3) := by decide +kernel
theorem dX10_person_8 : decode cX10_person 8 = .ok (.ifCond .eq 12, 3) := by decide +kernel
theorem dX10_person_11 : decode cX10_person 11 = .ok (.iload_n 2, 1) := by decide +kernel
theorem dX10_person_12 : decode cX10_person 12 = .ok (.iconst 0, 1) := by decide +kernel
theorem dX10_person_13 : decode cX10_person 13 = .ok (.iconst 2, 1) := by decide +kernel
theorem dX10_person_14 : decode cX10_person 14 = .ok (.invokestatic 84, 3) := by decide +kernel
theorem dX10_person_17 : decode cX10_person 17 = .ok (.ifCond .ne 5, 3) := by decide +kernel
theorem dX10_person_20 : decode cX10_person 20 = .ok (.iconst (-1), 1) := by decide +kernel
theorem dX10_person_21 : decode cX10_person 21 = .ok (.ireturn, 1) := by decide +kernel
theorem dX10_person_22 : decode cX10_person 22 = .ok (.iload_n 2, 1) := by decide +kernel
theorem dX10_person_23 : decode cX10_person 23 = .ok (.ifCond .ne 21, 3) := by decide +kernel
theorem dX10_person_26 : decode cX10_person 26 = .ok (.aload_n 0, 1) := by decide +kernel
theorem dX10_person_27 : decode cX10_person 27 = .ok (.getfield 26, 3) := by decide +kernel
theorem dX10_person_30 : decode cX10_person 30 = .ok (.getfield 113, 3) := by decide +kernel
theorem dX10_person_33 : decode cX10_person 33 = .ok (.iload_n 1, 1) := by decide +kernel
theorem dX10_person_34 : decode cX10_person 34 = .ok (.baload, 1) := by decide +kernel
theorem dX10_person_35 : decode cX10_person 35 = .ok (.ifCond .eq 7, 3) := by decide +kernel
theorem dX10_person_38 : decode cX10_person 38 = .ok (.iconst 1, 1) := by decide +kernel
theorem dX10_person_39 : decode cX10_person 39 = .ok (.goto 4, 3) := by decide +kernel
theorem dX10_person_42 : decode cX10_person 42 = .ok (.iconst 0, 1) := by decide +kernel
theorem dX10_person_43 : decode cX10_person 43 = .ok (.ireturn, 1) := by decide +kernel
theorem dX10_person_44 : decode cX10_person 44 = .ok (.iload_n 2, 1) := by decide +kernel
theorem dX10_person_45 : decode cX10_person 45 = .ok (.iconst 1, 1) := by decide +kernel
theorem dX10_person_46 : decode cX10_person 46 = .ok (.if_icmp .ne 15, 3) := by decide +kernel
theorem dX10_person_49 : decode cX10_person 49 = .ok (.aload_n 0, 1) := by decide +kernel
theorem dX10_person_50 : decode cX10_person 50 = .ok (.getfield 26, 3) := by decide +kernel
theorem dX10_person_53 : decode cX10_person 53 = .ok (.getfield 117, 3) := by decide +kernel
theorem dX10_person_56 : decode cX10_person 56 = .ok (.iload_n 1, 1) := by decide +kernel
theorem dX10_person_57 : decode cX10_person 57 = .ok (.iaload, 1) := by decide +kernel
theorem dX10_person_58 : decode cX10_person 58 = .ok (.goto 12, 3) := by decide +kernel
theorem dX10_person_61 : decode cX10_person 61 = .ok (.aload_n 0, 1) := by decide +kernel
theorem dX10_person_62 : decode cX10_person 62 = .ok (.getfield 26, 3) := by decide +kernel
theorem dX10_person_65 : decode cX10_person 65 = .ok (.getfield 121, 3) := by decide +kernel
theorem dX10_person_68 : decode cX10_person 68 = .ok (.iload_n 1, 1) := by decide +kernel
theorem dX10_person_69 : decode cX10_person 69 = .ok (.iaload, 1) := by decide +kernel
theorem dX10_person_70 : decode cX10_person 70 = .ok (.ireturn, 1) := by decide +kernel
theorem dX10_law_0 : decode cX10_law 0 = .ok (.aload_n 0, 1) := by decide +kernel
theorem dX10_law_1 : decode cX10_law 1 = .ok (.getfield 26, 3) := by decide +kernel
theorem dX10_law_4 : decode cX10_law 4 = .ok (.iload_n 1, 1) := by decide +kernel
theorem dX10_law_5 : decode cX10_law 5 = .ok (.invokevirtual 109, 3) := by decide +kernel
theorem dX10_law_8 : decode cX10_law 8 = .ok (.ifCond .eq 12, 3) := by decide +kernel
theorem dX10_law_11 : decode cX10_law 11 = .ok (.iload_n 2, 1) := by decide +kernel
theorem dX10_law_12 : decode cX10_law 12 = .ok (.iconst 0, 1) := by decide +kernel
theorem dX10_law_13 : decode cX10_law 13 = .ok (.iconst 5, 1) := by decide +kernel
theorem dX10_law_14 : decode cX10_law 14 = .ok (.invokestatic 84, 3) := by decide +kernel
theorem dX10_law_17 : decode cX10_law 17 = .ok (.ifCond .ne 5, 3) := by decide +kernel
theorem dX10_law_20 : decode cX10_law 20 = .ok (.iconst (-1), 1) := by decide +kernel
theorem dX10_law_21 : decode cX10_law 21 = .ok (.ireturn, 1) := by decide +kernel
theorem dX10_law_22 : decode cX10_law 22 = .ok (.aload_n 0, 1) := by decide +kernel
theorem dX10_law_23 : decode cX10_law 23 = .ok (.getfield 26, 3) := by decide +kernel
theorem dX10_law_26 : decode cX10_law 26 = .ok (.getfield 121, 3) := by decide +kernel
theorem dX10_law_29 : decode cX10_law 29 = .ok (.iload_n 1, 1) := by decide +kernel
theorem dX10_law_30 : decode cX10_law 30 = .ok (.iaload, 1) := by decide +kernel
theorem dX10_law_31 : decode cX10_law 31 = .ok (.istore_n 3, 1) := by decide +kernel
theorem dX10_law_32 : decode cX10_law 32 = .ok (.aload_n 0, 1) := by decide +kernel
theorem dX10_law_33 : decode cX10_law 33 = .ok (.getfield 26, 3) := by decide +kernel
theorem dX10_law_36 : decode cX10_law 36 = .ok (.getfield 121, 3) := by decide +kernel
theorem dX10_law_39 : decode cX10_law 39 = .ok (.iload_n 1, 1) := by decide +kernel
theorem dX10_law_40 : decode cX10_law 40 = .ok (.iload_n 2, 1) := by decide +kernel
theorem dX10_law_41 : decode cX10_law 41 = .ok (.iastore, 1) := by decide +kernel
theorem dX10_law_42 : decode cX10_law 42 = .ok (.iload_n 3, 1) := by decide +kernel
theorem dX10_law_43 : decode cX10_law 43 = .ok (.ireturn, 1) := by decide +kernel
theorem dX10_lines_0 : decode cX10_lines 0 = .ok (.iload_n 1, 1) := by decide +kernel
theorem dX10_lines_1 : decode cX10_lines 1 = .ok (.iconst 0, 1) := by decide +kernel
theorem dX10_lines_2 : decode cX10_lines 2 = .ok (.iconst 4, 1) := by decide +kernel
theorem dX10_lines_3 : decode cX10_lines 3 = .ok (.invokestatic 84, 3) := by decide +kernel
theorem dX10_lines_6 : decode cX10_lines 6 = .ok (.ifCond .ne 5, 3) := by decide +kernel
theorem dX10_lines_9 : decode cX10_lines 9 = .ok (.iconst (-1), 1) := by decide +kernel
theorem dX10_lines_10 : decode cX10_lines 10 = .ok (.ireturn, 1) := by decide +kernel
theorem dX10_lines_11 : decode cX10_lines 11 = .ok (.aload_n 0, 1) := by decide +kernel
theorem dX10_lines_12 : decode cX10_lines 12 = .ok (.getfield 53, 3) := by decide +kernel
theorem dX10_lines_15 : decode cX10_lines 15 = .ok (.aload_n 0, 1) := by decide +kernel
theorem dX10_lines_16 : decode cX10_lines 16 = .ok (.getfield 26, 3) := by decide +kernel
theorem dX10_lines_19 : decode cX10_lines 19 = .ok (.aload_n 0, 1) := by decide +kernel
theorem dX10_lines_20 : decode cX10_lines 20 = .ok (.getfield 26, 3) := by decide +kernel
theorem dX10_lines_23 : decode cX10_lines 23 = .ok (.getfield 124, 3) := by decide +kernel
theorem dX10_lines_26 : decode cX10_lines 26 = .ok (.invokevirtual 127, 3) := by decide +kernel
theorem dX10_lines_29 : decode cX10_lines 29 = .ok (.iload_n 1, 1) := by decide +kernel
theorem dX10_lines_30 : decode cX10_lines 30 = .ok (.ifCond .ne 11, 3) := by decide +kernel
theorem dX10_lines_33 : decode cX10_lines 33 = .ok (.aload_n 0, 1) := by decide +kernel
theorem dX10_lines_34 : decode cX10_lines 34 = .ok (.getfield 53, 3) := by decide +kernel
theorem dX10_lines_37 : decode cX10_lines 37 = .ok (.getfield 131, 3) := by decide +kernel
theorem dX10_lines_40 : decode cX10_lines 40 = .ok (.ireturn, 1) := by decide +kernel
theorem dX10_lines_41 : decode cX10_lines 41 = .ok (.iload_n 1, 1) := by decide +kernel
theorem dX10_lines_42 : decode cX10_lines 42 = .ok (.iconst 1, 1) := by decide +kernel
theorem dX10_lines_43 : decode cX10_lines 43 = .ok (.if_icmp .ne 11, 3) := by decide +kernel
theorem dX10_lines_46 : decode cX10_lines 46 = .ok (.aload_n 0, 1) := by decide +kernel
theorem dX10_lines_47 : decode cX10_lines 47 = .ok (.getfield 53, 3) := by decide +kernel
theorem dX10_lines_50 : decode cX10_lines 50 = .ok (.getfield 134, 3) := by decide +kernel
theorem dX10_lines_53 : decode cX10_lines 53 = .ok (.ireturn, 1) := by decide +kernel
theorem dX10_lines_54 : decode cX10_lines 54 = .ok (.aload_n 0, 1) := by decide +kernel
theorem dX10_lines_55 : decode cX10_lines 55 = .ok (.getfield 53, 3) := by decide +kernel
theorem dX10_lines_58 : decode cX10_lines 58 = .ok (.getfield 131, 3) := by decide +kernel
theorem dX10_lines_61 : decode cX10_lines 61 = .ok (.ifCond .ne 6, 3) := by decide +kernel
theorem dX10_lines_64 : decode cX10_lines 64 = .ok (.bipush (-4), 2) := by decide +kernel
theorem dX10_lines_66 : decode cX10_lines 66 = .ok (.ireturn, 1) := by decide +kernel
theorem dX10_lines_67 : decode cX10_lines 67 = .ok (.iload_n 1, 1) := by decide +kernel
theorem dX10_lines_68 : decode cX10_lines 68 = .ok (.iconst 4, 1) := by decide +kernel
theorem dX10_lines_69 : decode cX10_lines 69 = .ok (.if_icmp .ne 46, 3) := by decide +kernel
theorem dX10_lines_72 : decode cX10_lines 72 = .ok (.aload_n 0, 1) := by decide +kernel
theorem dX10_lines_73 : decode cX10_lines 73 = .ok (.getfield 57, 3) := by decide +kernel
theorem dX10_lines_76 : decode cX10_lines 76 = .ok (.aload_n 0, 1) := by decide +kernel
theorem dX10_lines_77 : decode cX10_lines 77 = .ok (.getfield 26, 3) := by decide +kernel
theorem dX10_lines_80 : decode cX10_lines 80 = .ok (.iconst 0, 1) := by decide +kernel
theorem dX10_lines_81 : decode cX10_lines 81 = .ok (.invokevirtual 127, 3) := by decide +kernel
theorem dX10_lines_84 : decode cX10_lines 84 = .ok (.aload_n 0, 1) := by decide +kernel
theorem dX10_lines_85 : decode cX10_lines 85 = .ok (.getfield 57, 3) := by decide +kernel
theorem dX10_lines_88 : decode cX10_lines 88 = .ok (.getfield 131, 3) := by decide +kernel
theorem dX10_lines_91 : decode cX10_lines 91 = .ok (.ifCond .ne 8, 3) := by decide +kernel
theorem dX10_lines_94 : decode cX10_lines 94 = .ok (.bipush (-4), 2) := by decide +kernel
theorem dX10_lines_96 : decode cX10_lines 96 = .ok (.goto 18, 3) := by decide +kernel
theorem dX10_lines_99 : decode cX10_lines 99 = .ok (.aload_n 0, 1) := by decide +kernel
theorem dX10_lines_100 : decode cX10_lines 100 = .ok (.getfield 53, 3) := by decide +kernel
theorem dX10_lines_103 : decode cX10_lines 103 = .ok (.getfield 137, 3) := by decide +kernel
theorem dX10_lines_106 : decode cX10_lines 106 = .ok (.aload_n 0, 1) := by decide +kernel
theorem dX10_lines_107 : decode cX10_lines 107 = .ok (.getfield 57, 3) := by decide +kernel
theorem dX10_lines_110 : decode cX10_lines 110 = .ok (.getfield 137, 3) := by decide +kernel
theorem dX10_lines_113 : decode cX10_lines 113 = .ok (.isub, 1) := by decide +kernel
theorem dX10_lines_114 : decode cX10_lines 114 = .ok (.ireturn, 1) := by decide +kernel
theorem dX10_lines_115 : decode cX10_lines 115 = .ok (.iload_n 1, 1) := by decide +kernel
theorem dX10_lines_116 : decode cX10_lines 116 = .ok (.iconst 2, 1) := by decide +kernel
theorem dX10_lines_117 : decode cX10_lines 117 = .ok (.if_icmp .ne 13, 3) := by decide +kernel
theorem dX10_lines_120 : decode cX10_lines 120 = .ok (.aload_n 0, 1) := by decide +kernel
theorem dX10_lines_121 : decode cX10_lines 121 = .ok (.getfield 53, 3) := by decide +kernel
theorem dX10_lines_124 : decode cX10_lines 124 = .ok (.getfield 137, 3) := by decide +kernel
theorem dX10_lines_127 : decode cX10_lines 127 = .ok (.goto 10, 3) := by decide +kernel
theorem dX10_lines_130 : decode cX10_lines 130 = .ok (.aload_n 0, 1) := by decide +kernel
theorem dX10_lines_131 : decode cX10_lines 131 = .ok (.getfield 53, 3) := by decide +kernel
theorem dX10_lines_134 : decode cX10_lines 134 = .ok (.getfield 140, 3) := by decide +kernel
theorem dX10_lines_137 : decode cX10_lines 137 = .ok (.ireturn, 1) := by decide +kernel
theorem dX10_served_0 : decode cX10_served 0 = .ok (.iload_n 1, 1) := by decide +kernel
theorem dX10_served_1 : decode cX10_served 1 = .ok (.iconst 0, 1) := by decide +kernel
theorem dX10_served_2 : decode cX10_served 2 = .ok (.iconst 3, 1) := by decide +kernel
theorem dX10_served_3 : decode cX10_served 3 = .ok (.invokestatic 84, 3) := by decide +kernel
theorem dX10_served_6 : decode cX10_served 6 = .ok (.ifCond .ne 5, 3) := by decide +kernel
theorem dX10_served_9 : decode cX10_served 9 = .ok (.iconst (-1), 1) := by decide +kernel
theorem dX10_served_10 : decode cX10_served 10 = .ok (.ireturn, 1) := by decide +kernel
theorem dX10_served_11 : decode cX10_served 11 = .ok (.aload_n 0, 1) := by decide +kernel
theorem dX10_served_12 : decode cX10_served 12 = .ok (.getfield 53, 3) := by decide +kernel
theorem dX10_served_15 : decode cX10_served 15 = .ok (.aload_n 0, 1) := by decide +kernel
theorem dX10_served_16 : decode cX10_served 16 = .ok (.getfield 26, 3) := by decide +kernel
theorem dX10_served_19 : decode cX10_served 19 = .ok (.aload_n 0, 1) := by decide +kernel
theorem dX10_served_20 : decode cX10_served 20 = .ok (.getfield 26, 3) := by decide +kernel
theorem dX10_served_23 : decode cX10_served 23 = .ok (.getfield 124, 3) := by decide +kernel
theorem dX10_served_26 : decode cX10_served 26 = .ok (.invokevirtual 127, 3) := by decide +kernel
theorem dX10_served_29 : decode cX10_served 29 = .ok (.aload_n 0, 1) := by decide +kernel
theorem dX10_served_30 : decode cX10_served 30 = .ok (.getfield 53, 3) := by decide +kernel
theorem dX10_served_33 : decode cX10_served 33 = .ok (.getfield 131, 3) := by decide +kernel
theorem dX10_served_36 : decode cX10_served 36 = .ok (.istore_n 2, 1) := by decide +kernel
theorem dX10_served_37 : decode cX10_served 37 = .ok (.aload_n 0, 1) := by decide +kernel
theorem dX10_served_38 : decode cX10_served 38 = .ok (.getfield 53, 3) := by decide +kernel
theorem dX10_served_41 : decode cX10_served 41 = .ok (.getfield 134, 3) := by decide +kernel
theorem dX10_served_44 : decode cX10_served 44 = .ok (.istore_n 3, 1) := by decide +kernel
theorem dX10_served_45 : decode cX10_served 45 = .ok (.aload_n 0, 1) := by decide +kernel
theorem dX10_served_46 : decode cX10_served 46 = .ok (.getfield 53, 3) := by decide +kernel
theorem dX10_served_49 : decode cX10_served 49 = .ok (.getfield 134, 3) := by decide +kernel
theorem dX10_served_52 : decode cX10_served 52 = .ok (.istore 4, 2) := by decide +kernel
theorem dX10_served_54 : decode cX10_served 54 = .ok (.aload_n 0, 1) := by decide +kernel
theorem dX10_served_55 : decode cX10_served 55 = .ok (.getfield 53, 3) := by decide +kernel
theorem dX10_served_58 : decode cX10_served 58 = .ok (.getfield 131, 3) := by decide +kernel
theorem dX10_served_61 : decode cX10_served 61 = .ok (.ifCond .le 135, 3) := by decide +kernel
theorem dX10_served_64 : decode cX10_served 64 = .ok (.aload_n 0, 1) := by decide +kernel
theorem dX10_served_65 : decode cX10_served 65 = .ok (.getfield 26, 3) := by decide +kernel
theorem dX10_served_68 : decode cX10_served 68 = .ok (.getfield 143, 3) := by decide +kernel
theorem dX10_served_71 : decode cX10_served 71 = .ok (.aload_n 0, 1) := by decide +kernel
theorem dX10_served_72 : decode cX10_served 72 = .ok (.getfield 53, 3) := by decide +kernel
theorem dX10_served_75 : decode cX10_served 75 = .ok (.getfield 137, 3) := by decide +kernel
theorem dX10_served_78 : decode cX10_served 78 = .ok (.if_icmp .ge 118, 3) := by decide +kernel
theorem dX10_served_81 : decode cX10_served 81 = .ok (.aload_n 0, 1) := by decide +kernel
theorem dX10_served_82 : decode cX10_served 82 = .ok (.getfield 53, 3) := by decide +kernel
theorem dX10_served_85 : decode cX10_served 85 = .ok (.getfield 146, 3) := by decide +kernel
theorem dX10_served_88 : decode cX10_served 88 = .ok (.aload_n 0, 1) := by decide +kernel
theorem dX10_served_89 : decode cX10_served 89 = .ok (.getfield 26, 3) := by decide +kernel
theorem dX10_served_92 : decode cX10_served 92 = .ok (.getfield 143, 3) := by decide +kernel
theorem dX10_served_95 : decode cX10_served 95 = .ok (.invokevirtual 149, 3) := by decide +kernel
theorem dX10_served_98 : decode cX10_served 98 = .ok (.istore 5, 2) := by decide +kernel
theorem dX10_served_100 : decode cX10_served 100 = .ok (.aload_n 0, 1) := by decide +kernel
theorem dX10_served_101 : decode cX10_served 101 = .ok (.getfield 53, 3) := by decide +kernel
theorem dX10_served_104 : decode cX10_served 104 = .ok (.getfield 155, 3) := by decide +kernel
theorem dX10_served_107 : decode cX10_served 107 = .ok (.aload_n 0, 1) := by decide +kernel
theorem dX10_served_108 : decode cX10_served 108 = .ok (.getfield 26, 3) := by decide +kernel
theorem dX10_served_111 : decode cX10_served 111 = .ok (.getfield 143, 3) := by decide +kernel
theorem dX10_served_114 : decode cX10_served 114 = .ok (.aload_n 0, 1) := by decide +kernel
theorem dX10_served_115 : decode cX10_served 115 = .ok (.getfield 26, 3) := by decide +kernel
theorem dX10_served_118 : decode cX10_served 118 = .ok (.getfield 124, 3) := by decide +kernel
theorem dX10_served_121 : decode cX10_served 121 = .ok (.isub, 1) := by decide +kernel
theorem dX10_served_122 : decode cX10_served 122 = .ok (.invokevirtual 149, 3) := by decide +kernel
theorem dX10_served_125 : decode cX10_served 125 = .ok (.istore 6, 2) := by decide +kernel
theorem dX10_served_127 : decode cX10_served 127 = .ok (.iload 5, 2) := by decide +kernel
theorem dX10_served_129 : decode cX10_served 129 = .ok (.iload 6, 2) := by decide +kernel
theorem dX10_served_131 : decode cX10_served 131 = .ok (.invokestatic 157, 3) := by decide +kernel
theorem dX10_served_134 : decode cX10_served 134 = .ok (.istore_n 2, 1) := by decide +kernel
theorem dX10_served_135 : decode cX10_served 135 = .ok (.aload_n 0, 1) := by decide +kernel
theorem dX10_served_136 : decode cX10_served 136 = .ok (.getfield 53, 3) := by decide +kernel
theorem dX10_served_139 : decode cX10_served 139 = .ok (.getfield 146, 3) := by decide +kernel
theorem dX10_served_142 : decode cX10_served 142 = .ok (.iconst 0, 1) := by decide +kernel
theorem dX10_served_143 : decode cX10_served 143 = .ok (.iload_n 2, 1) := by decide +kernel
theorem dX10_served_144 : decode cX10_served 144 = .ok (.invokevirtual 163, 3) := by decide +kernel
theorem dX10_served_147 : decode cX10_served 147 = .ok (.aload_n 0, 1) := by decide +kernel
theorem dX10_served_148 : decode cX10_served 148 = .ok (.getfield 53, 3) := by decide +kernel
theorem dX10_served_151 : decode cX10_served 151 = .ok (.getfield 155, 3) := by decide +kernel
theorem dX10_served_154 : decode cX10_served 154 = .ok (.iconst 0, 1) := by decide +kernel
theorem dX10_served_155 : decode cX10_served 155 = .ok (.iload_n 2, 1) := by decide +kernel
theorem dX10_served_156 : decode cX10_served 156 = .ok (.invokevirtual 163, 3) := by decide +kernel
theorem dX10_served_159 : decode cX10_served 159 = .ok (.isub, 1) := by decide +kernel
theorem dX10_served_160 : decode cX10_served 160 = .ok (.istore_n 3, 1) := by decide +kernel
theorem dX10_served_161 : decode cX10_served 161 = .ok (.aload_n 0, 1) := by decide +kernel
theorem dX10_served_162 : decode cX10_served 162 = .ok (.getfield 53, 3) := by decide +kernel
theorem dX10_served_165 : decode cX10_served 165 = .ok (.getfield 146, 3) := by decide +kernel
theorem dX10_served_168 : decode cX10_served 168 = .ok (.iload 5, 2) := by decide +kernel
theorem dX10_served_170 : decode cX10_served 170 = .ok (.iload_n 2, 1) := by decide +kernel
theorem dX10_served_171 : decode cX10_served 171 = .ok (.isub, 1) := by decide +kernel
theorem dX10_served_172 : decode cX10_served 172 = .ok (.iload 5, 2) := by decide +kernel
theorem dX10_served_174 : decode cX10_served 174 = .ok (.invokevirtual 163, 3) := by decide +kernel
theorem dX10_served_177 : decode cX10_served 177 = .ok (.aload_n 0, 1) := by decide +kernel
theorem dX10_served_178 : decode cX10_served 178 = .ok (.getfield 53, 3) := by decide +kernel
theorem dX10_served_181 : decode cX10_served 181 = .ok (.getfield 155, 3) := by decide +kernel
theorem dX10_served_184 : decode cX10_served 184 = .ok (.iload 6, 2) := by decide +kernel
theorem dX10_served_186 : decode cX10_served 186 = .ok (.iload_n 2, 1) := by decide +kernel
theorem dX10_served_187 : decode cX10_served 187 = .ok (.isub, 1) := by decide +kernel
theorem dX10_served_188 : decode cX10_served 188 = .ok (.iload 6, 2) := by decide +kernel
theorem dX10_served_190 : decode cX10_served 190 = .ok (.invokevirtual 163, 3) := by decide +kernel
theorem dX10_served_193 : decode cX10_served 193 = .ok (.isub, 1) := by decide +kernel
theorem dX10_served_194 : decode cX10_served 194 = .ok (.istore 4, 2) := by decide +kernel
theorem dX10_served_196 : decode cX10_served 196 = .ok (.iload_n 1, 1) := by decide +kernel
theorem dX10_served_197 : decode cX10_served 197 = .ok (.ifCond .ne 5, 3) := by decide +kernel
theorem dX10_served_200 : decode cX10_served 200 = .ok (.iload_n 2, 1) := by decide +kernel
theorem dX10_served_201 : decode cX10_served 201 = .ok (.ireturn, 1) := by decide +kernel
theorem dX10_served_202 : decode cX10_served 202 = .ok (.iload_n 1, 1) := by decide +kernel
theorem dX10_served_203 : decode cX10_served 203 = .ok (.iconst 1, 1) := by decide +kernel
theorem dX10_served_204 : decode cX10_served 204 = .ok (.if_icmp .ne 5, 3) := by decide +kernel
theorem dX10_served_207 : decode cX10_served 207 = .ok (.iload_n 3, 1) := by decide +kernel
theorem dX10_served_208 : decode cX10_served 208 = .ok (.ireturn, 1) := by decide +kernel
theorem dX10_served_209 : decode cX10_served 209 = .ok (.iload_n 1, 1) := by decide +kernel
theorem dX10_served_210 : decode cX10_served 210 = .ok (.iconst 2, 1) := by decide +kernel
theorem dX10_served_211 : decode cX10_served 211 = .ok (.if_icmp .ne 8, 3) := by decide +kernel
theorem dX10_served_214 : decode cX10_served 214 = .ok (.iload 4, 2) := by decide +kernel
theorem dX10_served_216 : decode cX10_served 216 = .ok (.goto 13, 3) := by decide +kernel
theorem dX10_served_219 : decode cX10_served 219 = .ok (.aload_n 0, 1) := by decide +kernel
theorem dX10_served_220 : decode cX10_served 220 = .ok (.getfield 53, 3) := by decide +kernel
theorem dX10_served_223 : decode cX10_served 223 = .ok (.getfield 134, 3) := by decide +kernel
theorem dX10_served_226 : decode cX10_served 226 = .ok (.iload 4, 2) := by decide +kernel
theorem dX10_served_228 : decode cX10_served 228 = .ok (.isub, 1) := by decide +kernel
theorem dX10_served_229 : decode cX10_served 229 = .ok (.ireturn, 1) := by decide +kernel
theorem dX10_pairs_0 : decode cX10_pairs 0 = .ok (.iload_n 1, 1) := by decide +kernel
theorem dX10_pairs_1 : decode cX10_pairs 1 = .ok (.iconst 0, 1) := by decide +kernel
theorem dX10_pairs_2 : decode cX10_pairs 2 = .ok (.iconst 1, 1) := by decide +kernel
theorem dX10_pairs_3 : decode cX10_pairs 3 = .ok (.invokestatic 84, 3) := by decide +kernel
theorem dX10_pairs_6 : decode cX10_pairs 6 = .ok (.ifCond .ne 7, 3) := by decide +kernel
theorem dX10_pairs_9 : decode cX10_pairs 9 = .ok (.ldc2_w 166, 3) := by decide +kernel
theorem dX10_pairs_12 : decode cX10_pairs 12 = .ok (.lreturn, 1) := by decide +kernel
theorem dX10_pairs_13 : decode cX10_pairs 13 = .ok (.aload_n 0, 1) := by decide +kernel
theorem dX10_pairs_14 : decode cX10_pairs 14 = .ok (.invokevirtual 168, 3) := by decide +kernel
theorem dX10_pairs_17 : decode cX10_pairs 17 = .ok (.istore_n 2, 1) := by decide +kernel
theorem dX10_pairs_18 : decode cX10_pairs 18 = .ok (.aload_n 0, 1) := by decide +kernel
theorem dX10_pairs_19 : decode cX10_pairs 19 = .ok (.getfield 26, 3) := by decide +kernel
theorem dX10_pairs_22 : decode cX10_pairs 22 = .ok (.getfield 99, 3) := by decide +kernel
theorem dX10_pairs_25 : decode cX10_pairs 25 = .ok (.aload_n 0, 1) := by decide +kernel
theorem dX10_pairs_26 : decode cX10_pairs 26 = .ok (.getfield 26, 3) := by decide +kernel
theorem dX10_pairs_29 : decode cX10_pairs 29 = .ok (.getfield 102, 3) := by decide +kernel
theorem dX10_pairs_32 : decode cX10_pairs 32 = .ok (.invokestatic 172, 3) := by decide +kernel
theorem dX10_pairs_35 : decode cX10_pairs 35 = .ok (.istore_n 3, 1) := by decide +kernel
theorem dX10_pairs_36 : decode cX10_pairs 36 = .ok (.iconst 1, 1) := by decide +kernel
theorem dX10_pairs_37 : decode cX10_pairs 37 = .ok (.istore 4, 2) := by decide +kernel
theorem dX10_pairs_39 : decode cX10_pairs 39 = .ok (.iconst 2, 1) := by decide +kernel
theorem dX10_pairs_40 : decode cX10_pairs 40 = .ok (.istore 5, 2) := by decide +kernel
theorem dX10_pairs_42 : decode cX10_pairs 42 = .ok (.iload 5, 2) := by decide +kernel
theorem dX10_pairs_44 : decode cX10_pairs 44 = .ok (.iload_n 3, 1) := by decide +kernel
theorem dX10_pairs_45 : decode cX10_pairs 45 = .ok (.if_icmp .gt 27, 3) := by decide +kernel
theorem dX10_pairs_48 : decode cX10_pairs 48 = .ok (.iload_n 2, 1) := by decide +kernel
theorem dX10_pairs_49 : decode cX10_pairs 49 = .ok (.iload 5, 2) := by decide +kernel
theorem dX10_pairs_51 : decode cX10_pairs 51 = .ok (.irem, 1) := by decide +kernel
theorem dX10_pairs_52 : decode cX10_pairs 52 = .ok (.ifCond .ne 14, 3) := by decide +kernel
theorem dX10_pairs_55 : decode cX10_pairs 55 = .ok (.iload_n 3, 1) := by decide +kernel
theorem dX10_pairs_56 : decode cX10_pairs 56 = .ok (.iload 5, 2) := by decide +kernel
theorem dX10_pairs_58 : decode cX10_pairs 58 = .ok (.irem, 1) := by decide +kernel
theorem dX10_pairs_59 : decode cX10_pairs 59 = .ok (.ifCond .ne 7, 3) := by decide +kernel
theorem dX10_pairs_62 : decode cX10_pairs 62 = .ok (.iload 5, 2) := by decide +kernel
theorem dX10_pairs_64 : decode cX10_pairs 64 = .ok (.istore 4, 2) := by decide +kernel
theorem dX10_pairs_66 : decode cX10_pairs 66 = .ok (.iinc 5 1, 3) := by decide +kernel
theorem dX10_pairs_69 : decode cX10_pairs 69 = .ok (.goto (-27), 3) := by decide +kernel
theorem dX10_pairs_72 : decode cX10_pairs 72 = .ok (.iload_n 1, 1) := by decide +kernel
theorem dX10_pairs_73 : decode cX10_pairs 73 = .ok (.ifCond .ne 11, 3) := by decide +kernel
theorem dX10_pairs_76 : decode cX10_pairs 76 = .ok (.iload_n 2, 1) := by decide +kernel
theorem dX10_pairs_77 : decode cX10_pairs 77 = .ok (.iload 4, 2) := by decide +kernel
theorem dX10_pairs_79 : decode cX10_pairs 79 = .ok (.idiv, 1) := by decide +kernel
theorem dX10_pairs_80 : decode cX10_pairs 80 = .ok (.i2l, 1) := by decide +kernel
theorem dX10_pairs_81 : decode cX10_pairs 81 = .ok (.goto 8, 3) := by decide +kernel
theorem dX10_pairs_84 : decode cX10_pairs 84 = .ok (.iload_n 3, 1) := by decide +kernel
theorem dX10_pairs_85 : decode cX10_pairs 85 = .ok (.iload 4, 2) := by decide +kernel
theorem dX10_pairs_87 : decode cX10_pairs 87 = .ok (.idiv, 1) := by decide +kernel
theorem dX10_pairs_88 : decode cX10_pairs 88 = .ok (.i2l, 1) := by decide +kernel
theorem dX10_pairs_89 : decode cX10_pairs 89 = .ok (.lreturn, 1) := by decide +kernel
theorem dX10_bell_0 : decode cX10_bell 0 = .ok (.aload_n 0, 1) := by decide +kernel
theorem dX10_bell_1 : decode cX10_bell 1 = .ok (.getfield 26, 3) := by decide +kernel
theorem dX10_bell_4 : decode cX10_bell 4 = .ok (.iload_n 1, 1) := by decide +kernel
theorem dX10_bell_5 : decode cX10_bell 5 = .ok (.invokevirtual 109, 3) := by decide +kernel
theorem dX10_bell_8 : decode cX10_bell 8 = .ok (.ifCond .eq 13, 3) := by decide +kernel
theorem dX10_bell_11 : decode cX10_bell 11 = .ok (.iload_n 2, 1) := by decide +kernel
theorem dX10_bell_12 : decode cX10_bell 12 = .ok (.iconst 0, 1) := by decide +kernel
theorem dX10_bell_13 : decode cX10_bell 13 = .ok (.bipush 99, 2) := by decide +kernel
theorem dX10_bell_15 : decode cX10_bell 15 = .ok (.invokestatic 84, 3) := by decide +kernel
theorem dX10_bell_18 : decode cX10_bell 18 = .ok (.ifCond .ne 7, 3) := by decide +kernel
theorem dX10_bell_21 : decode cX10_bell 21 = .ok (.sipush (-1000), 3) := by decide +kernel
theorem dX10_bell_24 : decode cX10_bell 24 = .ok (.ireturn, 1) := by decide +kernel
theorem dX10_bell_25 : decode cX10_bell 25 = .ok (.aload_n 0, 1) := by decide +kernel
theorem dX10_bell_26 : decode cX10_bell 26 = .ok (.iload_n 1, 1) := by decide +kernel
theorem dX10_bell_27 : decode cX10_bell 27 = .ok (.iload_n 2, 1) := by decide +kernel
theorem dX10_bell_28 : decode cX10_bell 28 = .ok (.invokevirtual 175, 3) := by decide +kernel
theorem dX10_bell_31 : decode cX10_bell 31 = .ok (.ireturn, 1) := by decide +kernel
theorem dX10_best_0 : decode cX10_best 0 = .ok (.aload_n 0, 1) := by decide +kernel
theorem dX10_best_1 : decode cX10_best 1 = .ok (.getfield 26, 3) := by decide +kernel
theorem dX10_best_4 : decode cX10_best 4 = .ok (.iload_n 1, 1) := by decide +kernel
theorem dX10_best_5 : decode cX10_best 5 = .ok (.invokevirtual 109, 3) := by decide +kernel
theorem dX10_best_8 : decode cX10_best 8 = .ok (.ifCond .eq 12, 3) := by decide +kernel
theorem dX10_best_11 : decode cX10_best 11 = .ok (.iload_n 2, 1) := by decide +kernel
theorem dX10_best_12 : decode cX10_best 12 = .ok (.iconst 0, 1) := by decide +kernel
theorem dX10_best_13 : decode cX10_best 13 = .ok (.iconst 1, 1) := by decide +kernel
theorem dX10_best_14 : decode cX10_best 14 = .ok (.invokestatic 84, 3) := by decide +kernel
theorem dX10_best_17 : decode cX10_best 17 = .ok (.ifCond .ne 5, 3) := by decide +kernel
theorem dX10_best_20 : decode cX10_best 20 = .ok (.iconst (-1), 1) := by decide +kernel
theorem dX10_best_21 : decode cX10_best 21 = .ok (.ireturn, 1) := by decide +kernel
theorem dX10_best_22 : decode cX10_best 22 = .ok (.aload_n 0, 1) := by decide +kernel
theorem dX10_best_23 : decode cX10_best 23 = .ok (.getfield 26, 3) := by decide +kernel
theorem dX10_best_26 : decode cX10_best 26 = .ok (.getfield 117, 3) := by decide +kernel
theorem dX10_best_29 : decode cX10_best 29 = .ok (.iload_n 1, 1) := by decide +kernel
theorem dX10_best_30 : decode cX10_best 30 = .ok (.iaload, 1) := by decide +kernel
theorem dX10_best_31 : decode cX10_best 31 = .ok (.istore_n 3, 1) := by decide +kernel
theorem dX10_best_32 : decode cX10_best 32 = .ok (.iload_n 3, 1) := by decide +kernel
theorem dX10_best_33 : decode cX10_best 33 = .ok (.istore 4, 2) := by decide +kernel
theorem dX10_best_35 : decode cX10_best 35 = .ok (.aload_n 0, 1) := by decide +kernel
theorem dX10_best_36 : decode cX10_best 36 = .ok (.iload_n 1, 1) := by decide +kernel
theorem dX10_best_37 : decode cX10_best 37 = .ok (.iload_n 3, 1) := by decide +kernel
theorem dX10_best_38 : decode cX10_best 38 = .ok (.invokevirtual 175, 3) := by decide +kernel
theorem dX10_best_41 : decode cX10_best 41 = .ok (.istore 5, 2) := by decide +kernel
theorem dX10_best_43 : decode cX10_best 43 = .ok (.iconst 0, 1) := by decide +kernel
theorem dX10_best_44 : decode cX10_best 44 = .ok (.istore 6, 2) := by decide +kernel
theorem dX10_best_46 : decode cX10_best 46 = .ok (.iload 6, 2) := by decide +kernel
theorem dX10_best_48 : decode cX10_best 48 = .ok (.bipush 99, 2) := by decide +kernel
theorem dX10_best_50 : decode cX10_best 50 = .ok (.if_icmp .gt 69, 3) := by decide +kernel
theorem dX10_best_53 : decode cX10_best 53 = .ok (.aload_n 0, 1) := by decide +kernel
theorem dX10_best_54 : decode cX10_best 54 = .ok (.iload_n 1, 1) := by decide +kernel
theorem dX10_best_55 : decode cX10_best 55 = .ok (.iload 6, 2) := by decide +kernel
theorem dX10_best_57 : decode cX10_best 57 = .ok (.invokevirtual 175, 3) := by decide +kernel
theorem dX10_best_60 : decode cX10_best 60 = .ok (.istore 7, 2) := by decide +kernel
theorem dX10_best_62 : decode cX10_best 62 = .ok (.iload 6, 2) := by decide +kernel
theorem dX10_best_64 : decode cX10_best 64 = .ok (.iload_n 3, 1) := by decide +kernel
theorem dX10_best_65 : decode cX10_best 65 = .ok (.isub, 1) := by decide +kernel
theorem dX10_best_66 : decode cX10_best 66 = .ok (.invokestatic 178, 3) := by decide +kernel
theorem dX10_best_69 : decode cX10_best 69 = .ok (.iload 4, 2) := by decide +kernel
theorem dX10_best_71 : decode cX10_best 71 = .ok (.iload_n 3, 1) := by decide +kernel
theorem dX10_best_72 : decode cX10_best 72 = .ok (.isub, 1) := by decide +kernel
theorem dX10_best_73 : decode cX10_best 73 = .ok (.invokestatic 178, 3) := by decide +kernel
theorem dX10_best_76 : decode cX10_best 76 = .ok (.if_icmp .ge 7, 3) := by decide +kernel
theorem dX10_best_79 : decode cX10_best 79 = .ok (.iconst 1, 1) := by decide +kernel
theorem dX10_best_80 : decode cX10_best 80 = .ok (.goto 4, 3) := by decide +kernel
theorem dX10_best_83 : decode cX10_best 83 = .ok (.iconst 0, 1) := by decide +kernel
theorem dX10_best_84 : decode cX10_best 84 = .ok (.istore 8, 2) := by decide +kernel
theorem dX10_best_86 : decode cX10_best 86 = .ok (.iload 7, 2) := by decide +kernel
theorem dX10_best_88 : decode cX10_best 88 = .ok (.iload 5, 2) := by decide +kernel
theorem dX10_best_90 : decode cX10_best 90 = .ok (.if_icmp .gt 15, 3) := by decide +kernel
theorem dX10_best_93 : decode cX10_best 93 = .ok (.iload 7, 2) := by decide +kernel
theorem dX10_best_95 : decode cX10_best 95 = .ok (.iload 5, 2) := by decide +kernel
theorem dX10_best_97 : decode cX10_best 97 = .ok (.if_icmp .ne 16, 3) := by decide +kernel
theorem dX10_best_100 : decode cX10_best 100 = .ok (.iload 8, 2) := by decide +kernel
theorem dX10_best_102 : decode cX10_best 102 = .ok (.ifCond .eq 11, 3) := by decide +kernel
theorem dX10_best_105 : decode cX10_best 105 = .ok (.iload 6, 2) := by decide +kernel
theorem dX10_best_107 : decode cX10_best 107 = .ok (.istore 4, 2) := by decide +kernel
theorem dX10_best_109 : decode cX10_best 109 = .ok (.iload 7, 2) := by decide +kernel
theorem dX10_best_111 : decode cX10_best 111 = .ok (.istore 5, 2) := by decide +kernel
theorem dX10_best_113 : decode cX10_best 113 = .ok (.iinc 6 1, 3) := by decide +kernel
theorem dX10_best_116 : decode cX10_best 116 = .ok (.goto (-70), 3) := by decide +kernel
theorem dX10_best_119 : decode cX10_best 119 = .ok (.iload_n 2, 1) := by decide +kernel
theorem dX10_best_120 : decode cX10_best 120 = .ok (.ifCond .ne 8, 3) := by decide +kernel
theorem dX10_best_123 : decode cX10_best 123 = .ok (.iload 4, 2) := by decide +kernel
theorem dX10_best_125 : decode cX10_best 125 = .ok (.goto 5, 3) := by decide +kernel
theorem dX10_best_128 : decode cX10_best 128 = .ok (.iload 5, 2) := by decide +kernel
theorem dX10_best_130 : decode cX10_best 130 = .ok (.ireturn, 1) := by decide +kernel
theorem dX10_round_0 : decode cX10_round 0 = .ok (.iload_n 1, 1) := by decide +kernel
theorem dX10_round_1 : decode cX10_round 1 = .ok (.iconst 0, 1) := by decide +kernel
theorem dX10_round_2 : decode cX10_round 2 = .ok (.iconst 3, 1) := by decide +kernel
theorem dX10_round_3 : decode cX10_round 3 = .ok (.invokestatic 84, 3) := by decide +kernel
theorem dX10_round_6 : decode cX10_round 6 = .ok (.ifCond .eq 23, 3) := by decide +kernel
theorem dX10_round_9 : decode cX10_round 9 = .ok (.iload_n 2, 1) := by decide +kernel
theorem dX10_round_10 : decode cX10_round 10 = .ok (.iconst 0, 1) := by decide +kernel
theorem dX10_round_11 : decode cX10_round 11 = .ok (.sipush 9999, 3) := by decide +kernel
theorem dX10_round_14 : decode cX10_round 14 = .ok (.invokestatic 84, 3) := by decide +kernel
theorem dX10_round_17 : decode cX10_round 17 = .ok (.ifCond .eq 12, 3) := by decide +kernel
theorem dX10_round_20 : decode cX10_round 20 = .ok (.iload_n 3, 1) := by decide +kernel
theorem dX10_round_21 : decode cX10_round 21 = .ok (.iconst 0, 1) := by decide +kernel
theorem dX10_round_22 : decode cX10_round 22 = .ok (.iconst 3, 1) := by decide +kernel
theorem dX10_round_23 : decode cX10_round 23 = .ok (.invokestatic 84, 3) := by decide +kernel
theorem dX10_round_26 : decode cX10_round 26 = .ok (.ifCond .ne 7, 3) := by decide +kernel
theorem dX10_round_29 : decode cX10_round 29 = .ok (.sipush (-10000), 3) := by decide +kernel
theorem dX10_round_32 : decode cX10_round 32 = .ok (.ireturn, 1) := by decide +kernel
theorem dX10_round_33 : decode cX10_round 33 = .ok (.aload_n 0, 1) := by decide +kernel
theorem dX10_round_34 : decode cX10_round 34 = .ok (.getfield 63, 3) := by decide +kernel
theorem dX10_round_37 : decode cX10_round 37 = .ok (.aload_n 0, 1) := by decide +kernel
theorem dX10_round_38 : decode cX10_round 38 = .ok (.getfield 26, 3) := by decide +kernel
theorem dX10_round_41 : decode cX10_round 41 = .ok (.iload_n 1, 1) := by decide +kernel
theorem dX10_round_42 : decode cX10_round 42 = .ok (.iload_n 2, 1) := by decide +kernel
theorem dX10_round_43 : decode cX10_round 43 = .ok (.aload_n 0, 1) := by decide +kernel
theorem dX10_round_44 : decode cX10_round 44 = .ok (.getfield 36, 3) := by decide +kernel
theorem dX10_round_47 : decode cX10_round 47 = .ok (.invokevirtual 181, 3) := by decide +kernel
theorem dX10_round_50 : decode cX10_round 50 = .ok (.iload_n 3, 1) := by decide +kernel
theorem dX10_round_51 : decode cX10_round 51 = .ok (.ifCond .ne 11, 3) := by decide +kernel
theorem dX10_round_54 : decode cX10_round 54 = .ok (.aload_n 0, 1) := by decide +kernel
theorem dX10_round_55 : decode cX10_round 55 = .ok (.getfield 63, 3) := by decide +kernel
theorem dX10_round_58 : decode cX10_round 58 = .ok (.getfield 185, 3) := by decide +kernel
theorem dX10_round_61 : decode cX10_round 61 = .ok (.ireturn, 1) := by decide +kernel
theorem dX10_round_62 : decode cX10_round 62 = .ok (.iload_n 3, 1) := by decide +kernel
theorem dX10_round_63 : decode cX10_round 63 = .ok (.iconst 1, 1) := by decide +kernel
theorem dX10_round_64 : decode cX10_round 64 = .ok (.if_icmp .ne 11, 3) := by decide +kernel
theorem dX10_round_67 : decode cX10_round 67 = .ok (.aload_n 0, 1) := by decide +kernel
theorem dX10_round_68 : decode cX10_round 68 = .ok (.getfield 63, 3) := by decide +kernel
theorem dX10_round_71 : decode cX10_round 71 = .ok (.getfield 188, 3) := by decide +kernel
theorem dX10_round_74 : decode cX10_round 74 = .ok (.ireturn, 1) := by decide +kernel
theorem dX10_round_75 : decode cX10_round 75 = .ok (.iload_n 3, 1) := by decide +kernel
theorem dX10_round_76 : decode cX10_round 76 = .ok (.iconst 2, 1) := by decide +kernel
theorem dX10_round_77 : decode cX10_round 77 = .ok (.if_icmp .ne 13, 3) := by decide +kernel
theorem dX10_round_80 : decode cX10_round 80 = .ok (.aload_n 0, 1) := by decide +kernel
theorem dX10_round_81 : decode cX10_round 81 = .ok (.getfield 63, 3) := by decide +kernel
theorem dX10_round_84 : decode cX10_round 84 = .ok (.getfield 191, 3) := by decide +kernel
theorem dX10_round_87 : decode cX10_round 87 = .ok (.goto 10, 3) := by decide +kernel
theorem dX10_round_90 : decode cX10_round 90 = .ok (.aload_n 0, 1) := by decide +kernel
theorem dX10_round_91 : decode cX10_round 91 = .ok (.getfield 63, 3) := by decide +kernel
theorem dX10_round_94 : decode cX10_round 94 = .ok (.invokevirtual 194, 3) := by decide +kernel
theorem dX10_round_97 : decode cX10_round 97 = .ok (.ireturn, 1) := by decide +kernel
theorem dX10_of_0 : decode cX10_of 0 = .ok (.iload_n 1, 1) := by decide +kernel
theorem dX10_of_1 : decode cX10_of 1 = .ok (.iconst 0, 1) := by decide +kernel
theorem dX10_of_2 : decode cX10_of 2 = .ok (.iconst 3, 1) := by decide +kernel
theorem dX10_of_3 : decode cX10_of 3 = .ok (.invokestatic 84, 3) := by decide +kernel
theorem dX10_of_6 : decode cX10_of 6 = .ok (.ifCond .eq 25, 3) := by decide +kernel
theorem dX10_of_9 : decode cX10_of 9 = .ok (.iload_n 2, 1) := by decide +kernel
theorem dX10_of_10 : decode cX10_of 10 = .ok (.iconst 0, 1) := by decide +kernel
theorem dX10_of_11 : decode cX10_of 11 = .ok (.sipush 9999, 3) := by decide +kernel
theorem dX10_of_14 : decode cX10_of 14 = .ok (.invokestatic 84, 3) := by decide +kernel
theorem dX10_of_17 : decode cX10_of 17 = .ok (.ifCond .eq 14, 3) := by decide +kernel
theorem dX10_of_20 : decode cX10_of 20 = .ok (.aload_n 0, 1) := by decide +kernel
theorem dX10_of_21 : decode cX10_of 21 = .ok (.getfield 26, 3) := by decide +kernel
theorem dX10_of_24 : decode cX10_of 24 = .ok (.iload_n 3, 1) := by decide +kernel
theorem dX10_of_25 : decode cX10_of 25 = .ok (.invokevirtual 109, 3) := by decide +kernel
theorem dX10_of_28 : decode cX10_of 28 = .ok (.ifCond .ne 5, 3) := by decide +kernel
theorem dX10_of_31 : decode cX10_of 31 = .ok (.iconst (-1), 1) := by decide +kernel
theorem dX10_of_32 : decode cX10_of 32 = .ok (.ireturn, 1) := by decide +kernel
theorem dX10_of_33 : decode cX10_of 33 = .ok (.aload_n 0, 1) := by decide +kernel
theorem dX10_of_34 : decode cX10_of 34 = .ok (.getfield 63, 3) := by decide +kernel
theorem dX10_of_37 : decode cX10_of 37 = .ok (.aload_n 0, 1) := by decide +kernel
theorem dX10_of_38 : decode cX10_of 38 = .ok (.getfield 26, 3) := by decide +kernel
theorem dX10_of_41 : decode cX10_of 41 = .ok (.iload_n 1, 1) := by decide +kernel
theorem dX10_of_42 : decode cX10_of 42 = .ok (.iload_n 2, 1) := by decide +kernel
theorem dX10_of_43 : decode cX10_of 43 = .ok (.aload_n 0, 1) := by decide +kernel
theorem dX10_of_44 : decode cX10_of 44 = .ok (.getfield 36, 3) := by decide +kernel
theorem dX10_of_47 : decode cX10_of 47 = .ok (.invokevirtual 181, 3) := by decide +kernel
theorem dX10_of_50 : decode cX10_of 50 = .ok (.aload_n 0, 1) := by decide +kernel
theorem dX10_of_51 : decode cX10_of 51 = .ok (.getfield 63, 3) := by decide +kernel
theorem dX10_of_54 : decode cX10_of 54 = .ok (.getfield 197, 3) := by decide +kernel
theorem dX10_of_57 : decode cX10_of 57 = .ok (.iload_n 3, 1) := by decide +kernel
theorem dX10_of_58 : decode cX10_of 58 = .ok (.iaload, 1) := by decide +kernel
theorem dX10_of_59 : decode cX10_of 59 = .ok (.ireturn, 1) := by decide +kernel
theorem dX10_means_0 : decode cX10_means 0 = .ok (.iload_n 1, 1) := by decide +kernel
theorem dX10_means_1 : decode cX10_means 1 = .ok (.iconst 0, 1) := by decide +kernel
theorem dX10_means_2 : decode cX10_means 2 = .ok (.iconst 3, 1) := by decide +kernel
theorem dX10_means_3 : decode cX10_means 3 = .ok (.invokestatic 84, 3) := by decide +kernel
theorem dX10_means_6 : decode cX10_means 6 = .ok (.ifCond .eq 23, 3) := by decide +kernel
theorem dX10_means_9 : decode cX10_means 9 = .ok (.iload_n 2, 1) := by decide +kernel
theorem dX10_means_10 : decode cX10_means 10 = .ok (.iconst 0, 1) := by decide +kernel
theorem dX10_means_11 : decode cX10_means 11 = .ok (.sipush 9999, 3) := by decide +kernel
theorem dX10_means_14 : decode cX10_means 14 = .ok (.invokestatic 84, 3) := by decide +kernel
theorem dX10_means_17 : decode cX10_means 17 = .ok (.ifCond .eq 12, 3) := by decide +kernel
theorem dX10_means_20 : decode cX10_means 20 = .ok (.iload_n 3, 1) := by decide +kernel
theorem dX10_means_21 : decode cX10_means 21 = .ok (.iconst 0, 1) := by decide +kernel
theorem dX10_means_22 : decode cX10_means 22 = .ok (.iconst 2, 1) := by decide +kernel
theorem dX10_means_23 : decode cX10_means 23 = .ok (.invokestatic 84, 3) := by decide +kernel
theorem dX10_means_26 : decode cX10_means 26 = .ok (.ifCond .ne 7, 3) := by decide +kernel
theorem dX10_means_29 : decode cX10_means 29 = .ok (.sipush (-10000), 3) := by decide +kernel
theorem dX10_means_32 : decode cX10_means 32 = .ok (.ireturn, 1) := by decide +kernel
theorem dX10_means_33 : decode cX10_means 33 = .ok (.aload_n 0, 1) := by decide +kernel
theorem dX10_means_34 : decode cX10_means 34 = .ok (.iload_n 1, 1) := by decide +kernel
theorem dX10_means_35 : decode cX10_means 35 = .ok (.iload_n 2, 1) := by decide +kernel
theorem dX10_means_36 : decode cX10_means 36 = .ok (.invokevirtual 200, 3) := by decide +kernel
theorem dX10_means_39 : decode cX10_means 39 = .ok (.aload_n 0, 1) := by decide +kernel
theorem dX10_means_40 : decode cX10_means 40 = .ok (.getfield 76, 3) := by decide +kernel
theorem dX10_means_43 : decode cX10_means 43 = .ok (.iload_n 1, 1) := by decide +kernel
theorem dX10_means_44 : decode cX10_means 44 = .ok (.aaload, 1) := by decide +kernel
theorem dX10_means_45 : decode cX10_means 45 = .ok (.iload_n 3, 1) := by decide +kernel
theorem dX10_means_46 : decode cX10_means 46 = .ok (.iaload, 1) := by decide +kernel
theorem dX10_means_47 : decode cX10_means 47 = .ok (.ireturn, 1) := by decide +kernel
theorem dX10_rules_0 : decode cX10_rules 0 = .ok (.iload_n 1, 1) := by decide +kernel
theorem dX10_rules_1 : decode cX10_rules 1 = .ok (.iconst 0, 1) := by decide +kernel
theorem dX10_rules_2 : decode cX10_rules 2 = .ok (.sipush 9999, 3) := by decide +kernel
theorem dX10_rules_5 : decode cX10_rules 5 = .ok (.invokestatic 84, 3) := by decide +kernel
theorem dX10_rules_8 : decode cX10_rules 8 = .ok (.ifCond .eq 12, 3) := by decide +kernel
theorem dX10_rules_11 : decode cX10_rules 11 = .ok (.iload_n 2, 1) := by decide +kernel
theorem dX10_rules_12 : decode cX10_rules 12 = .ok (.iconst 0, 1) := by decide +kernel
theorem dX10_rules_13 : decode cX10_rules 13 = .ok (.iconst 3, 1) := by decide +kernel
theorem dX10_rules_14 : decode cX10_rules 14 = .ok (.invokestatic 84, 3) := by decide +kernel
theorem dX10_rules_17 : decode cX10_rules 17 = .ok (.ifCond .ne 5, 3) := by decide +kernel
theorem dX10_rules_20 : decode cX10_rules 20 = .ok (.iconst (-1), 1) := by decide +kernel
theorem dX10_rules_21 : decode cX10_rules 21 = .ok (.ireturn, 1) := by decide +kernel
theorem dX10_rules_22 : decode cX10_rules 22 = .ok (.iconst 0, 1) := by decide +kernel
theorem dX10_rules_23 : decode cX10_rules 23 = .ok (.istore_n 3, 1) := by decide +kernel
theorem dX10_rules_24 : decode cX10_rules 24 = .ok (.iload_n 3, 1) := by decide +kernel
theorem dX10_rules_25 : decode cX10_rules 25 = .ok (.iconst 3, 1) := by decide +kernel
theorem dX10_rules_26 : decode cX10_rules 26 = .ok (.if_icmp .gt 15, 3) := by decide +kernel
theorem dX10_rules_29 : decode cX10_rules 29 = .ok (.aload_n 0, 1) := by decide +kernel
theorem dX10_rules_30 : decode cX10_rules 30 = .ok (.iload_n 3, 1) := by decide +kernel
theorem dX10_rules_31 : decode cX10_rules 31 = .ok (.iload_n 1, 1) := by decide +kernel
theorem dX10_rules_32 : decode cX10_rules 32 = .ok (.invokevirtual 200, 3) := by decide +kernel
theorem dX10_rules_35 : decode cX10_rules 35 = .ok (.iinc 3 1, 3) := by decide +kernel
theorem dX10_rules_38 : decode cX10_rules 38 = .ok (.goto (-14), 3) := by decide +kernel
theorem dX10_rules_41 : decode cX10_rules 41 = .ok (.iload_n 2, 1) := by decide +kernel
theorem dX10_rules_42 : decode cX10_rules 42 = .ok (.iconst 3, 1) := by decide +kernel
theorem dX10_rules_43 : decode cX10_rules 43 = .ok (.if_icmp .ge 9, 3) := by decide +kernel
theorem dX10_rules_46 : decode cX10_rules 46 = .ok (.aload_n 0, 1) := by decide +kernel
theorem dX10_rules_47 : decode cX10_rules 47 = .ok (.iload_n 2, 1) := by decide +kernel
theorem dX10_rules_48 : decode cX10_rules 48 = .ok (.invokevirtual 204, 3) := by decide +kernel
theorem dX10_rules_51 : decode cX10_rules 51 = .ok (.ireturn, 1) := by decide +kernel
theorem dX10_rules_52 : decode cX10_rules 52 = .ok (.aload_n 0, 1) := by decide +kernel
theorem dX10_rules_53 : decode cX10_rules 53 = .ok (.iconst 0, 1) := by decide +kernel
theorem dX10_rules_54 : decode cX10_rules 54 = .ok (.invokevirtual 204, 3) := by decide +kernel
theorem dX10_rules_57 : decode cX10_rules 57 = .ok (.istore_n 3, 1) := by decide +kernel
theorem dX10_rules_58 : decode cX10_rules 58 = .ok (.iload_n 3, 1) := by decide +kernel
theorem dX10_rules_59 : decode cX10_rules 59 = .ok (.aload_n 0, 1) := by decide +kernel
theorem dX10_rules_60 : decode cX10_rules 60 = .ok (.iconst 1, 1) := by decide +kernel
theorem dX10_rules_61 : decode cX10_rules 61 = .ok (.invokevirtual 204, 3) := by decide +kernel
theorem dX10_rules_64 : decode cX10_rules 64 = .ok (.if_icmp .ne 16, 3) := by decide +kernel
theorem dX10_rules_67 : decode cX10_rules 67 = .ok (.iload_n 3, 1) := by decide +kernel
theorem dX10_rules_68 : decode cX10_rules 68 = .ok (.aload_n 0, 1) := by decide +kernel
theorem dX10_rules_69 : decode cX10_rules 69 = .ok (.iconst 2, 1) := by decide +kernel
theorem dX10_rules_70 : decode cX10_rules 70 = .ok (.invokevirtual 204, 3) := by decide +kernel
theorem dX10_rules_73 : decode cX10_rules 73 = .ok (.if_icmp .ne 7, 3) := by decide +kernel
theorem dX10_rules_76 : decode cX10_rules 76 = .ok (.iload_n 3, 1) := by decide +kernel
theorem dX10_rules_77 : decode cX10_rules 77 = .ok (.goto 5, 3) := by decide +kernel
theorem dX10_rules_80 : decode cX10_rules 80 = .ok (.bipush (-4), 2) := by decide +kernel
theorem dX10_rules_82 : decode cX10_rules 82 = .ok (.ireturn, 1) := by decide +kernel
theorem dX10_shout_0 : decode cX10_shout 0 = .ok (.iload_n 1, 1) := by decide +kernel
theorem dX10_shout_1 : decode cX10_shout 1 = .ok (.iconst 0, 1) := by decide +kernel
theorem dX10_shout_2 : decode cX10_shout 2 = .ok (.aload_n 0, 1) := by decide +kernel
theorem dX10_shout_3 : decode cX10_shout 3 = .ok (.getfield 36, 3) := by decide +kernel
theorem dX10_shout_6 : decode cX10_shout 6 = .ok (.getfield 105, 3) := by decide +kernel
theorem dX10_shout_9 : decode cX10_shout 9 = .ok (.iconst 1, 1) := by decide +kernel
theorem dX10_shout_10 : decode cX10_shout 10 = .ok (.isub, 1) := by decide +kernel
theorem dX10_shout_11 : decode cX10_shout 11 = .ok (.invokestatic 84, 3) := by decide +kernel
theorem dX10_shout_14 : decode cX10_shout 14 = .ok (.ifCond .eq 12, 3) := by decide +kernel
theorem dX10_shout_17 : decode cX10_shout 17 = .ok (.iload_n 2, 1) := by decide +kernel
theorem dX10_shout_18 : decode cX10_shout 18 = .ok (.iconst 0, 1) := by decide +kernel
theorem dX10_shout_19 : decode cX10_shout 19 = .ok (.iconst 3, 1) := by decide +kernel
theorem dX10_shout_20 : decode cX10_shout 20 = .ok (.invokestatic 84, 3) := by decide +kernel
theorem dX10_shout_23 : decode cX10_shout 23 = .ok (.ifCond .ne 5, 3) := by decide +kernel
theorem dX10_shout_26 : decode cX10_shout 26 = .ok (.iconst (-1), 1) := by decide +kernel
theorem dX10_shout_27 : decode cX10_shout 27 = .ok (.ireturn, 1) := by decide +kernel
theorem dX10_shout_28 : decode cX10_shout 28 = .ok (.iload_n 2, 1) := by decide +kernel
theorem dX10_shout_29 : decode cX10_shout 29 = .ok (.ifCond .ne 13, 3) := by decide +kernel
theorem dX10_shout_32 : decode cX10_shout 32 = .ok (.aload_n 0, 1) := by decide +kernel
theorem dX10_shout_33 : decode cX10_shout 33 = .ok (.getfield 36, 3) := by decide +kernel
theorem dX10_shout_36 : decode cX10_shout 36 = .ok (.getfield 207, 3) := by decide +kernel
theorem dX10_shout_39 : decode cX10_shout 39 = .ok (.iload_n 1, 1) := by decide +kernel
theorem dX10_shout_40 : decode cX10_shout 40 = .ok (.iaload, 1) := by decide +kernel
theorem dX10_shout_41 : decode cX10_shout 41 = .ok (.ireturn, 1) := by decide +kernel
theorem dX10_shout_42 : decode cX10_shout 42 = .ok (.iload_n 2, 1) := by decide +kernel
theorem dX10_shout_43 : decode cX10_shout 43 = .ok (.iconst 1, 1) := by decide +kernel
theorem dX10_shout_44 : decode cX10_shout 44 = .ok (.if_icmp .ne 13, 3) := by decide +kernel
theorem dX10_shout_47 : decode cX10_shout 47 = .ok (.aload_n 0, 1) := by decide +kernel
theorem dX10_shout_48 : decode cX10_shout 48 = .ok (.getfield 36, 3) := by decide +kernel
theorem dX10_shout_51 : decode cX10_shout 51 = .ok (.getfield 210, 3) := by decide +kernel
theorem dX10_shout_54 : decode cX10_shout 54 = .ok (.iload_n 1, 1) := by decide +kernel
theorem dX10_shout_55 : decode cX10_shout 55 = .ok (.iaload, 1) := by decide +kernel
theorem dX10_shout_56 : decode cX10_shout 56 = .ok (.ireturn, 1) := by decide +kernel
theorem dX10_shout_57 : decode cX10_shout 57 = .ok (.iload_n 2, 1) := by decide +kernel
theorem dX10_shout_58 : decode cX10_shout 58 = .ok (.iconst 2, 1) := by decide +kernel
theorem dX10_shout_59 : decode cX10_shout 59 = .ok (.if_icmp .ne 15, 3) := by decide +kernel
theorem dX10_shout_62 : decode cX10_shout 62 = .ok (.aload_n 0, 1) := by decide +kernel
theorem dX10_shout_63 : decode cX10_shout 63 = .ok (.getfield 36, 3) := by decide +kernel
theorem dX10_shout_66 : decode cX10_shout 66 = .ok (.getfield 211, 3) := by decide +kernel
theorem dX10_shout_69 : decode cX10_shout 69 = .ok (.iload_n 1, 1) := by decide +kernel
theorem dX10_shout_70 : decode cX10_shout 70 = .ok (.iaload, 1) := by decide +kernel
theorem dX10_shout_71 : decode cX10_shout 71 = .ok (.goto 12, 3) := by decide +kernel
theorem dX10_shout_74 : decode cX10_shout 74 = .ok (.aload_n 0, 1) := by decide +kernel
theorem dX10_shout_75 : decode cX10_shout 75 = .ok (.getfield 36, 3) := by decide +kernel
theorem dX10_shout_78 : decode cX10_shout 78 = .ok (.getfield 214, 3) := by decide +kernel
theorem dX10_shout_81 : decode cX10_shout 81 = .ok (.iload_n 1, 1) := by decide +kernel
theorem dX10_shout_82 : decode cX10_shout 82 = .ok (.iaload, 1) := by decide +kernel
theorem dX10_shout_83 : decode cX10_shout 83 = .ok (.ireturn, 1) := by decide +kernel
theorem dX10_known_0 : decode cX10_known 0 = .ok (.aload_n 0, 1) := by decide +kernel
theorem dX10_known_1 : decode cX10_known 1 = .ok (.getfield 26, 3) := by decide +kernel
theorem dX10_known_4 : decode cX10_known 4 = .ok (.iload_n 1, 1) := by decide +kernel
theorem dX10_known_5 : decode cX10_known 5 = .ok (.invokevirtual 109, 3) := by decide +kernel
theorem dX10_known_8 : decode cX10_known 8 = .ok (.ifCond .eq 18, 3) := by decide +kernel
theorem dX10_known_11 : decode cX10_known 11 = .ok (.aload_n 0, 1) := by decide +kernel
theorem dX10_known_12 : decode cX10_known 12 = .ok (.getfield 36, 3) := by decide +kernel
theorem dX10_known_15 : decode cX10_known 15 = .ok (.aload_n 0, 1) := by decide +kernel
theorem dX10_known_16 : decode cX10_known 16 = .ok (.getfield 26, 3) := by decide +kernel
theorem dX10_known_19 : decode cX10_known 19 = .ok (.iload_n 1, 1) := by decide +kernel
theorem dX10_known_20 : decode cX10_known 20 = .ok (.invokevirtual 217, 3) := by decide +kernel
theorem dX10_known_23 : decode cX10_known 23 = .ok (.goto 4, 3) := by decide +kernel
theorem dX10_known_26 : decode cX10_known 26 = .ok (.iconst (-1), 1) := by decide +kernel
theorem dX10_known_27 : decode cX10_known 27 = .ok (.ireturn, 1) := by decide +kernel
theorem dX10_least_0 : decode cX10_least 0 = .ok (.iload_n 1, 1) := by decide +kernel
theorem dX10_least_1 : decode cX10_least 1 = .ok (.iconst 0, 1) := by decide +kernel
theorem dX10_least_2 : decode cX10_least 2 = .ok (.iconst 1, 1) := by decide +kernel
theorem dX10_least_3 : decode cX10_least 3 = .ok (.invokestatic 84, 3) := by decide +kernel
theorem dX10_least_6 : decode cX10_least 6 = .ok (.ifCond .ne 5, 3) := by decide +kernel
theorem dX10_least_9 : decode cX10_least 9 = .ok (.iconst (-1), 1) := by decide +kernel
theorem dX10_least_10 : decode cX10_least 10 = .ok (.ireturn, 1) := by decide +kernel
theorem dX10_least_11 : decode cX10_least 11 = .ok (.aload_n 0, 1) := by decide +kernel
theorem dX10_least_12 : decode cX10_least 12 = .ok (.getfield 53, 3) := by decide +kernel
theorem dX10_least_15 : decode cX10_least 15 = .ok (.invokevirtual 221, 3) := by decide +kernel
theorem dX10_least_18 : decode cX10_least 18 = .ok (.iconst 0, 1) := by decide +kernel
theorem dX10_least_19 : decode cX10_least 19 = .ok (.istore_n 2, 1) := by decide +kernel
theorem dX10_least_20 : decode cX10_least 20 = .ok (.iload_n 2, 1) := by decide +kernel
theorem dX10_least_21 : decode cX10_least 21 = .ok (.aload_n 0, 1) := by decide +kernel
theorem dX10_least_22 : decode cX10_least 22 = .ok (.getfield 26, 3) := by decide +kernel
theorem dX10_least_25 : decode cX10_least 25 = .ok (.getfield 106, 3) := by decide +kernel
theorem dX10_least_28 : decode cX10_least 28 = .ok (.if_icmp .ge 33, 3) := by decide +kernel
theorem dX10_least_31 : decode cX10_least 31 = .ok (.aload_n 0, 1) := by decide +kernel
theorem dX10_least_32 : decode cX10_least 32 = .ok (.getfield 53, 3) := by decide +kernel
theorem dX10_least_35 : decode cX10_least 35 = .ok (.aload_n 0, 1) := by decide +kernel
theorem dX10_least_36 : decode cX10_least 36 = .ok (.getfield 26, 3) := by decide +kernel
theorem dX10_least_39 : decode cX10_least 39 = .ok (.iload_n 2, 1) := by decide +kernel
theorem dX10_least_40 : decode cX10_least 40 = .ok (.aload_n 0, 1) := by decide +kernel
theorem dX10_least_41 : decode cX10_least 41 = .ok (.getfield 36, 3) := by decide +kernel
theorem dX10_least_44 : decode cX10_least 44 = .ok (.aload_n 0, 1) := by decide +kernel
theorem dX10_least_45 : decode cX10_least 45 = .ok (.getfield 26, 3) := by decide +kernel
theorem dX10_least_48 : decode cX10_least 48 = .ok (.iload_n 2, 1) := by decide +kernel
theorem dX10_least_49 : decode cX10_least 49 = .ok (.invokevirtual 217, 3) := by decide +kernel
theorem dX10_least_52 : decode cX10_least 52 = .ok (.invokevirtual 224, 3) := by decide +kernel
theorem dX10_least_55 : decode cX10_least 55 = .ok (.iinc 2 1, 3) := by decide +kernel
theorem dX10_least_58 : decode cX10_least 58 = .ok (.goto (-38), 3) := by decide +kernel
theorem dX10_least_61 : decode cX10_least 61 = .ok (.aload_n 0, 1) := by decide +kernel
theorem dX10_least_62 : decode cX10_least 62 = .ok (.getfield 53, 3) := by decide +kernel
theorem dX10_least_65 : decode cX10_least 65 = .ok (.aload_n 0, 1) := by decide +kernel
theorem dX10_least_66 : decode cX10_least 66 = .ok (.getfield 26, 3) := by decide +kernel
theorem dX10_least_69 : decode cX10_least 69 = .ok (.getfield 124, 3) := by decide +kernel
theorem dX10_least_72 : decode cX10_least 72 = .ok (.invokevirtual 228, 3) := by decide +kernel
theorem dX10_least_75 : decode cX10_least 75 = .ok (.iload_n 1, 1) := by decide +kernel
theorem dX10_least_76 : decode cX10_least 76 = .ok (.ifCond .ne 13, 3) := by decide +kernel
theorem dX10_least_79 : decode cX10_least 79 = .ok (.aload_n 0, 1) := by decide +kernel
theorem dX10_least_80 : decode cX10_least 80 = .ok (.getfield 53, 3) := by decide +kernel
theorem dX10_least_83 : decode cX10_least 83 = .ok (.getfield 131, 3) := by decide +kernel
theorem dX10_least_86 : decode cX10_least 86 = .ok (.goto 10, 3) := by decide +kernel
theorem dX10_least_89 : decode cX10_least 89 = .ok (.aload_n 0, 1) := by decide +kernel
theorem dX10_least_90 : decode cX10_least 90 = .ok (.getfield 53, 3) := by decide +kernel
theorem dX10_least_93 : decode cX10_least 93 = .ok (.getfield 134, 3) := by decide +kernel
theorem dX10_least_96 : decode cX10_least 96 = .ok (.ireturn, 1) := by decide +kernel
theorem dX10_laws_0 : decode cX10_laws 0 = .ok (.aload_n 0, 1) := by decide +kernel
theorem dX10_laws_1 : decode cX10_laws 1 = .ok (.getfield 26, 3) := by decide +kernel
theorem dX10_laws_4 : decode cX10_laws 4 = .ok (.iload_n 1, 1) := by decide +kernel
theorem dX10_laws_5 : decode cX10_laws 5 = .ok (.invokevirtual 109, 3) := by decide +kernel
theorem dX10_laws_8 : decode cX10_laws 8 = .ok (.ifCond .ne 5, 3) := by decide +kernel
theorem dX10_laws_11 : decode cX10_laws 11 = .ok (.iconst (-1), 1) := by decide +kernel
theorem dX10_laws_12 : decode cX10_laws 12 = .ok (.ireturn, 1) := by decide +kernel
theorem dX10_laws_13 : decode cX10_laws 13 = .ok (.iconst 0, 1) := by decide +kernel
theorem dX10_laws_14 : decode cX10_laws 14 = .ok (.istore_n 2, 1) := by decide +kernel
theorem dX10_laws_15 : decode cX10_laws 15 = .ok (.iconst 0, 1) := by decide +kernel
theorem dX10_laws_16 : decode cX10_laws 16 = .ok (.istore_n 3, 1) := by decide +kernel
theorem dX10_laws_17 : decode cX10_laws 17 = .ok (.iload_n 3, 1) := by decide +kernel
theorem dX10_laws_18 : decode cX10_laws 18 = .ok (.iconst 5, 1) := by decide +kernel
theorem dX10_laws_19 : decode cX10_laws 19 = .ok (.if_icmp .gt 31, 3) := by decide +kernel
theorem dX10_laws_22 : decode cX10_laws 22 = .ok (.aload_n 0, 1) := by decide +kernel
theorem dX10_laws_23 : decode cX10_laws 23 = .ok (.getfield 36, 3) := by decide +kernel
theorem dX10_laws_26 : decode cX10_laws 26 = .ok (.aload_n 0, 1) := by decide +kernel
theorem dX10_laws_27 : decode cX10_laws 27 = .ok (.getfield 26, 3) := by decide +kernel
theorem dX10_laws_30 : decode cX10_laws 30 = .ok (.iload_n 1, 1) := by decide +kernel
theorem dX10_laws_31 : decode cX10_laws 31 = .ok (.iload_n 3, 1) := by decide +kernel
theorem dX10_laws_32 : decode cX10_laws 32 = .ok (.invokevirtual 231, 3) := by decide +kernel
theorem dX10_laws_35 : decode cX10_laws 35 = .ok (.ifCond .eq 9, 3) := by decide +kernel
theorem dX10_laws_38 : decode cX10_laws 38 = .ok (.iload_n 2, 1) := by decide +kernel
theorem dX10_laws_39 : decode cX10_laws 39 = .ok (.iconst 1, 1) := by decide +kernel
theorem dX10_laws_40 : decode cX10_laws 40 = .ok (.iload_n 3, 1) := by decide +kernel
theorem dX10_laws_41 : decode cX10_laws 41 = .ok (.ishl, 1) := by decide +kernel
theorem dX10_laws_42 : decode cX10_laws 42 = .ok (.ior, 1) := by decide +kernel
theorem dX10_laws_43 : decode cX10_laws 43 = .ok (.istore_n 2, 1) := by decide +kernel
theorem dX10_laws_44 : decode cX10_laws 44 = .ok (.iinc 3 1, 3) := by decide +kernel
theorem dX10_laws_47 : decode cX10_laws 47 = .ok (.goto (-30), 3) := by decide +kernel
theorem dX10_laws_50 : decode cX10_laws 50 = .ok (.iload_n 2, 1) := by decide +kernel
theorem dX10_laws_51 : decode cX10_laws 51 = .ok (.ireturn, 1) := by decide +kernel
theorem dX10_two_0 : decode cX10_two 0 = .ok (.iload_n 1, 1) := by decide +kernel
theorem dX10_two_1 : decode cX10_two 1 = .ok (.iconst 0, 1) := by decide +kernel
theorem dX10_two_2 : decode cX10_two 2 = .ok (.iconst 1, 1) := by decide +kernel
theorem dX10_two_3 : decode cX10_two 3 = .ok (.aload_n 0, 1) := by decide +kernel
theorem dX10_two_4 : decode cX10_two 4 = .ok (.getfield 26, 3) := by decide +kernel
theorem dX10_two_7 : decode cX10_two 7 = .ok (.getfield 106, 3) := by decide +kernel
theorem dX10_two_10 : decode cX10_two 10 = .ok (.ishl, 1) := by decide +kernel
theorem dX10_two_11 : decode cX10_two 11 = .ok (.iconst 1, 1) := by decide +kernel
theorem dX10_two_12 : decode cX10_two 12 = .ok (.isub, 1) := by decide +kernel
theorem dX10_two_13 : decode cX10_two 13 = .ok (.invokestatic 84, 3) := by decide +kernel
theorem dX10_two_16 : decode cX10_two 16 = .ok (.ifCond .eq 22, 3) := by decide +kernel
theorem dX10_two_19 : decode cX10_two 19 = .ok (.iload_n 2, 1) := by decide +kernel
theorem dX10_two_20 : decode cX10_two 20 = .ok (.iconst 0, 1) := by decide +kernel
theorem dX10_two_21 : decode cX10_two 21 = .ok (.bipush 99, 2) := by decide +kernel
theorem dX10_two_23 : decode cX10_two 23 = .ok (.invokestatic 84, 3) := by decide +kernel
theorem dX10_two_26 : decode cX10_two 26 = .ok (.ifCond .eq 12, 3) := by decide +kernel
theorem dX10_two_29 : decode cX10_two 29 = .ok (.iload_n 3, 1) := by decide +kernel
theorem dX10_two_30 : decode cX10_two 30 = .ok (.iconst 0, 1) := by decide +kernel
theorem dX10_two_31 : decode cX10_two 31 = .ok (.iconst 1, 1) := by decide +kernel
theorem dX10_two_32 : decode cX10_two 32 = .ok (.invokestatic 84, 3) := by decide +kernel
theorem dX10_two_35 : decode cX10_two 35 = .ok (.ifCond .ne 7, 3) := by decide +kernel
theorem dX10_two_38 : decode cX10_two 38 = .ok (.sipush (-10000), 3) := by decide +kernel
theorem dX10_two_41 : decode cX10_two 41 = .ok (.ireturn, 1) := by decide +kernel
theorem dX10_two_42 : decode cX10_two 42 = .ok (.aload_n 0, 1) := by decide +kernel
theorem dX10_two_43 : decode cX10_two 43 = .ok (.getfield 53, 3) := by decide +kernel
theorem dX10_two_46 : decode cX10_two 46 = .ok (.invokevirtual 221, 3) := by decide +kernel
theorem dX10_two_49 : decode cX10_two 49 = .ok (.aload_n 0, 1) := by decide +kernel
theorem dX10_two_50 : decode cX10_two 50 = .ok (.getfield 57, 3) := by decide +kernel
theorem dX10_two_53 : decode cX10_two 53 = .ok (.invokevirtual 221, 3) := by decide +kernel
theorem dX10_two_56 : decode cX10_two 56 = .ok (.iconst 0, 1) := by decide +kernel
theorem dX10_two_57 : decode cX10_two 57 = .ok (.istore 4, 2) := by decide +kernel
theorem dX10_two_59 : decode cX10_two 59 = .ok (.iload 4, 2) := by decide +kernel
theorem dX10_two_61 : decode cX10_two 61 = .ok (.aload_n 0, 1) := by decide +kernel
theorem dX10_two_62 : decode cX10_two 62 = .ok (.getfield 26, 3) := by decide +kernel
theorem dX10_two_65 : decode cX10_two 65 = .ok (.getfield 106, 3) := by decide +kernel
theorem dX10_two_68 : decode cX10_two 68 = .ok (.if_icmp .ge 53, 3) := by decide +kernel
theorem dX10_two_71 : decode cX10_two 71 = .ok (.iload_n 1, 1) := by decide +kernel
theorem dX10_two_72 : decode cX10_two 72 = .ok (.iload 4, 2) := by decide +kernel
theorem dX10_two_74 : decode cX10_two 74 = .ok (.ishr, 1) := by decide +kernel
theorem dX10_two_75 : decode cX10_two 75 = .ok (.iconst 1, 1) := by decide +kernel
theorem dX10_two_76 : decode cX10_two 76 = .ok (.iand, 1) := by decide +kernel
theorem dX10_two_77 : decode cX10_two 77 = .ok (.iconst 1, 1) := by decide +kernel
theorem dX10_two_78 : decode cX10_two 78 = .ok (.if_icmp .ne 10, 3) := by decide +kernel
theorem dX10_two_81 : decode cX10_two 81 = .ok (.aload_n 0, 1) := by decide +kernel
theorem dX10_two_82 : decode cX10_two 82 = .ok (.getfield 57, 3) := by decide +kernel
theorem dX10_two_85 : decode cX10_two 85 = .ok (.goto 7, 3) := by decide +kernel
theorem dX10_two_88 : decode cX10_two 88 = .ok (.aload_n 0, 1) := by decide +kernel
theorem dX10_two_89 : decode cX10_two 89 = .ok (.getfield 53, 3) := by decide +kernel
theorem dX10_two_92 : decode cX10_two 92 = .ok (.astore 5, 2) := by decide +kernel
theorem dX10_two_94 : decode cX10_two 94 = .ok (.aload 5, 2) := by decide +kernel
theorem dX10_two_96 : decode cX10_two 96 = .ok (.aload_n 0, 1) := by decide +kernel
theorem dX10_two_97 : decode cX10_two 97 = .ok (.getfield 26, 3) := by decide +kernel
theorem dX10_two_100 : decode cX10_two 100 = .ok (.iload 4, 2) := by decide +kernel
theorem dX10_two_102 : decode cX10_two 102 = .ok (.aload_n 0, 1) := by decide +kernel
theorem dX10_two_103 : decode cX10_two 103 = .ok (.getfield 26, 3) := by decide +kernel
theorem dX10_two_106 : decode cX10_two 106 = .ok (.getfield 117, 3) := by decide +kernel
theorem dX10_two_109 : decode cX10_two 109 = .ok (.iload 4, 2) := by decide +kernel
theorem dX10_two_111 : decode cX10_two 111 = .ok (.iaload, 1) := by decide +kernel
theorem dX10_two_112 : decode cX10_two 112 = .ok (.invokevirtual 224, 3) := by decide +kernel
theorem dX10_two_115 : decode cX10_two 115 = .ok (.iinc 4 1, 3) := by decide +kernel
theorem dX10_two_118 : decode cX10_two 118 = .ok (.goto (-59), 3) := by decide +kernel
theorem dX10_two_121 : decode cX10_two 121 = .ok (.aload_n 0, 1) := by decide +kernel
theorem dX10_two_122 : decode cX10_two 122 = .ok (.getfield 70, 3) := by decide +kernel
theorem dX10_two_125 : decode cX10_two 125 = .ok (.aload_n 0, 1) := by decide +kernel
theorem dX10_two_126 : decode cX10_two 126 = .ok (.getfield 53, 3) := by decide +kernel
theorem dX10_two_129 : decode cX10_two 129 = .ok (.aload_n 0, 1) := by decide +kernel
theorem dX10_two_130 : decode cX10_two 130 = .ok (.getfield 57, 3) := by decide +kernel
theorem dX10_two_133 : decode cX10_two 133 = .ok (.iload_n 2, 1) := by decide +kernel
theorem dX10_two_134 : decode cX10_two 134 = .ok (.invokevirtual 235, 3) := by decide +kernel
theorem dX10_two_137 : decode cX10_two 137 = .ok (.iload_n 3, 1) := by decide +kernel
theorem dX10_two_138 : decode cX10_two 138 = .ok (.ifCond .ne 13, 3) := by decide +kernel
theorem dX10_two_141 : decode cX10_two 141 = .ok (.aload_n 0, 1) := by decide +kernel
theorem dX10_two_142 : decode cX10_two 142 = .ok (.getfield 70, 3) := by decide +kernel
theorem dX10_two_145 : decode cX10_two 145 = .ok (.getfield 239, 3) := by decide +kernel
theorem dX10_two_148 : decode cX10_two 148 = .ok (.goto 10, 3) := by decide +kernel
theorem dX10_two_151 : decode cX10_two 151 = .ok (.aload_n 0, 1) := by decide +kernel
theorem dX10_two_152 : decode cX10_two 152 = .ok (.getfield 70, 3) := by decide +kernel
theorem dX10_two_155 : decode cX10_two 155 = .ok (.getfield 240, 3) := by decide +kernel
theorem dX10_two_158 : decode cX10_two 158 = .ok (.ireturn, 1) := by decide +kernel
theorem dX10_keep_0 : decode cX10_keep 0 = .ok (.aload_n 0, 1) := by decide +kernel
theorem dX10_keep_1 : decode cX10_keep 1 = .ok (.getfield 46, 3) := by decide +kernel
theorem dX10_keep_4 : decode cX10_keep 4 = .ok (.iconst 2, 1) := by decide +kernel
theorem dX10_keep_5 : decode cX10_keep 5 = .ok (.if_icmp .lt 6, 3) := by decide +kernel
theorem dX10_keep_8 : decode cX10_keep 8 = .ok (.bipush (-3), 2) := by decide +kernel
theorem dX10_keep_10 : decode cX10_keep 10 = .ok (.ireturn, 1) := by decide +kernel
theorem dX10_keep_11 : decode cX10_keep 11 = .ok (.aload_n 0, 1) := by decide +kernel
theorem dX10_keep_12 : decode cX10_keep 12 = .ok (.getfield 42, 3) := by decide +kernel
theorem dX10_keep_15 : decode cX10_keep 15 = .ok (.aload_n 0, 1) := by decide +kernel
theorem dX10_keep_16 : decode cX10_keep 16 = .ok (.getfield 46, 3) := by decide +kernel
theorem dX10_keep_19 : decode cX10_keep 19 = .ok (.aaload, 1) := by decide +kernel
theorem dX10_keep_20 : decode cX10_keep 20 = .ok (.aload_n 0, 1) := by decide +kernel
theorem dX10_keep_21 : decode cX10_keep 21 = .ok (.getfield 26, 3) := by decide +kernel
theorem dX10_keep_24 : decode cX10_keep 24 = .ok (.aload_n 0, 1) := by decide +kernel
theorem dX10_keep_25 : decode cX10_keep 25 = .ok (.getfield 36, 3) := by decide +kernel
theorem dX10_keep_28 : decode cX10_keep 28 = .ok (.invokevirtual 243, 3) := by decide +kernel
theorem dX10_keep_31 : decode cX10_keep 31 = .ok (.aload_n 0, 1) := by decide +kernel
theorem dX10_keep_32 : decode cX10_keep 32 = .ok (.dup, 1) := by decide +kernel
theorem dX10_keep_33 : decode cX10_keep 33 = .ok (.getfield 46, 3) := by decide +kernel
theorem dX10_keep_36 : decode cX10_keep 36 = .ok (.iconst 1, 1) := by decide +kernel
theorem dX10_keep_37 : decode cX10_keep 37 = .ok (.iadd, 1) := by decide +kernel
theorem dX10_keep_38 : decode cX10_keep 38 = .ok (.putfield 46, 3) := by decide +kernel
theorem dX10_keep_41 : decode cX10_keep 41 = .ok (.aload_n 0, 1) := by decide +kernel
theorem dX10_keep_42 : decode cX10_keep 42 = .ok (.getfield 46, 3) := by decide +kernel
theorem dX10_keep_45 : decode cX10_keep 45 = .ok (.ireturn, 1) := by decide +kernel
theorem dX10_back_0 : decode cX10_back 0 = .ok (.aload_n 0, 1) := by decide +kernel
theorem dX10_back_1 : decode cX10_back 1 = .ok (.getfield 46, 3) := by decide +kernel
theorem dX10_back_4 : decode cX10_back 4 = .ok (.iconst 1, 1) := by decide +kernel
theorem dX10_back_5 : decode cX10_back 5 = .ok (.if_icmp .ge 6, 3) := by decide +kernel
theorem dX10_back_8 : decode cX10_back 8 = .ok (.bipush (-2), 2) := by decide +kernel
theorem dX10_back_10 : decode cX10_back 10 = .ok (.ireturn, 1) := by decide +kernel
theorem dX10_back_11 : decode cX10_back 11 = .ok (.aload_n 0, 1) := by decide +kernel
theorem dX10_back_12 : decode cX10_back 12 = .ok (.dup, 1) := by decide +kernel
theorem dX10_back_13 : decode cX10_back 13 = .ok (.getfield 46, 3) := by decide +kernel
theorem dX10_back_16 : decode cX10_back 16 = .ok (.iconst 1, 1) := by decide +kernel
theorem dX10_back_17 : decode cX10_back 17 = .ok (.isub, 1) := by decide +kernel
theorem dX10_back_18 : decode cX10_back 18 = .ok (.putfield 46, 3) := by decide +kernel
theorem dX10_back_21 : decode cX10_back 21 = .ok (.aload_n 0, 1) := by decide +kernel
theorem dX10_back_22 : decode cX10_back 22 = .ok (.getfield 42, 3) := by decide +kernel
theorem dX10_back_25 : decode cX10_back 25 = .ok (.aload_n 0, 1) := by decide +kernel
theorem dX10_back_26 : decode cX10_back 26 = .ok (.getfield 46, 3) := by decide +kernel
theorem dX10_back_29 : decode cX10_back 29 = .ok (.aaload, 1) := by decide +kernel
theorem dX10_back_30 : decode cX10_back 30 = .ok (.aload_n 0, 1) := by decide +kernel
theorem dX10_back_31 : decode cX10_back 31 = .ok (.getfield 26, 3) := by decide +kernel
theorem dX10_back_34 : decode cX10_back 34 = .ok (.aload_n 0, 1) := by decide +kernel
theorem dX10_back_35 : decode cX10_back 35 = .ok (.getfield 36, 3) := by decide +kernel
theorem dX10_back_38 : decode cX10_back 38 = .ok (.invokevirtual 247, 3) := by decide +kernel
theorem dX10_back_41 : decode cX10_back 41 = .ok (.aload_n 0, 1) := by decide +kernel
theorem dX10_back_42 : decode cX10_back 42 = .ok (.getfield 46, 3) := by decide +kernel
theorem dX10_back_45 : decode cX10_back 45 = .ok (.ireturn, 1) := by decide +kernel
theorem dX10_count_0 : decode cX10_count 0 = .ok (.iload_n 1, 1) := by decide +kernel
theorem dX10_count_1 : decode cX10_count 1 = .ok (.tableswitch 96 0 6 #[43, 51, 59, 67, 75, 83, 88], 43) := by decide +kernel
theorem dX10_count_44 : decode cX10_count 44 = .ok (.aload_n 0, 1) := by decide +kernel
theorem dX10_count_45 : decode cX10_count 45 = .ok (.getfield 26, 3) := by decide +kernel
theorem dX10_count_48 : decode cX10_count 48 = .ok (.getfield 106, 3) := by decide +kernel
theorem dX10_count_51 : decode cX10_count 51 = .ok (.ireturn, 1) := by decide +kernel
theorem dX10_count_52 : decode cX10_count 52 = .ok (.aload_n 0, 1) := by decide +kernel
theorem dX10_count_53 : decode cX10_count 53 = .ok (.getfield 26, 3) := by decide +kernel
theorem dX10_count_56 : decode cX10_count 56 = .ok (.getfield 99, 3) := by decide +kernel
theorem dX10_count_59 : decode cX10_count 59 = .ok (.ireturn, 1) := by decide +kernel
theorem dX10_count_60 : decode cX10_count 60 = .ok (.aload_n 0, 1) := by decide +kernel
theorem dX10_count_61 : decode cX10_count 61 = .ok (.getfield 26, 3) := by decide +kernel
theorem dX10_count_64 : decode cX10_count 64 = .ok (.getfield 102, 3) := by decide +kernel
theorem dX10_count_67 : decode cX10_count 67 = .ok (.ireturn, 1) := by decide +kernel
theorem dX10_count_68 : decode cX10_count 68 = .ok (.aload_n 0, 1) := by decide +kernel
theorem dX10_count_69 : decode cX10_count 69 = .ok (.getfield 10, 3) := by decide +kernel
theorem dX10_count_72 : decode cX10_count 72 = .ok (.getfield 88, 3) := by decide +kernel
theorem dX10_count_75 : decode cX10_count 75 = .ok (.ireturn, 1) := by decide +kernel
theorem dX10_count_76 : decode cX10_count 76 = .ok (.aload_n 0, 1) := by decide +kernel
theorem dX10_count_77 : decode cX10_count 77 = .ok (.getfield 36, 3) := by decide +kernel
theorem dX10_count_80 : decode cX10_count 80 = .ok (.getfield 105, 3) := by decide +kernel
theorem dX10_count_83 : decode cX10_count 83 = .ok (.ireturn, 1) := by decide +kernel
theorem dX10_count_84 : decode cX10_count 84 = .ok (.aload_n 0, 1) := by decide +kernel
theorem dX10_count_85 : decode cX10_count 85 = .ok (.getfield 46, 3) := by decide +kernel
theorem dX10_count_88 : decode cX10_count 88 = .ok (.ireturn, 1) := by decide +kernel
theorem dX10_count_89 : decode cX10_count 89 = .ok (.aload_n 0, 1) := by decide +kernel
theorem dX10_count_90 : decode cX10_count 90 = .ok (.getfield 26, 3) := by decide +kernel
theorem dX10_count_93 : decode cX10_count 93 = .ok (.getfield 250, 3) := by decide +kernel
theorem dX10_count_96 : decode cX10_count 96 = .ok (.ireturn, 1) := by decide +kernel
theorem dX10_count_97 : decode cX10_count 97 = .ok (.iconst (-1), 1) := by decide +kernel
theorem dX10_count_98 : decode cX10_count 98 = .ok (.ireturn, 1) := by decide +kernel
theorem dX10_within_0 : decode cX10_within 0 = .ok (.iload_n 0, 1) := by decide +kernel
theorem dX10_within_1 : decode cX10_within 1 = .ok (.iload_n 1, 1) := by decide +kernel
theorem dX10_within_2 : decode cX10_within 2 = .ok (.if_icmp .lt 12, 3) := by decide +kernel
theorem dX10_within_5 : decode cX10_within 5 = .ok (.iload_n 0, 1) := by decide +kernel
theorem dX10_within_6 : decode cX10_within 6 = .ok (.iload_n 2, 1) := by decide +kernel
theorem dX10_within_7 : decode cX10_within 7 = .ok (.if_icmp .gt 7, 3) := by decide +kernel
theorem dX10_within_10 : decode cX10_within 10 = .ok (.iconst 1, 1) := by decide +kernel
theorem dX10_within_11 : decode cX10_within 11 = .ok (.goto 4, 3) := by decide +kernel
theorem dX10_within_14 : decode cX10_within 14 = .ok (.iconst 0, 1) := by decide +kernel
theorem dX10_within_15 : decode cX10_within 15 = .ok (.ireturn, 1) := by decide +kernel
theorem dX10_gainOfAllMeetings_0 : decode cX10_gainOfAllMeetings 0 = .ok (.iconst 0, 1) := by decide +kernel
theorem dX10_gainOfAllMeetings_1 : decode cX10_gainOfAllMeetings 1 = .ok (.istore_n 1, 1) := by decide +kernel
theorem dX10_gainOfAllMeetings_2 : decode cX10_gainOfAllMeetings 2 = .ok (.iconst 0, 1) := by decide +kernel
theorem dX10_gainOfAllMeetings_3 : decode cX10_gainOfAllMeetings 3 = .ok (.istore_n 2, 1) := by decide +kernel
theorem dX10_gainOfAllMeetings_4 : decode cX10_gainOfAllMeetings 4 = .ok (.iload_n 2, 1) := by decide +kernel
theorem dX10_gainOfAllMeetings_5 : decode cX10_gainOfAllMeetings 5 = .ok (.aload_n 0, 1) := by decide +kernel
theorem dX10_gainOfAllMeetings_6 : decode cX10_gainOfAllMeetings 6 = .ok (.getfield 26, 3) := by decide +kernel
theorem dX10_gainOfAllMeetings_9 : decode cX10_gainOfAllMeetings 9 = .ok (.getfield 99, 3) := by decide +kernel
theorem dX10_gainOfAllMeetings_12 : decode cX10_gainOfAllMeetings 12 = .ok (.if_icmp .ge 89, 3) := by decide +kernel
theorem dX10_gainOfAllMeetings_15 : decode cX10_gainOfAllMeetings 15 = .ok (.iconst 0, 1) := by decide +kernel
theorem dX10_gainOfAllMeetings_16 : decode cX10_gainOfAllMeetings 16 = .ok (.istore_n 3, 1) := by decide +kernel
theorem dX10_gainOfAllMeetings_17 : decode cX10_gainOfAllMeetings 17 = .ok (.iload_n 3, 1) := by decide +kernel
theorem dX10_gainOfAllMeetings_18 : decode cX10_gainOfAllMeetings 18 = .ok (.aload_n 0, 1) := by decide +kernel
theorem dX10_gainOfAllMeetings_19 : decode cX10_gainOfAllMeetings 19 = .ok (.getfield 26, 3) := by decide +kernel
theorem dX10_gainOfAllMeetings_22 : decode cX10_gainOfAllMeetings 22 = .ok (.getfield 102, 3) := by decide +kernel
theorem dX10_gainOfAllMeetings_25 : decode cX10_gainOfAllMeetings 25 = .ok (.if_icmp .ge 70, 3) := by decide +kernel
theorem dX10_gainOfAllMeetings_28 : decode cX10_gainOfAllMeetings 28 = .ok (.aload_n 0, 1) := by decide +kernel
theorem dX10_gainOfAllMeetings_29 : decode cX10_gainOfAllMeetings 29 = .ok (.getfield 26, 3) := by decide +kernel
theorem dX10_gainOfAllMeetings_32 : decode cX10_gainOfAllMeetings 32 = .ok (.getfield 117, 3) := by decide +kernel
theorem dX10_gainOfAllMeetings_35 : decode cX10_gainOfAllMeetings 35 = .ok (.aload_n 0, 1) := by decide +kernel
theorem dX10_gainOfAllMeetings_36 : decode cX10_gainOfAllMeetings 36 = .ok (.getfield 26, 3) := by decide +kernel
theorem dX10_gainOfAllMeetings_39 : decode cX10_gainOfAllMeetings 39 = .ok (.getfield 253, 3) := by decide +kernel
theorem dX10_gainOfAllMeetings_42 : decode cX10_gainOfAllMeetings 42 = .ok (.iload_n 2, 1) := by decide +kernel
theorem dX10_gainOfAllMeetings_43 : decode cX10_gainOfAllMeetings 43 = .ok (.iaload, 1) := by decide +kernel
theorem dX10_gainOfAllMeetings_44 : decode cX10_gainOfAllMeetings 44 = .ok (.iaload, 1) := by decide +kernel
theorem dX10_gainOfAllMeetings_45 : decode cX10_gainOfAllMeetings 45 = .ok (.istore 4, 2) := by decide +kernel
theorem dX10_gainOfAllMeetings_47 : decode cX10_gainOfAllMeetings 47 = .ok (.aload_n 0, 1) := by decide +kernel
theorem dX10_gainOfAllMeetings_48 : decode cX10_gainOfAllMeetings 48 = .ok (.getfield 26, 3) := by decide +kernel
theorem dX10_gainOfAllMeetings_51 : decode cX10_gainOfAllMeetings 51 = .ok (.getfield 117, 3) := by decide +kernel
theorem dX10_gainOfAllMeetings_54 : decode cX10_gainOfAllMeetings 54 = .ok (.aload_n 0, 1) := by decide +kernel
theorem dX10_gainOfAllMeetings_55 : decode cX10_gainOfAllMeetings 55 = .ok (.getfield 26, 3) := by decide +kernel
theorem dX10_gainOfAllMeetings_58 : decode cX10_gainOfAllMeetings 58 = .ok (.getfield 256, 3) := by decide +kernel
theorem dX10_gainOfAllMeetings_61 : decode cX10_gainOfAllMeetings 61 = .ok (.iload_n 3, 1) := by decide +kernel
theorem dX10_gainOfAllMeetings_62 : decode cX10_gainOfAllMeetings 62 = .ok (.iaload, 1) := by decide +kernel
theorem dX10_gainOfAllMeetings_63 : decode cX10_gainOfAllMeetings 63 = .ok (.iaload, 1) := by decide +kernel
theorem dX10_gainOfAllMeetings_64 : decode cX10_gainOfAllMeetings 64 = .ok (.istore 5, 2) := by decide +kernel
theorem dX10_gainOfAllMeetings_66 : decode cX10_gainOfAllMeetings 66 = .ok (.iload 4, 2) := by decide +kernel
theorem dX10_gainOfAllMeetings_68 : decode cX10_gainOfAllMeetings 68 = .ok (.iload 5, 2) := by decide +kernel
theorem dX10_gainOfAllMeetings_70 : decode cX10_gainOfAllMeetings 70 = .ok (.aload_n 0, 1) := by decide +kernel
theorem dX10_gainOfAllMeetings_71 : decode cX10_gainOfAllMeetings 71 = .ok (.getfield 26, 3) := by decide +kernel
theorem dX10_gainOfAllMeetings_74 : decode cX10_gainOfAllMeetings 74 = .ok (.getfield 124, 3) := by decide +kernel
theorem dX10_gainOfAllMeetings_77 : decode cX10_gainOfAllMeetings 77 = .ok (.iadd, 1) := by decide +kernel
theorem dX10_gainOfAllMeetings_78 : decode cX10_gainOfAllMeetings 78 = .ok (.if_icmp .lt 11, 3) := by decide +kernel
theorem dX10_gainOfAllMeetings_81 : decode cX10_gainOfAllMeetings 81 = .ok (.iload_n 1, 1) := by decide +kernel
theorem dX10_gainOfAllMeetings_82 : decode cX10_gainOfAllMeetings 82 = .ok (.iload 4, 2) := by decide +kernel
theorem dX10_gainOfAllMeetings_84 : decode cX10_gainOfAllMeetings 84 = .ok (.iload 5, 2) := by decide +kernel
theorem dX10_gainOfAllMeetings_86 : decode cX10_gainOfAllMeetings 86 = .ok (.isub, 1) := by decide +kernel
theorem dX10_gainOfAllMeetings_87 : decode cX10_gainOfAllMeetings 87 = .ok (.iadd, 1) := by decide +kernel
theorem dX10_gainOfAllMeetings_88 : decode cX10_gainOfAllMeetings 88 = .ok (.istore_n 1, 1) := by decide +kernel
theorem dX10_gainOfAllMeetings_89 : decode cX10_gainOfAllMeetings 89 = .ok (.iinc 3 1, 3) := by decide +kernel
theorem dX10_gainOfAllMeetings_92 : decode cX10_gainOfAllMeetings 92 = .ok (.goto (-75), 3) := by decide +kernel
theorem dX10_gainOfAllMeetings_95 : decode cX10_gainOfAllMeetings 95 = .ok (.iinc 2 1, 3) := by decide +kernel
theorem dX10_gainOfAllMeetings_98 : decode cX10_gainOfAllMeetings 98 = .ok (.goto (-94), 3) := by decide +kernel
theorem dX10_gainOfAllMeetings_101 : decode cX10_gainOfAllMeetings 101 = .ok (.iload_n 1, 1) := by decide +kernel
theorem dX10_gainOfAllMeetings_102 : decode cX10_gainOfAllMeetings 102 = .ok (.ireturn, 1) := by decide +kernel
theorem dX10_gainOfTelling_0 : decode cX10_gainOfTelling 0 = .ok (.aload_n 0, 1) := by decide +kernel
theorem dX10_gainOfTelling_1 : decode cX10_gainOfTelling 1 = .ok (.getfield 53, 3) := by decide +kernel
theorem dX10_gainOfTelling_4 : decode cX10_gainOfTelling 4 = .ok (.invokevirtual 221, 3) := by decide +kernel
theorem dX10_gainOfTelling_7 : decode cX10_gainOfTelling 7 = .ok (.iconst 0, 1) := by decide +kernel
theorem dX10_gainOfTelling_8 : decode cX10_gainOfTelling 8 = .ok (.istore_n 3, 1) := by decide +kernel
theorem dX10_gainOfTelling_9 : decode cX10_gainOfTelling 9 = .ok (.iload_n 3, 1) := by decide +kernel
theorem dX10_gainOfTelling_10 : decode cX10_gainOfTelling 10 = .ok (.aload_n 0, 1) := by decide +kernel
theorem dX10_gainOfTelling_11 : decode cX10_gainOfTelling 11 = .ok (.getfield 26, 3) := by decide +kernel
theorem dX10_gainOfTelling_14 : decode cX10_gainOfTelling 14 = .ok (.getfield 106, 3) := by decide +kernel
theorem dX10_gainOfTelling_17 : decode cX10_gainOfTelling 17 = .ok (.if_icmp .ge 39, 3) := by decide +kernel
theorem dX10_gainOfTelling_20 : decode cX10_gainOfTelling 20 = .ok (.aload_n 0, 1) := by decide +kernel
theorem dX10_gainOfTelling_21 : decode cX10_gainOfTelling 21 = .ok (.getfield 53, 3) := by decide +kernel
theorem dX10_gainOfTelling_24 : decode cX10_gainOfTelling 24 = .ok (.aload_n 0, 1) := by decide +kernel
theorem dX10_gainOfTelling_25 : decode cX10_gainOfTelling 25 = .ok (.getfield 26, 3) := by decide +kernel
theorem dX10_gainOfTelling_28 : decode cX10_gainOfTelling 28 = .ok (.iload_n 3, 1) := by decide +kernel
theorem dX10_gainOfTelling_29 : decode cX10_gainOfTelling 29 = .ok (.iload_n 3, 1) := by decide +kernel
theorem dX10_gainOfTelling_30 : decode cX10_gainOfTelling 30 = .ok (.iload_n 1, 1) := by decide +kernel
theorem dX10_gainOfTelling_31 : decode cX10_gainOfTelling 31 = .ok (.if_icmp .ne 7, 3) := by decide +kernel
theorem dX10_gainOfTelling_34 : decode cX10_gainOfTelling 34 = .ok (.iload_n 2, 1) := by decide +kernel
theorem dX10_gainOfTelling_35 : decode cX10_gainOfTelling 35 = .ok (.goto 12, 3) := by decide +kernel
theorem dX10_gainOfTelling_38 : decode cX10_gainOfTelling 38 = .ok (.aload_n 0, 1) := by decide +kernel
theorem dX10_gainOfTelling_39 : decode cX10_gainOfTelling 39 = .ok (.getfield 26, 3) := by decide +kernel
theorem dX10_gainOfTelling_42 : decode cX10_gainOfTelling 42 = .ok (.getfield 117, 3) := by decide +kernel
theorem dX10_gainOfTelling_45 : decode cX10_gainOfTelling 45 = .ok (.iload_n 3, 1) := by decide +kernel
theorem dX10_gainOfTelling_46 : decode cX10_gainOfTelling 46 = .ok (.iaload, 1) := by decide +kernel
theorem dX10_gainOfTelling_47 : decode cX10_gainOfTelling 47 = .ok (.invokevirtual 224, 3) := by decide +kernel
theorem dX10_gainOfTelling_50 : decode cX10_gainOfTelling 50 = .ok (.iinc 3 1, 3) := by decide +kernel
theorem dX10_gainOfTelling_53 : decode cX10_gainOfTelling 53 = .ok (.goto (-44), 3) := by decide +kernel
theorem dX10_gainOfTelling_56 : decode cX10_gainOfTelling 56 = .ok (.aload_n 0, 1) := by decide +kernel
theorem dX10_gainOfTelling_57 : decode cX10_gainOfTelling 57 = .ok (.getfield 53, 3) := by decide +kernel
theorem dX10_gainOfTelling_60 : decode cX10_gainOfTelling 60 = .ok (.aload_n 0, 1) := by decide +kernel
theorem dX10_gainOfTelling_61 : decode cX10_gainOfTelling 61 = .ok (.getfield 26, 3) := by decide +kernel
theorem dX10_gainOfTelling_64 : decode cX10_gainOfTelling 64 = .ok (.getfield 124, 3) := by decide +kernel
theorem dX10_gainOfTelling_67 : decode cX10_gainOfTelling 67 = .ok (.invokevirtual 228, 3) := by decide +kernel
theorem dX10_gainOfTelling_70 : decode cX10_gainOfTelling 70 = .ok (.aload_n 0, 1) := by decide +kernel
theorem dX10_gainOfTelling_71 : decode cX10_gainOfTelling 71 = .ok (.getfield 53, 3) := by decide +kernel
theorem dX10_gainOfTelling_74 : decode cX10_gainOfTelling 74 = .ok (.aload_n 0, 1) := by decide +kernel
theorem dX10_gainOfTelling_75 : decode cX10_gainOfTelling 75 = .ok (.getfield 26, 3) := by decide +kernel
theorem dX10_gainOfTelling_78 : decode cX10_gainOfTelling 78 = .ok (.getfield 113, 3) := by decide +kernel
theorem dX10_gainOfTelling_81 : decode cX10_gainOfTelling 81 = .ok (.iload_n 1, 1) := by decide +kernel
theorem dX10_gainOfTelling_82 : decode cX10_gainOfTelling 82 = .ok (.baload, 1) := by decide +kernel
theorem dX10_gainOfTelling_83 : decode cX10_gainOfTelling 83 = .ok (.iload_n 1, 1) := by decide +kernel
theorem dX10_gainOfTelling_84 : decode cX10_gainOfTelling 84 = .ok (.invokevirtual 259, 3) := by decide +kernel
theorem dX10_gainOfTelling_87 : decode cX10_gainOfTelling 87 = .ok (.ifCond .ne 5, 3) := by decide +kernel
theorem dX10_gainOfTelling_90 : decode cX10_gainOfTelling 90 = .ok (.iconst 0, 1) := by decide +kernel
theorem dX10_gainOfTelling_91 : decode cX10_gainOfTelling 91 = .ok (.ireturn, 1) := by decide +kernel
theorem dX10_gainOfTelling_92 : decode cX10_gainOfTelling 92 = .ok (.aload_n 0, 1) := by decide +kernel
theorem dX10_gainOfTelling_93 : decode cX10_gainOfTelling 93 = .ok (.getfield 26, 3) := by decide +kernel
theorem dX10_gainOfTelling_96 : decode cX10_gainOfTelling 96 = .ok (.getfield 117, 3) := by decide +kernel
theorem dX10_gainOfTelling_99 : decode cX10_gainOfTelling 99 = .ok (.iload_n 1, 1) := by decide +kernel
theorem dX10_gainOfTelling_100 : decode cX10_gainOfTelling 100 = .ok (.iaload, 1) := by decide +kernel
theorem dX10_gainOfTelling_101 : decode cX10_gainOfTelling 101 = .ok (.istore_n 3, 1) := by decide +kernel
theorem dX10_gainOfTelling_102 : decode cX10_gainOfTelling 102 = .ok (.aload_n 0, 1) := by decide +kernel
theorem dX10_gainOfTelling_103 : decode cX10_gainOfTelling 103 = .ok (.getfield 26, 3) := by decide +kernel
theorem dX10_gainOfTelling_106 : decode cX10_gainOfTelling 106 = .ok (.getfield 113, 3) := by decide +kernel
theorem dX10_gainOfTelling_109 : decode cX10_gainOfTelling 109 = .ok (.iload_n 1, 1) := by decide +kernel
theorem dX10_gainOfTelling_110 : decode cX10_gainOfTelling 110 = .ok (.baload, 1) := by decide +kernel
theorem dX10_gainOfTelling_111 : decode cX10_gainOfTelling 111 = .ok (.ifCond .eq 23, 3) := by decide +kernel
theorem dX10_gainOfTelling_114 : decode cX10_gainOfTelling 114 = .ok (.aload_n 0, 1) := by decide +kernel
theorem dX10_gainOfTelling_115 : decode cX10_gainOfTelling 115 = .ok (.getfield 53, 3) := by decide +kernel
theorem dX10_gainOfTelling_118 : decode cX10_gainOfTelling 118 = .ok (.getfield 137, 3) := by decide +kernel
theorem dX10_gainOfTelling_121 : decode cX10_gainOfTelling 121 = .ok (.aload_n 0, 1) := by decide +kernel
theorem dX10_gainOfTelling_122 : decode cX10_gainOfTelling 122 = .ok (.getfield 26, 3) := by decide +kernel
theorem dX10_gainOfTelling_125 : decode cX10_gainOfTelling 125 = .ok (.getfield 124, 3) := by decide +kernel
theorem dX10_gainOfTelling_128 : decode cX10_gainOfTelling 128 = .ok (.isub, 1) := by decide +kernel
theorem dX10_gainOfTelling_129 : decode cX10_gainOfTelling 129 = .ok (.iload_n 3, 1) := by decide +kernel
theorem dX10_gainOfTelling_130 : decode cX10_gainOfTelling 130 = .ok (.isub, 1) := by decide +kernel
theorem dX10_gainOfTelling_131 : decode cX10_gainOfTelling 131 = .ok (.goto 12, 3) := by decide +kernel
theorem dX10_gainOfTelling_134 : decode cX10_gainOfTelling 134 = .ok (.iload_n 3, 1) := by decide +kernel
theorem dX10_gainOfTelling_135 : decode cX10_gainOfTelling 135 = .ok (.aload_n 0, 1) := by decide +kernel
theorem dX10_gainOfTelling_136 : decode cX10_gainOfTelling 136 = .ok (.getfield 53, 3) := by decide +kernel
theorem dX10_gainOfTelling_139 : decode cX10_gainOfTelling 139 = .ok (.getfield 137, 3) := by decide +kernel
theorem dX10_gainOfTelling_142 : decode cX10_gainOfTelling 142 = .ok (.isub, 1) := by decide +kernel
theorem dX10_gainOfTelling_143 : decode cX10_gainOfTelling 143 = .ok (.ireturn, 1) := by decide +kernel
theorem dX10_sumUp_0 : decode cX10_sumUp 0 = .ok (.aload_n 0, 1) := by decide +kernel
theorem dX10_sumUp_1 : decode cX10_sumUp 1 = .ok (.getfield 76, 3) := by decide +kernel
theorem dX10_sumUp_4 : decode cX10_sumUp 4 = .ok (.iload_n 1, 1) := by decide +kernel
theorem dX10_sumUp_5 : decode cX10_sumUp 5 = .ok (.aaload, 1) := by decide +kernel
theorem dX10_sumUp_6 : decode cX10_sumUp 6 = .ok (.astore_n 3, 1) := by decide +kernel
theorem dX10_sumUp_7 : decode cX10_sumUp 7 = .ok (.aload_n 3, 1) := by decide +kernel
theorem dX10_sumUp_8 : decode cX10_sumUp 8 = .ok (.iconst 0, 1) := by decide +kernel
theorem dX10_sumUp_9 : decode cX10_sumUp 9 = .ok (.iconst 0, 1) := by decide +kernel
theorem dX10_sumUp_10 : decode cX10_sumUp 10 = .ok (.iastore, 1) := by decide +kernel
theorem dX10_sumUp_11 : decode cX10_sumUp 11 = .ok (.aload_n 3, 1) := by decide +kernel
theorem dX10_sumUp_12 : decode cX10_sumUp 12 = .ok (.iconst 1, 1) := by decide +kernel
theorem dX10_sumUp_13 : decode cX10_sumUp 13 = .ok (.iconst 0, 1) := by decide +kernel
theorem dX10_sumUp_14 : decode cX10_sumUp 14 = .ok (.iastore, 1) := by decide +kernel
theorem dX10_sumUp_15 : decode cX10_sumUp 15 = .ok (.aload_n 3, 1) := by decide +kernel
theorem dX10_sumUp_16 : decode cX10_sumUp 16 = .ok (.iconst 2, 1) := by decide +kernel
theorem dX10_sumUp_17 : decode cX10_sumUp 17 = .ok (.iconst 0, 1) := by decide +kernel
theorem dX10_sumUp_18 : decode cX10_sumUp 18 = .ok (.iastore, 1) := by decide +kernel
theorem dX10_sumUp_19 : decode cX10_sumUp 19 = .ok (.iconst 0, 1) := by decide +kernel
theorem dX10_sumUp_20 : decode cX10_sumUp 20 = .ok (.istore 4, 2) := by decide +kernel
theorem dX10_sumUp_22 : decode cX10_sumUp 22 = .ok (.iload 4, 2) := by decide +kernel
theorem dX10_sumUp_24 : decode cX10_sumUp 24 = .ok (.bipush 10, 2) := by decide +kernel
theorem dX10_sumUp_26 : decode cX10_sumUp 26 = .ok (.if_icmp .ge 69, 3) := by decide +kernel
theorem dX10_sumUp_29 : decode cX10_sumUp 29 = .ok (.aload_n 0, 1) := by decide +kernel
theorem dX10_sumUp_30 : decode cX10_sumUp 30 = .ok (.getfield 63, 3) := by decide +kernel
theorem dX10_sumUp_33 : decode cX10_sumUp 33 = .ok (.aload_n 0, 1) := by decide +kernel
theorem dX10_sumUp_34 : decode cX10_sumUp 34 = .ok (.getfield 26, 3) := by decide +kernel
theorem dX10_sumUp_37 : decode cX10_sumUp 37 = .ok (.iload_n 1, 1) := by decide +kernel
theorem dX10_sumUp_38 : decode cX10_sumUp 38 = .ok (.iload_n 2, 1) := by decide +kernel
theorem dX10_sumUp_39 : decode cX10_sumUp 39 = .ok (.iload 4, 2) := by decide +kernel
theorem dX10_sumUp_41 : decode cX10_sumUp 41 = .ok (.iadd, 1) := by decide +kernel
theorem dX10_sumUp_42 : decode cX10_sumUp 42 = .ok (.sipush 10000, 3) := by decide +kernel
theorem dX10_sumUp_45 : decode cX10_sumUp 45 = .ok (.irem, 1) := by decide +kernel
theorem dX10_sumUp_46 : decode cX10_sumUp 46 = .ok (.aconst_null, 1) := by decide +kernel
theorem dX10_sumUp_47 : decode cX10_sumUp 47 = .ok (.invokevirtual 181, 3) := by decide +kernel
theorem dX10_sumUp_50 : decode cX10_sumUp 50 = .ok (.aload_n 3, 1) := by decide +kernel
theorem dX10_sumUp_51 : decode cX10_sumUp 51 = .ok (.iconst 0, 1) := by decide +kernel
theorem dX10_sumUp_52 : decode cX10_sumUp 52 = .ok (.dup2, 1) := by decide +kernel
theorem dX10_sumUp_53 : decode cX10_sumUp 53 = .ok (.iaload, 1) := by decide +kernel
theorem dX10_sumUp_54 : decode cX10_sumUp 54 = .ok (.aload_n 0, 1) := by decide +kernel
theorem dX10_sumUp_55 : decode cX10_sumUp 55 = .ok (.getfield 63, 3) := by decide +kernel
theorem dX10_sumUp_58 : decode cX10_sumUp 58 = .ok (.getfield 188, 3) := by decide +kernel
theorem dX10_sumUp_61 : decode cX10_sumUp 61 = .ok (.iadd, 1) := by decide +kernel
theorem dX10_sumUp_62 : decode cX10_sumUp 62 = .ok (.iastore, 1) := by decide +kernel
theorem dX10_sumUp_63 : decode cX10_sumUp 63 = .ok (.aload_n 3, 1) := by decide +kernel
theorem dX10_sumUp_64 : decode cX10_sumUp 64 = .ok (.iconst 1, 1) := by decide +kernel
theorem dX10_sumUp_65 : decode cX10_sumUp 65 = .ok (.dup2, 1) := by decide +kernel
theorem dX10_sumUp_66 : decode cX10_sumUp 66 = .ok (.iaload, 1) := by decide +kernel
theorem dX10_sumUp_67 : decode cX10_sumUp 67 = .ok (.aload_n 0, 1) := by decide +kernel
theorem dX10_sumUp_68 : decode cX10_sumUp 68 = .ok (.getfield 63, 3) := by decide +kernel
theorem dX10_sumUp_71 : decode cX10_sumUp 71 = .ok (.getfield 191, 3) := by decide +kernel
theorem dX10_sumUp_74 : decode cX10_sumUp 74 = .ok (.iadd, 1) := by decide +kernel
theorem dX10_sumUp_75 : decode cX10_sumUp 75 = .ok (.iastore, 1) := by decide +kernel
theorem dX10_sumUp_76 : decode cX10_sumUp 76 = .ok (.aload_n 3, 1) := by decide +kernel
theorem dX10_sumUp_77 : decode cX10_sumUp 77 = .ok (.iconst 2, 1) := by decide +kernel
theorem dX10_sumUp_78 : decode cX10_sumUp 78 = .ok (.dup2, 1) := by decide +kernel
theorem dX10_sumUp_79 : decode cX10_sumUp 79 = .ok (.iaload, 1) := by decide +kernel
theorem dX10_sumUp_80 : decode cX10_sumUp 80 = .ok (.aload_n 0, 1) := by decide +kernel
theorem dX10_sumUp_81 : decode cX10_sumUp 81 = .ok (.getfield 63, 3) := by decide +kernel
theorem dX10_sumUp_84 : decode cX10_sumUp 84 = .ok (.invokevirtual 194, 3) := by decide +kernel
theorem dX10_sumUp_87 : decode cX10_sumUp 87 = .ok (.iadd, 1) := by decide +kernel
theorem dX10_sumUp_88 : decode cX10_sumUp 88 = .ok (.iastore, 1) := by decide +kernel
theorem dX10_sumUp_89 : decode cX10_sumUp 89 = .ok (.iinc 4 1, 3) := by decide +kernel
theorem dX10_sumUp_92 : decode cX10_sumUp 92 = .ok (.goto (-70), 3) := by decide +kernel
theorem dX10_sumUp_95 : decode cX10_sumUp 95 = .ok (.return_, 1) := by decide +kernel
theorem dX10_bestBy_0 : decode cX10_bestBy 0 = .ok (.iconst 0, 1) := by decide +kernel
theorem dX10_bestBy_1 : decode cX10_bestBy 1 = .ok (.istore_n 2, 1) := by decide +kernel
theorem dX10_bestBy_2 : decode cX10_bestBy 2 = .ok (.iconst 1, 1) := by decide +kernel
theorem dX10_bestBy_3 : decode cX10_bestBy 3 = .ok (.istore_n 3, 1) := by decide +kernel
theorem dX10_bestBy_4 : decode cX10_bestBy 4 = .ok (.iload_n 3, 1) := by decide +kernel
theorem dX10_bestBy_5 : decode cX10_bestBy 5 = .ok (.iconst 3, 1) := by decide +kernel
theorem dX10_bestBy_6 : decode cX10_bestBy 6 = .ok (.if_icmp .gt 47, 3) := by decide +kernel
theorem dX10_bestBy_9 : decode cX10_bestBy 9 = .ok (.aload_n 0, 1) := by decide +kernel
theorem dX10_bestBy_10 : decode cX10_bestBy 10 = .ok (.getfield 76, 3) := by decide +kernel
theorem dX10_bestBy_13 : decode cX10_bestBy 13 = .ok (.iload_n 3, 1) := by decide +kernel
theorem dX10_bestBy_14 : decode cX10_bestBy 14 = .ok (.aaload, 1) := by decide +kernel
theorem dX10_bestBy_15 : decode cX10_bestBy 15 = .ok (.iload_n 1, 1) := by decide +kernel
theorem dX10_bestBy_16 : decode cX10_bestBy 16 = .ok (.iaload, 1) := by decide +kernel
theorem dX10_bestBy_17 : decode cX10_bestBy 17 = .ok (.aload_n 0, 1) := by decide +kernel
theorem dX10_bestBy_18 : decode cX10_bestBy 18 = .ok (.getfield 76, 3) := by decide +kernel
theorem dX10_bestBy_21 : decode cX10_bestBy 21 = .ok (.iload_n 2, 1) := by decide +kernel
theorem dX10_bestBy_22 : decode cX10_bestBy 22 = .ok (.aaload, 1) := by decide +kernel
theorem dX10_bestBy_23 : decode cX10_bestBy 23 = .ok (.iload_n 1, 1) := by decide +kernel
theorem dX10_bestBy_24 : decode cX10_bestBy 24 = .ok (.iaload, 1) := by decide +kernel
theorem dX10_bestBy_25 : decode cX10_bestBy 25 = .ok (.isub, 1) := by decide +kernel
theorem dX10_bestBy_26 : decode cX10_bestBy 26 = .ok (.istore 4, 2) := by decide +kernel
theorem dX10_bestBy_28 : decode cX10_bestBy 28 = .ok (.iload_n 1, 1) := by decide +kernel
theorem dX10_bestBy_29 : decode cX10_bestBy 29 = .ok (.ifCond .ne 11, 3) := by decide +kernel
theorem dX10_bestBy_32 : decode cX10_bestBy 32 = .ok (.iload 4, 2) := by decide +kernel
theorem dX10_bestBy_34 : decode cX10_bestBy 34 = .ok (.ifCond .le 13, 3) := by decide +kernel
theorem dX10_bestBy_37 : decode cX10_bestBy 37 = .ok (.goto 8, 3) := by decide +kernel
theorem dX10_bestBy_40 : decode cX10_bestBy 40 = .ok (.iload 4, 2) := by decide +kernel
theorem dX10_bestBy_42 : decode cX10_bestBy 42 = .ok (.ifCond .ge 5, 3) := by decide +kernel
theorem dX10_bestBy_45 : decode cX10_bestBy 45 = .ok (.iload_n 3, 1) := by decide +kernel
theorem dX10_bestBy_46 : decode cX10_bestBy 46 = .ok (.istore_n 2, 1) := by decide +kernel
theorem dX10_bestBy_47 : decode cX10_bestBy 47 = .ok (.iinc 3 1, 3) := by decide +kernel
theorem dX10_bestBy_50 : decode cX10_bestBy 50 = .ok (.goto (-46), 3) := by decide +kernel
theorem dX10_bestBy_53 : decode cX10_bestBy 53 = .ok (.iload_n 2, 1) := by decide +kernel
theorem dX10_bestBy_54 : decode cX10_bestBy 54 = .ok (.ireturn, 1) := by decide +kernel
