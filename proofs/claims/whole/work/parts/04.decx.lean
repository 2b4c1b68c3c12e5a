theorem dX0_init_0 : decode cX0_init 0 = .ok (.aload_n 0, 1) := by decide +kernel
theorem dX0_init_1 : decode cX0_init 1 = .ok (.invokespecial 1, 3) := by decide +kernel
theorem dX0_init_4 : decode cX0_init 4 = .ok (.return_, 1) := by decide +kernel
theorem dX0_choose_0 : decode cX0_choose 0 = .ok (.aload_n 0, 1) := by decide +kernel
theorem dX0_choose_1 : decode cX0_choose 1 = .ok (.iconst 0, 1) := by decide +kernel
theorem dX0_choose_2 : decode cX0_choose 2 = .ok (.putfield 7, 3) := by decide +kernel
theorem dX0_choose_5 : decode cX0_choose 5 = .ok (.aload_n 0, 1) := by decide +kernel
theorem dX0_choose_6 : decode cX0_choose 6 = .ok (.iconst 0, 1) := by decide +kernel
theorem dX0_choose_7 : decode cX0_choose 7 = .ok (.putfield 13, 3) := by decide +kernel
theorem dX0_choose_10 : decode cX0_choose 10 = .ok (.iconst 0, 1) := by decide +kernel
theorem dX0_choose_11 : decode cX0_choose 11 = .ok (.istore 4, 2) := by decide +kernel
theorem dX0_choose_13 : decode cX0_choose 13 = .ok (.iload 4, 2) := by decide +kernel
theorem dX0_choose_15 : decode cX0_choose 15 = .ok (.aload_n 1, 1) := by decide +kernel
theorem dX0_choose_16 : decode cX0_choose 16 = .ok (.getfield 16, 3) := by decide +kernel
theorem dX0_choose_19 : decode cX0_choose 19 = .ok (.getfield 22, 3) := by decide +kernel
theorem dX0_choose_22 : decode cX0_choose 22 = .ok (.if_icmp .gt 148, 3) := by decide +kernel
theorem dX0_choose_25 : decode cX0_choose 25 = .ok (.iconst 0, 1) := by decide +kernel
theorem dX0_choose_26 : decode cX0_choose 26 = .ok (.istore 5, 2) := by decide +kernel
theorem dX0_choose_28 : decode cX0_choose 28 = .ok (.iload 5, 2) := by decide +kernel
theorem dX0_choose_30 : decode cX0_choose 30 = .ok (.aload_n 1, 1) := by decide +kernel
theorem dX0_choose_31 : decode cX0_choose 31 = .ok (.getfield 27, 3) := by decide +kernel
theorem dX0_choose_34 : decode cX0_choose 34 = .ok (.getfield 22, 3) := by decide +kernel
theorem dX0_choose_37 : decode cX0_choose 37 = .ok (.if_icmp .gt 127, 3) := by decide +kernel
theorem dX0_choose_40 : decode cX0_choose 40 = .ok (.iconst 0, 1) := by decide +kernel
theorem dX0_choose_41 : decode cX0_choose 41 = .ok (.istore 6, 2) := by decide +kernel
theorem dX0_choose_43 : decode cX0_choose 43 = .ok (.iload 6, 2) := by decide +kernel
theorem dX0_choose_45 : decode cX0_choose 45 = .ok (.aload_n 2, 1) := by decide +kernel
theorem dX0_choose_46 : decode cX0_choose 46 = .ok (.getfield 16, 3) := by decide +kernel
theorem dX0_choose_49 : decode cX0_choose 49 = .ok (.getfield 22, 3) := by decide +kernel
theorem dX0_choose_52 : decode cX0_choose 52 = .ok (.if_icmp .gt 106, 3) := by decide +kernel
theorem dX0_choose_55 : decode cX0_choose 55 = .ok (.iload 4, 2) := by decide +kernel
theorem dX0_choose_57 : decode cX0_choose 57 = .ok (.iload 6, 2) := by decide +kernel
theorem dX0_choose_59 : decode cX0_choose 59 = .ok (.iadd, 1) := by decide +kernel
theorem dX0_choose_60 : decode cX0_choose 60 = .ok (.iload 5, 2) := by decide +kernel
theorem dX0_choose_62 : decode cX0_choose 62 = .ok (.isub, 1) := by decide +kernel
theorem dX0_choose_63 : decode cX0_choose 63 = .ok (.istore 7, 2) := by decide +kernel
theorem dX0_choose_65 : decode cX0_choose 65 = .ok (.iload 7, 2) := by decide +kernel
theorem dX0_choose_67 : decode cX0_choose 67 = .ok (.iconst 0, 1) := by decide +kernel
theorem dX0_choose_68 : decode cX0_choose 68 = .ok (.aload_n 2, 1) := by decide +kernel
theorem dX0_choose_69 : decode cX0_choose 69 = .ok (.getfield 27, 3) := by decide +kernel
theorem dX0_choose_72 : decode cX0_choose 72 = .ok (.getfield 22, 3) := by decide +kernel
theorem dX0_choose_75 : decode cX0_choose 75 = .ok (.invokestatic 30, 3) := by decide +kernel
theorem dX0_choose_78 : decode cX0_choose 78 = .ok (.ifCond .eq 74, 3) := by decide +kernel
theorem dX0_choose_81 : decode cX0_choose 81 = .ok (.aload_n 1, 1) := by decide +kernel
theorem dX0_choose_82 : decode cX0_choose 82 = .ok (.getfield 16, 3) := by decide +kernel
theorem dX0_choose_85 : decode cX0_choose 85 = .ok (.iconst 0, 1) := by decide +kernel
theorem dX0_choose_86 : decode cX0_choose 86 = .ok (.iload 4, 2) := by decide +kernel
theorem dX0_choose_88 : decode cX0_choose 88 = .ok (.invokevirtual 36, 3) := by decide +kernel
theorem dX0_choose_91 : decode cX0_choose 91 = .ok (.aload_n 2, 1) := by decide +kernel
theorem dX0_choose_92 : decode cX0_choose 92 = .ok (.getfield 16, 3) := by decide +kernel
theorem dX0_choose_95 : decode cX0_choose 95 = .ok (.iconst 0, 1) := by decide +kernel
theorem dX0_choose_96 : decode cX0_choose 96 = .ok (.iload 6, 2) := by decide +kernel
theorem dX0_choose_98 : decode cX0_choose 98 = .ok (.invokevirtual 36, 3) := by decide +kernel
theorem dX0_choose_101 : decode cX0_choose 101 = .ok (.iadd, 1) := by decide +kernel
theorem dX0_choose_102 : decode cX0_choose 102 = .ok (.istore 8, 2) := by decide +kernel
theorem dX0_choose_104 : decode cX0_choose 104 = .ok (.aload_n 1, 1) := by decide +kernel
theorem dX0_choose_105 : decode cX0_choose 105 = .ok (.getfield 27, 3) := by decide +kernel
theorem dX0_choose_108 : decode cX0_choose 108 = .ok (.iconst 0, 1) := by decide +kernel
theorem dX0_choose_109 : decode cX0_choose 109 = .ok (.iload 5, 2) := by decide +kernel
theorem dX0_choose_111 : decode cX0_choose 111 = .ok (.invokevirtual 36, 3) := by decide +kernel
theorem dX0_choose_114 : decode cX0_choose 114 = .ok (.aload_n 2, 1) := by decide +kernel
theorem dX0_choose_115 : decode cX0_choose 115 = .ok (.getfield 27, 3) := by decide +kernel
theorem dX0_choose_118 : decode cX0_choose 118 = .ok (.iconst 0, 1) := by decide +kernel
theorem dX0_choose_119 : decode cX0_choose 119 = .ok (.iload 7, 2) := by decide +kernel
theorem dX0_choose_121 : decode cX0_choose 121 = .ok (.invokevirtual 36, 3) := by decide +kernel
theorem dX0_choose_124 : decode cX0_choose 124 = .ok (.iadd, 1) := by decide +kernel
theorem dX0_choose_125 : decode cX0_choose 125 = .ok (.istore 9, 2) := by decide +kernel
theorem dX0_choose_127 : decode cX0_choose 127 = .ok (.aload_n 0, 1) := by decide +kernel
theorem dX0_choose_128 : decode cX0_choose 128 = .ok (.iload 8, 2) := by decide +kernel
theorem dX0_choose_130 : decode cX0_choose 130 = .ok (.iload 9, 2) := by decide +kernel
theorem dX0_choose_132 : decode cX0_choose 132 = .ok (.isub, 1) := by decide +kernel
theorem dX0_choose_133 : decode cX0_choose 133 = .ok (.iload_n 3, 1) := by decide +kernel
theorem dX0_choose_134 : decode cX0_choose 134 = .ok (.iload 5, 2) := by decide +kernel
theorem dX0_choose_136 : decode cX0_choose 136 = .ok (.iload 4, 2) := by decide +kernel
theorem dX0_choose_138 : decode cX0_choose 138 = .ok (.isub, 1) := by decide +kernel
theorem dX0_choose_139 : decode cX0_choose 139 = .ok (.invokestatic 40, 3) := by decide +kernel
theorem dX0_choose_142 : decode cX0_choose 142 = .ok (.imul, 1) := by decide +kernel
theorem dX0_choose_143 : decode cX0_choose 143 = .ok (.isub, 1) := by decide +kernel
theorem dX0_choose_144 : decode cX0_choose 144 = .ok (.iload 5, 2) := by decide +kernel
theorem dX0_choose_146 : decode cX0_choose 146 = .ok (.iload 4, 2) := by decide +kernel
theorem dX0_choose_148 : decode cX0_choose 148 = .ok (.isub, 1) := by decide +kernel
theorem dX0_choose_149 : decode cX0_choose 149 = .ok (.invokevirtual 46, 3) := by decide +kernel
theorem dX0_choose_152 : decode cX0_choose 152 = .ok (.iinc 6 1, 3) := by decide +kernel
theorem dX0_choose_155 : decode cX0_choose 155 = .ok (.goto (-112), 3) := by decide +kernel
theorem dX0_choose_158 : decode cX0_choose 158 = .ok (.iinc 5 1, 3) := by decide +kernel
theorem dX0_choose_161 : decode cX0_choose 161 = .ok (.goto (-133), 3) := by decide +kernel
theorem dX0_choose_164 : decode cX0_choose 164 = .ok (.iinc 4 1, 3) := by decide +kernel
theorem dX0_choose_167 : decode cX0_choose 167 = .ok (.goto (-154), 3) := by decide +kernel
theorem dX0_choose_170 : decode cX0_choose 170 = .ok (.return_, 1) := by decide +kernel
theorem dX0_offer_0 : decode cX0_offer 0 = .ok (.aload_n 0, 1) := by decide +kernel
theorem dX0_offer_1 : decode cX0_offer 1 = .ok (.getfield 13, 3) := by decide +kernel
theorem dX0_offer_4 : decode cX0_offer 4 = .ok (.invokestatic 40, 3) := by decide +kernel
theorem dX0_offer_7 : decode cX0_offer 7 = .ok (.iload_n 2, 1) := by decide +kernel
theorem dX0_offer_8 : decode cX0_offer 8 = .ok (.invokestatic 40, 3) := by decide +kernel
theorem dX0_offer_11 : decode cX0_offer 11 = .ok (.isub, 1) := by decide +kernel
theorem dX0_offer_12 : decode cX0_offer 12 = .ok (.istore_n 3, 1) := by decide +kernel
theorem dX0_offer_13 : decode cX0_offer 13 = .ok (.iload_n 1, 1) := by decide +kernel
theorem dX0_offer_14 : decode cX0_offer 14 = .ok (.aload_n 0, 1) := by decide +kernel
theorem dX0_offer_15 : decode cX0_offer 15 = .ok (.getfield 7, 3) := by decide +kernel
theorem dX0_offer_18 : decode cX0_offer 18 = .ok (.if_icmp .gt 27, 3) := by decide +kernel
theorem dX0_offer_21 : decode cX0_offer 21 = .ok (.iload_n 1, 1) := by decide +kernel
theorem dX0_offer_22 : decode cX0_offer 22 = .ok (.aload_n 0, 1) := by decide +kernel
theorem dX0_offer_23 : decode cX0_offer 23 = .ok (.getfield 7, 3) := by decide +kernel
theorem dX0_offer_26 : decode cX0_offer 26 = .ok (.if_icmp .ne 29, 3) := by decide +kernel
theorem dX0_offer_29 : decode cX0_offer 29 = .ok (.iload_n 3, 1) := by decide +kernel
theorem dX0_offer_30 : decode cX0_offer 30 = .ok (.ifCond .gt 15, 3) := by decide +kernel
theorem dX0_offer_33 : decode cX0_offer 33 = .ok (.iload_n 3, 1) := by decide +kernel
theorem dX0_offer_34 : decode cX0_offer 34 = .ok (.ifCond .ne 21, 3) := by decide +kernel
theorem dX0_offer_37 : decode cX0_offer 37 = .ok (.iload_n 2, 1) := by decide +kernel
theorem dX0_offer_38 : decode cX0_offer 38 = .ok (.aload_n 0, 1) := by decide +kernel
theorem dX0_offer_39 : decode cX0_offer 39 = .ok (.getfield 13, 3) := by decide +kernel
theorem dX0_offer_42 : decode cX0_offer 42 = .ok (.if_icmp .le 13, 3) := by decide +kernel
theorem dX0_offer_45 : decode cX0_offer 45 = .ok (.aload_n 0, 1) := by decide +kernel
theorem dX0_offer_46 : decode cX0_offer 46 = .ok (.iload_n 1, 1) := by decide +kernel
theorem dX0_offer_47 : decode cX0_offer 47 = .ok (.putfield 7, 3) := by decide +kernel
theorem dX0_offer_50 : decode cX0_offer 50 = .ok (.aload_n 0, 1) := by decide +kernel
theorem dX0_offer_51 : decode cX0_offer 51 = .ok (.iload_n 2, 1) := by decide +kernel
theorem dX0_offer_52 : decode cX0_offer 52 = .ok (.putfield 13, 3) := by decide +kernel
theorem dX0_offer_55 : decode cX0_offer 55 = .ok (.return_, 1) := by decide +kernel
theorem dX1_init_0 : decode cX1_init 0 = .ok (.aload_n 0, 1) := by decide +kernel
theorem dX1_init_1 : decode cX1_init 1 = .ok (.invokespecial 3, 3) := by decide +kernel
theorem dX1_init_4 : decode cX1_init 4 = .ok (.aload_n 0, 1) := by decide +kernel
theorem dX1_init_5 : decode cX1_init 5 = .ok (.bipush 20, 2) := by decide +kernel
theorem dX1_init_7 : decode cX1_init 7 = .ok (.newarray .int, 2) := by decide +kernel
theorem dX1_init_9 : decode cX1_init 9 = .ok (.putfield 9, 3) := by decide +kernel
theorem dX1_init_12 : decode cX1_init 12 = .ok (.aload_n 0, 1) := by decide +kernel
theorem dX1_init_13 : decode cX1_init 13 = .ok (.new 15, 3) := by decide +kernel
theorem dX1_init_16 : decode cX1_init 16 = .ok (.dup, 1) := by decide +kernel
theorem dX1_init_17 : decode cX1_init 17 = .ok (.invokespecial 17, 3) := by decide +kernel
theorem dX1_init_20 : decode cX1_init 20 = .ok (.putfield 18, 3) := by decide +kernel
theorem dX1_init_23 : decode cX1_init 23 = .ok (.return_, 1) := by decide +kernel
theorem dX1_hold_0 : decode cX1_hold 0 = .ok (.aload_n 1, 1) := by decide +kernel
theorem dX1_hold_1 : decode cX1_hold 1 = .ok (.getfield 22, 3) := by decide +kernel
theorem dX1_hold_4 : decode cX1_hold 4 = .ok (.iconst 0, 1) := by decide +kernel
theorem dX1_hold_5 : decode cX1_hold 5 = .ok (.aload_n 0, 1) := by decide +kernel
theorem dX1_hold_6 : decode cX1_hold 6 = .ok (.getfield 9, 3) := by decide +kernel
theorem dX1_hold_9 : decode cX1_hold 9 = .ok (.iconst 0, 1) := by decide +kernel
theorem dX1_hold_10 : decode cX1_hold 10 = .ok (.bipush 20, 2) := by decide +kernel
theorem dX1_hold_12 : decode cX1_hold 12 = .ok (.invokestatic 25, 3) := by decide +kernel
theorem dX1_hold_15 : decode cX1_hold 15 = .ok (.aload_n 0, 1) := by decide +kernel
theorem dX1_hold_16 : decode cX1_hold 16 = .ok (.getfield 18, 3) := by decide +kernel
theorem dX1_hold_19 : decode cX1_hold 19 = .ok (.aload_n 2, 1) := by decide +kernel
theorem dX1_hold_20 : decode cX1_hold 20 = .ok (.invokevirtual 31, 3) := by decide +kernel
theorem dX1_hold_23 : decode cX1_hold 23 = .ok (.return_, 1) := by decide +kernel
theorem dX1_giveBack_0 : decode cX1_giveBack 0 = .ok (.aload_n 0, 1) := by decide +kernel
theorem dX1_giveBack_1 : decode cX1_giveBack 1 = .ok (.getfield 9, 3) := by decide +kernel
theorem dX1_giveBack_4 : decode cX1_giveBack 4 = .ok (.iconst 0, 1) := by decide +kernel
theorem dX1_giveBack_5 : decode cX1_giveBack 5 = .ok (.aload_n 1, 1) := by decide +kernel
theorem dX1_giveBack_6 : decode cX1_giveBack 6 = .ok (.getfield 22, 3) := by decide +kernel
theorem dX1_giveBack_9 : decode cX1_giveBack 9 = .ok (.iconst 0, 1) := by decide +kernel
theorem dX1_giveBack_10 : decode cX1_giveBack 10 = .ok (.bipush 20, 2) := by decide +kernel
theorem dX1_giveBack_12 : decode cX1_giveBack 12 = .ok (.invokestatic 25, 3) := by decide +kernel
theorem dX1_giveBack_15 : decode cX1_giveBack 15 = .ok (.aload_n 2, 1) := by decide +kernel
theorem dX1_giveBack_16 : decode cX1_giveBack 16 = .ok (.aload_n 0, 1) := by decide +kernel
theorem dX1_giveBack_17 : decode cX1_giveBack 17 = .ok (.getfield 18, 3) := by decide +kernel
theorem dX1_giveBack_20 : decode cX1_giveBack 20 = .ok (.invokevirtual 31, 3) := by decide +kernel
theorem dX1_giveBack_23 : decode cX1_giveBack 23 = .ok (.return_, 1) := by decide +kernel
theorem dX2_init_0 : decode cX2_init 0 = .ok (.aload_n 0, 1) := by decide +kernel
theorem dX2_init_1 : decode cX2_init 1 = .ok (.invokespecial 3, 3) := by decide +kernel
theorem dX2_init_4 : decode cX2_init 4 = .ok (.aload_n 0, 1) := by decide +kernel
theorem dX2_init_5 : decode cX2_init 5 = .ok (.bipush 10, 2) := by decide +kernel
theorem dX2_init_7 : decode cX2_init 7 = .ok (.newarray .int, 2) := by decide +kernel
theorem dX2_init_9 : decode cX2_init 9 = .ok (.putfield 9, 3) := by decide +kernel
theorem dX2_init_12 : decode cX2_init 12 = .ok (.aload_n 0, 1) := by decide +kernel
theorem dX2_init_13 : decode cX2_init 13 = .ok (.bipush 10, 2) := by decide +kernel
theorem dX2_init_15 : decode cX2_init 15 = .ok (.newarray .int, 2) := by decide +kernel
theorem dX2_init_17 : decode cX2_init 17 = .ok (.putfield 15, 3) := by decide +kernel
theorem dX2_init_20 : decode cX2_init 20 = .ok (.aload_n 0, 1) := by decide +kernel
theorem dX2_init_21 : decode cX2_init 21 = .ok (.iconst 0, 1) := by decide +kernel
theorem dX2_init_22 : decode cX2_init 22 = .ok (.putfield 18, 3) := by decide +kernel
theorem dX2_init_25 : decode cX2_init 25 = .ok (.aload_n 0, 1) := by decide +kernel
theorem dX2_init_26 : decode cX2_init 26 = .ok (.iload_n 1, 1) := by decide +kernel
theorem dX2_init_27 : decode cX2_init 27 = .ok (.putfield 22, 3) := by decide +kernel
theorem dX2_init_30 : decode cX2_init 30 = .ok (.return_, 1) := by decide +kernel
theorem dX2_add_0 : decode cX2_add 0 = .ok (.aload_n 0, 1) := by decide +kernel
theorem dX2_add_1 : decode cX2_add 1 = .ok (.getfield 18, 3) := by decide +kernel
theorem dX2_add_4 : decode cX2_add 4 = .ok (.bipush 10, 2) := by decide +kernel
theorem dX2_add_6 : decode cX2_add 6 = .ok (.if_icmp .lt 4, 3) := by decide +kernel
theorem dX2_add_9 : decode cX2_add 9 = .ok (.return_, 1) := by decide +kernel
theorem dX2_add_10 : decode cX2_add 10 = .ok (.aload_n 0, 1) := by decide +kernel
theorem dX2_add_11 : decode cX2_add 11 = .ok (.getfield 18, 3) := by decide +kernel
theorem dX2_add_14 : decode cX2_add 14 = .ok (.istore_n 3, 1) := by decide +kernel
theorem dX2_add_15 : decode cX2_add 15 = .ok (.iload_n 3, 1) := by decide +kernel
theorem dX2_add_16 : decode cX2_add 16 = .ok (.ifCond .le 71, 3) := by decide +kernel
theorem dX2_add_19 : decode cX2_add 19 = .ok (.aload_n 0, 1) := by decide +kernel
theorem dX2_add_20 : decode cX2_add 20 = .ok (.getfield 22, 3) := by decide +kernel
theorem dX2_add_23 : decode cX2_add 23 = .ok (.ifCond .eq 18, 3) := by decide +kernel
theorem dX2_add_26 : decode cX2_add 26 = .ok (.aload_n 0, 1) := by decide +kernel
theorem dX2_add_27 : decode cX2_add 27 = .ok (.getfield 15, 3) := by decide +kernel
theorem dX2_add_30 : decode cX2_add 30 = .ok (.iload_n 3, 1) := by decide +kernel
theorem dX2_add_31 : decode cX2_add 31 = .ok (.iconst 1, 1) := by decide +kernel
theorem dX2_add_32 : decode cX2_add 32 = .ok (.isub, 1) := by decide +kernel
theorem dX2_add_33 : decode cX2_add 33 = .ok (.iaload, 1) := by decide +kernel
theorem dX2_add_34 : decode cX2_add 34 = .ok (.iload_n 2, 1) := by decide +kernel
theorem dX2_add_35 : decode cX2_add 35 = .ok (.if_icmp .le 52, 3) := by decide +kernel
theorem dX2_add_38 : decode cX2_add 38 = .ok (.goto 15, 3) := by decide +kernel
theorem dX2_add_41 : decode cX2_add 41 = .ok (.aload_n 0, 1) := by decide +kernel
theorem dX2_add_42 : decode cX2_add 42 = .ok (.getfield 15, 3) := by decide +kernel
theorem dX2_add_45 : decode cX2_add 45 = .ok (.iload_n 3, 1) := by decide +kernel
theorem dX2_add_46 : decode cX2_add 46 = .ok (.iconst 1, 1) := by decide +kernel
theorem dX2_add_47 : decode cX2_add 47 = .ok (.isub, 1) := by decide +kernel
theorem dX2_add_48 : decode cX2_add 48 = .ok (.iaload, 1) := by decide +kernel
theorem dX2_add_49 : decode cX2_add 49 = .ok (.iload_n 2, 1) := by decide +kernel
theorem dX2_add_50 : decode cX2_add 50 = .ok (.if_icmp .ge 37, 3) := by decide +kernel
theorem dX2_add_53 : decode cX2_add 53 = .ok (.aload_n 0, 1) := by decide +kernel
theorem dX2_add_54 : decode cX2_add 54 = .ok (.getfield 15, 3) := by decide +kernel
theorem dX2_add_57 : decode cX2_add 57 = .ok (.iload_n 3, 1) := by decide +kernel
theorem dX2_add_58 : decode cX2_add 58 = .ok (.aload_n 0, 1) := by decide +kernel
theorem dX2_add_59 : decode cX2_add 59 = .ok (.getfield 15, 3) := by decide +kernel
theorem dX2_add_62 : decode cX2_add 62 = .ok (.iload_n 3, 1) := by decide +kernel
theorem dX2_add_63 : decode cX2_add 63 = .ok (.iconst 1, 1) := by decide +kernel
theorem dX2_add_64 : decode cX2_add 64 = .ok (.isub, 1) := by decide +kernel
theorem dX2_add_65 : decode cX2_add 65 = .ok (.iaload, 1) := by decide +kernel
theorem dX2_add_66 : decode cX2_add 66 = .ok (.iastore, 1) := by decide +kernel
theorem dX2_add_67 : decode cX2_add 67 = .ok (.aload_n 0, 1) := by decide +kernel
theorem dX2_add_68 : decode cX2_add 68 = .ok (.getfield 9, 3) := by decide +kernel
theorem dX2_add_71 : decode cX2_add 71 = .ok (.iload_n 3, 1) := by decide +kernel
theorem dX2_add_72 : decode cX2_add 72 = .ok (.aload_n 0, 1) := by decide +kernel
theorem dX2_add_73 : decode cX2_add 73 = .ok (.getfield 9, 3) := by decide +kernel
theorem dX2_add_76 : decode cX2_add 76 = .ok (.iload_n 3, 1) := by decide +kernel
theorem dX2_add_77 : decode cX2_add 77 = .ok (.iconst 1, 1) := by decide +kernel
theorem dX2_add_78 : decode cX2_add 78 = .ok (.isub, 1) := by decide +kernel
theorem dX2_add_79 : decode cX2_add 79 = .ok (.iaload, 1) := by decide +kernel
theorem dX2_add_80 : decode cX2_add 80 = .ok (.iastore, 1) := by decide +kernel
theorem dX2_add_81 : decode cX2_add 81 = .ok (.iinc 3 (-1), 3) := by decide +kernel
theorem dX2_add_84 : decode cX2_add 84 = .ok (.goto (-69), 3) := by decide +kernel
theorem dX2_add_87 : decode cX2_add 87 = .ok (.aload_n 0, 1) := by decide +kernel
theorem dX2_add_88 : decode cX2_add 88 = .ok (.getfield 15, 3) := by decide +kernel
theorem dX2_add_91 : decode cX2_add 91 = .ok (.iload_n 3, 1) := by decide +kernel
theorem dX2_add_92 : decode cX2_add 92 = .ok (.iload_n 2, 1) := by decide +kernel
theorem dX2_add_93 : decode cX2_add 93 = .ok (.iastore, 1) := by decide +kernel
theorem dX2_add_94 : decode cX2_add 94 = .ok (.aload_n 0, 1) := by decide +kernel
theorem dX2_add_95 : decode cX2_add 95 = .ok (.getfield 9, 3) := by decide +kernel
theorem dX2_add_98 : decode cX2_add 98 = .ok (.iload_n 3, 1) := by decide +kernel
theorem dX2_add_99 : decode cX2_add 99 = .ok (.iload_n 1, 1) := by decide +kernel
theorem dX2_add_100 : decode cX2_add 100 = .ok (.iastore, 1) := by decide +kernel
theorem dX2_add_101 : decode cX2_add 101 = .ok (.aload_n 0, 1) := by decide +kernel
theorem dX2_add_102 : decode cX2_add 102 = .ok (.dup, 1) := by decide +kernel
theorem dX2_add_103 : decode cX2_add 103 = .ok (.getfield 18, 3) := by decide +kernel
theorem dX2_add_106 : decode cX2_add 106 = .ok (.iconst 1, 1) := by decide +kernel
theorem dX2_add_107 : decode cX2_add 107 = .ok (.iadd, 1) := by decide +kernel
theorem dX2_add_108 : decode cX2_add 108 = .ok (.putfield 18, 3) := by decide +kernel
theorem dX2_add_111 : decode cX2_add 111 = .ok (.return_, 1) := by decide +kernel
theorem dX2_ahead_0 : decode cX2_ahead 0 = .ok (.iconst 0, 1) := by decide +kernel
theorem dX2_ahead_1 : decode cX2_ahead 1 = .ok (.istore_n 2, 1) := by decide +kernel
theorem dX2_ahead_2 : decode cX2_ahead 2 = .ok (.iconst 0, 1) := by decide +kernel
theorem dX2_ahead_3 : decode cX2_ahead 3 = .ok (.istore_n 3, 1) := by decide +kernel
theorem dX2_ahead_4 : decode cX2_ahead 4 = .ok (.iload_n 3, 1) := by decide +kernel
theorem dX2_ahead_5 : decode cX2_ahead 5 = .ok (.aload_n 0, 1) := by decide +kernel
theorem dX2_ahead_6 : decode cX2_ahead 6 = .ok (.getfield 18, 3) := by decide +kernel
theorem dX2_ahead_9 : decode cX2_ahead 9 = .ok (.if_icmp .ge 42, 3) := by decide +kernel
theorem dX2_ahead_12 : decode cX2_ahead 12 = .ok (.aload_n 0, 1) := by decide +kernel
theorem dX2_ahead_13 : decode cX2_ahead 13 = .ok (.getfield 22, 3) := by decide +kernel
theorem dX2_ahead_16 : decode cX2_ahead 16 = .ok (.ifCond .eq 16, 3) := by decide +kernel
theorem dX2_ahead_19 : decode cX2_ahead 19 = .ok (.aload_n 0, 1) := by decide +kernel
theorem dX2_ahead_20 : decode cX2_ahead 20 = .ok (.getfield 15, 3) := by decide +kernel
theorem dX2_ahead_23 : decode cX2_ahead 23 = .ok (.iload_n 3, 1) := by decide +kernel
theorem dX2_ahead_24 : decode cX2_ahead 24 = .ok (.iaload, 1) := by decide +kernel
theorem dX2_ahead_25 : decode cX2_ahead 25 = .ok (.iload_n 1, 1) := by decide +kernel
theorem dX2_ahead_26 : decode cX2_ahead 26 = .ok (.if_icmp .gt 19, 3) := by decide +kernel
theorem dX2_ahead_29 : decode cX2_ahead 29 = .ok (.goto 13, 3) := by decide +kernel
theorem dX2_ahead_32 : decode cX2_ahead 32 = .ok (.aload_n 0, 1) := by decide +kernel
theorem dX2_ahead_33 : decode cX2_ahead 33 = .ok (.getfield 15, 3) := by decide +kernel
theorem dX2_ahead_36 : decode cX2_ahead 36 = .ok (.iload_n 3, 1) := by decide +kernel
theorem dX2_ahead_37 : decode cX2_ahead 37 = .ok (.iaload, 1) := by decide +kernel
theorem dX2_ahead_38 : decode cX2_ahead 38 = .ok (.iload_n 1, 1) := by decide +kernel
theorem dX2_ahead_39 : decode cX2_ahead 39 = .ok (.if_icmp .lt 6, 3) := by decide +kernel
theorem dX2_ahead_42 : decode cX2_ahead 42 = .ok (.iinc 2 1, 3) := by decide +kernel
theorem dX2_ahead_45 : decode cX2_ahead 45 = .ok (.iinc 3 1, 3) := by decide +kernel
theorem dX2_ahead_48 : decode cX2_ahead 48 = .ok (.goto (-44), 3) := by decide +kernel
theorem dX2_ahead_51 : decode cX2_ahead 51 = .ok (.iload_n 2, 1) := by decide +kernel
theorem dX2_ahead_52 : decode cX2_ahead 52 = .ok (.ireturn, 1) := by decide +kernel
theorem dX2_sum_0 : decode cX2_sum 0 = .ok (.iconst 0, 1) := by decide +kernel
theorem dX2_sum_1 : decode cX2_sum 1 = .ok (.istore_n 3, 1) := by decide +kernel
theorem dX2_sum_2 : decode cX2_sum 2 = .ok (.iload_n 1, 1) := by decide +kernel
theorem dX2_sum_3 : decode cX2_sum 3 = .ok (.iconst 0, 1) := by decide +kernel
theorem dX2_sum_4 : decode cX2_sum 4 = .ok (.invokestatic 26, 3) := by decide +kernel
theorem dX2_sum_7 : decode cX2_sum 7 = .ok (.istore 4, 2) := by decide +kernel
theorem dX2_sum_9 : decode cX2_sum 9 = .ok (.iload 4, 2) := by decide +kernel
theorem dX2_sum_11 : decode cX2_sum 11 = .ok (.iload_n 2, 1) := by decide +kernel
theorem dX2_sum_12 : decode cX2_sum 12 = .ok (.if_icmp .ge 28, 3) := by decide +kernel
theorem dX2_sum_15 : decode cX2_sum 15 = .ok (.iload 4, 2) := by decide +kernel
theorem dX2_sum_17 : decode cX2_sum 17 = .ok (.aload_n 0, 1) := by decide +kernel
theorem dX2_sum_18 : decode cX2_sum 18 = .ok (.getfield 18, 3) := by decide +kernel
theorem dX2_sum_21 : decode cX2_sum 21 = .ok (.if_icmp .ge 19, 3) := by decide +kernel
theorem dX2_sum_24 : decode cX2_sum 24 = .ok (.iload_n 3, 1) := by decide +kernel
theorem dX2_sum_25 : decode cX2_sum 25 = .ok (.aload_n 0, 1) := by decide +kernel
theorem dX2_sum_26 : decode cX2_sum 26 = .ok (.getfield 15, 3) := by decide +kernel
theorem dX2_sum_29 : decode cX2_sum 29 = .ok (.iload 4, 2) := by decide +kernel
theorem dX2_sum_31 : decode cX2_sum 31 = .ok (.iaload, 1) := by decide +kernel
theorem dX2_sum_32 : decode cX2_sum 32 = .ok (.iadd, 1) := by decide +kernel
theorem dX2_sum_33 : decode cX2_sum 33 = .ok (.istore_n 3, 1) := by decide +kernel
theorem dX2_sum_34 : decode cX2_sum 34 = .ok (.iinc 4 1, 3) := by decide +kernel
theorem dX2_sum_37 : decode cX2_sum 37 = .ok (.goto (-28), 3) := by decide +kernel
theorem dX2_sum_40 : decode cX2_sum 40 = .ok (.iload_n 3, 1) := by decide +kernel
theorem dX2_sum_41 : decode cX2_sum 41 = .ok (.ireturn, 1) := by decide +kernel
theorem dX2_holds_0 : decode cX2_holds 0 = .ok (.iconst 0, 1) := by decide +kernel
theorem dX2_holds_1 : decode cX2_holds 1 = .ok (.istore_n 3, 1) := by decide +kernel
theorem dX2_holds_2 : decode cX2_holds 2 = .ok (.iload_n 3, 1) := by decide +kernel
theorem dX2_holds_3 : decode cX2_holds 3 = .ok (.iload_n 2, 1) := by decide +kernel
theorem dX2_holds_4 : decode cX2_holds 4 = .ok (.if_icmp .ge 29, 3) := by decide +kernel
theorem dX2_holds_7 : decode cX2_holds 7 = .ok (.iload_n 3, 1) := by decide +kernel
theorem dX2_holds_8 : decode cX2_holds 8 = .ok (.aload_n 0, 1) := by decide +kernel
theorem dX2_holds_9 : decode cX2_holds 9 = .ok (.getfield 18, 3) := by decide +kernel
theorem dX2_holds_12 : decode cX2_holds 12 = .ok (.if_icmp .ge 21, 3) := by decide +kernel
theorem dX2_holds_15 : decode cX2_holds 15 = .ok (.aload_n 0, 1) := by decide +kernel
theorem dX2_holds_16 : decode cX2_holds 16 = .ok (.getfield 9, 3) := by decide +kernel
theorem dX2_holds_19 : decode cX2_holds 19 = .ok (.iload_n 3, 1) := by decide +kernel
theorem dX2_holds_20 : decode cX2_holds 20 = .ok (.iaload, 1) := by decide +kernel
theorem dX2_holds_21 : decode cX2_holds 21 = .ok (.iload_n 1, 1) := by decide +kernel
theorem dX2_holds_22 : decode cX2_holds 22 = .ok (.if_icmp .ne 5, 3) := by decide +kernel
theorem dX2_holds_25 : decode cX2_holds 25 = .ok (.iconst 1, 1) := by decide +kernel
theorem dX2_holds_26 : decode cX2_holds 26 = .ok (.ireturn, 1) := by decide +kernel
theorem dX2_holds_27 : decode cX2_holds 27 = .ok (.iinc 3 1, 3) := by decide +kernel
theorem dX2_holds_30 : decode cX2_holds 30 = .ok (.goto (-28), 3) := by decide +kernel
theorem dX2_holds_33 : decode cX2_holds 33 = .ok (.iconst 0, 1) := by decide +kernel
theorem dX2_holds_34 : decode cX2_holds 34 = .ok (.ireturn, 1) := by decide +kernel
theorem dX3_init_0 : decode cX3_init 0 = .ok (.aload_n 0, 1) := by decide +kernel
theorem dX3_init_1 : decode cX3_init 1 = .ok (.invokespecial 3, 3) := by decide +kernel
theorem dX3_init_4 : decode cX3_init 4 = .ok (.aload_n 0, 1) := by decide +kernel
theorem dX3_init_5 : decode cX3_init 5 = .ok (.new 9, 3) := by decide +kernel
theorem dX3_init_8 : decode cX3_init 8 = .ok (.dup, 1) := by decide +kernel
theorem dX3_init_9 : decode cX3_init 9 = .ok (.iconst 0, 1) := by decide +kernel
theorem dX3_init_10 : decode cX3_init 10 = .ok (.invokespecial 11, 3) := by decide +kernel
theorem dX3_init_13 : decode cX3_init 13 = .ok (.putfield 14, 3) := by decide +kernel
theorem dX3_init_16 : decode cX3_init 16 = .ok (.aload_n 0, 1) := by decide +kernel
theorem dX3_init_17 : decode cX3_init 17 = .ok (.new 9, 3) := by decide +kernel
theorem dX3_init_20 : decode cX3_init 20 = .ok (.dup, 1) := by decide +kernel
theorem dX3_init_21 : decode cX3_init 21 = .ok (.iconst 1, 1) := by decide +kernel
theorem dX3_init_22 : decode cX3_init 22 = .ok (.invokespecial 11, 3) := by decide +kernel
theorem dX3_init_25 : decode cX3_init 25 = .ok (.putfield 20, 3) := by decide +kernel
theorem dX3_init_28 : decode cX3_init 28 = .ok (.return_, 1) := by decide +kernel
theorem dX3_empty_0 : decode cX3_empty 0 = .ok (.aload_n 0, 1) := by decide +kernel
theorem dX3_empty_1 : decode cX3_empty 1 = .ok (.getfield 14, 3) := by decide +kernel
theorem dX3_empty_4 : decode cX3_empty 4 = .ok (.iconst 0, 1) := by decide +kernel
theorem dX3_empty_5 : decode cX3_empty 5 = .ok (.putfield 23, 3) := by decide +kernel
theorem dX3_empty_8 : decode cX3_empty 8 = .ok (.aload_n 0, 1) := by decide +kernel
theorem dX3_empty_9 : decode cX3_empty 9 = .ok (.getfield 20, 3) := by decide +kernel
theorem dX3_empty_12 : decode cX3_empty 12 = .ok (.iconst 0, 1) := by decide +kernel
theorem dX3_empty_13 : decode cX3_empty 13 = .ok (.putfield 23, 3) := by decide +kernel
theorem dX3_empty_16 : decode cX3_empty 16 = .ok (.return_, 1) := by decide +kernel
theorem dX3_put_0 : decode cX3_put 0 = .ok (.aload_n 1, 1) := by decide +kernel
theorem dX3_put_1 : decode cX3_put 1 = .ok (.getfield 27, 3) := by decide +kernel
theorem dX3_put_4 : decode cX3_put 4 = .ok (.iload_n 2, 1) := by decide +kernel
theorem dX3_put_5 : decode cX3_put 5 = .ok (.baload, 1) := by decide +kernel
theorem dX3_put_6 : decode cX3_put 6 = .ok (.ifCond .eq 15, 3) := by decide +kernel
theorem dX3_put_9 : decode cX3_put 9 = .ok (.aload_n 0, 1) := by decide +kernel
theorem dX3_put_10 : decode cX3_put 10 = .ok (.getfield 20, 3) := by decide +kernel
theorem dX3_put_13 : decode cX3_put 13 = .ok (.iload_n 2, 1) := by decide +kernel
theorem dX3_put_14 : decode cX3_put 14 = .ok (.iload_n 3, 1) := by decide +kernel
theorem dX3_put_15 : decode cX3_put 15 = .ok (.invokevirtual 33, 3) := by decide +kernel
theorem dX3_put_18 : decode cX3_put 18 = .ok (.goto 12, 3) := by decide +kernel
theorem dX3_put_21 : decode cX3_put 21 = .ok (.aload_n 0, 1) := by decide +kernel
theorem dX3_put_22 : decode cX3_put 22 = .ok (.getfield 14, 3) := by decide +kernel
theorem dX3_put_25 : decode cX3_put 25 = .ok (.iload_n 2, 1) := by decide +kernel
theorem dX3_put_26 : decode cX3_put 26 = .ok (.iload_n 3, 1) := by decide +kernel
theorem dX3_put_27 : decode cX3_put 27 = .ok (.invokevirtual 33, 3) := by decide +kernel
theorem dX3_put_30 : decode cX3_put 30 = .ok (.return_, 1) := by decide +kernel
theorem dX3_meet_0 : decode cX3_meet 0 = .ok (.aload_n 0, 1) := by decide +kernel
theorem dX3_meet_1 : decode cX3_meet 1 = .ok (.invokevirtual 37, 3) := by decide +kernel
theorem dX3_meet_4 : decode cX3_meet 4 = .ok (.iconst 0, 1) := by decide +kernel
theorem dX3_meet_5 : decode cX3_meet 5 = .ok (.istore_n 3, 1) := by decide +kernel
theorem dX3_meet_6 : decode cX3_meet 6 = .ok (.iload_n 3, 1) := by decide +kernel
theorem dX3_meet_7 : decode cX3_meet 7 = .ok (.aload_n 1, 1) := by decide +kernel
theorem dX3_meet_8 : decode cX3_meet 8 = .ok (.getfield 40, 3) := by decide +kernel
theorem dX3_meet_11 : decode cX3_meet 11 = .ok (.if_icmp .ge 21, 3) := by decide +kernel
theorem dX3_meet_14 : decode cX3_meet 14 = .ok (.aload_n 0, 1) := by decide +kernel
theorem dX3_meet_15 : decode cX3_meet 15 = .ok (.aload_n 1, 1) := by decide +kernel
theorem dX3_meet_16 : decode cX3_meet 16 = .ok (.iload_n 3, 1) := by decide +kernel
theorem dX3_meet_17 : decode cX3_meet 17 = .ok (.aload_n 1, 1) := by decide +kernel
theorem dX3_meet_18 : decode cX3_meet 18 = .ok (.getfield 43, 3) := by decide +kernel
theorem dX3_meet_21 : decode cX3_meet 21 = .ok (.iload_n 3, 1) := by decide +kernel
theorem dX3_meet_22 : decode cX3_meet 22 = .ok (.iaload, 1) := by decide +kernel
theorem dX3_meet_23 : decode cX3_meet 23 = .ok (.invokevirtual 47, 3) := by decide +kernel
theorem dX3_meet_26 : decode cX3_meet 26 = .ok (.iinc 3 1, 3) := by decide +kernel
theorem dX3_meet_29 : decode cX3_meet 29 = .ok (.goto (-23), 3) := by decide +kernel
theorem dX3_meet_32 : decode cX3_meet 32 = .ok (.aload_n 0, 1) := by decide +kernel
theorem dX3_meet_33 : decode cX3_meet 33 = .ok (.iload_n 2, 1) := by decide +kernel
theorem dX3_meet_34 : decode cX3_meet 34 = .ok (.invokevirtual 51, 3) := by decide +kernel
theorem dX3_meet_37 : decode cX3_meet 37 = .ok (.return_, 1) := by decide +kernel
theorem dX3_cross_0 : decode cX3_cross 0 = .ok (.aload_n 0, 1) := by decide +kernel
theorem dX3_cross_1 : decode cX3_cross 1 = .ok (.getfield 14, 3) := by decide +kernel
theorem dX3_cross_4 : decode cX3_cross 4 = .ok (.getfield 23, 3) := by decide +kernel
theorem dX3_cross_7 : decode cX3_cross 7 = .ok (.aload_n 0, 1) := by decide +kernel
theorem dX3_cross_8 : decode cX3_cross 8 = .ok (.getfield 20, 3) := by decide +kernel
theorem dX3_cross_11 : decode cX3_cross 11 = .ok (.getfield 23, 3) := by decide +kernel
theorem dX3_cross_14 : decode cX3_cross 14 = .ok (.invokestatic 55, 3) := by decide +kernel
theorem dX3_cross_17 : decode cX3_cross 17 = .ok (.istore_n 2, 1) := by decide +kernel
theorem dX3_cross_18 : decode cX3_cross 18 = .ok (.aload_n 0, 1) := by decide +kernel
theorem dX3_cross_19 : decode cX3_cross 19 = .ok (.iconst 0, 1) := by decide +kernel
theorem dX3_cross_20 : decode cX3_cross 20 = .ok (.putfield 61, 3) := by decide +kernel
theorem dX3_cross_23 : decode cX3_cross 23 = .ok (.aload_n 0, 1) := by decide +kernel
theorem dX3_cross_24 : decode cX3_cross 24 = .ok (.getfield 61, 3) := by decide +kernel
theorem dX3_cross_27 : decode cX3_cross 27 = .ok (.iload_n 2, 1) := by decide +kernel
theorem dX3_cross_28 : decode cX3_cross 28 = .ok (.if_icmp .ge 45, 3) := by decide +kernel
theorem dX3_cross_31 : decode cX3_cross 31 = .ok (.aload_n 0, 1) := by decide +kernel
theorem dX3_cross_32 : decode cX3_cross 32 = .ok (.getfield 14, 3) := by decide +kernel
theorem dX3_cross_35 : decode cX3_cross 35 = .ok (.getfield 64, 3) := by decide +kernel
theorem dX3_cross_38 : decode cX3_cross 38 = .ok (.aload_n 0, 1) := by decide +kernel
theorem dX3_cross_39 : decode cX3_cross 39 = .ok (.getfield 61, 3) := by decide +kernel
theorem dX3_cross_42 : decode cX3_cross 42 = .ok (.iaload, 1) := by decide +kernel
theorem dX3_cross_43 : decode cX3_cross 43 = .ok (.aload_n 0, 1) := by decide +kernel
theorem dX3_cross_44 : decode cX3_cross 44 = .ok (.getfield 20, 3) := by decide +kernel
theorem dX3_cross_47 : decode cX3_cross 47 = .ok (.getfield 64, 3) := by decide +kernel
theorem dX3_cross_50 : decode cX3_cross 50 = .ok (.aload_n 0, 1) := by decide +kernel
theorem dX3_cross_51 : decode cX3_cross 51 = .ok (.getfield 61, 3) := by decide +kernel
theorem dX3_cross_54 : decode cX3_cross 54 = .ok (.iaload, 1) := by decide +kernel
theorem dX3_cross_55 : decode cX3_cross 55 = .ok (.iload_n 1, 1) := by decide +kernel
theorem dX3_cross_56 : decode cX3_cross 56 = .ok (.iadd, 1) := by decide +kernel
theorem dX3_cross_57 : decode cX3_cross 57 = .ok (.if_icmp .lt 16, 3) := by decide +kernel
theorem dX3_cross_60 : decode cX3_cross 60 = .ok (.aload_n 0, 1) := by decide +kernel
theorem dX3_cross_61 : decode cX3_cross 61 = .ok (.dup, 1) := by decide +kernel
theorem dX3_cross_62 : decode cX3_cross 62 = .ok (.getfield 61, 3) := by decide +kernel
theorem dX3_cross_65 : decode cX3_cross 65 = .ok (.iconst 1, 1) := by decide +kernel
theorem dX3_cross_66 : decode cX3_cross 66 = .ok (.iadd, 1) := by decide +kernel
theorem dX3_cross_67 : decode cX3_cross 67 = .ok (.putfield 61, 3) := by decide +kernel
theorem dX3_cross_70 : decode cX3_cross 70 = .ok (.goto (-47), 3) := by decide +kernel
theorem dX3_cross_73 : decode cX3_cross 73 = .ok (.aload_n 0, 1) := by decide +kernel
theorem dX3_cross_74 : decode cX3_cross 74 = .ok (.aload_n 0, 1) := by decide +kernel
theorem dX3_cross_75 : decode cX3_cross 75 = .ok (.getfield 14, 3) := by decide +kernel
theorem dX3_cross_78 : decode cX3_cross 78 = .ok (.iconst 0, 1) := by decide +kernel
theorem dX3_cross_79 : decode cX3_cross 79 = .ok (.aload_n 0, 1) := by decide +kernel
theorem dX3_cross_80 : decode cX3_cross 80 = .ok (.getfield 61, 3) := by decide +kernel
theorem dX3_cross_83 : decode cX3_cross 83 = .ok (.invokevirtual 65, 3) := by decide +kernel
theorem dX3_cross_86 : decode cX3_cross 86 = .ok (.aload_n 0, 1) := by decide +kernel
theorem dX3_cross_87 : decode cX3_cross 87 = .ok (.getfield 20, 3) := by decide +kernel
theorem dX3_cross_90 : decode cX3_cross 90 = .ok (.iconst 0, 1) := by decide +kernel
theorem dX3_cross_91 : decode cX3_cross 91 = .ok (.aload_n 0, 1) := by decide +kernel
theorem dX3_cross_92 : decode cX3_cross 92 = .ok (.getfield 61, 3) := by decide +kernel
theorem dX3_cross_95 : decode cX3_cross 95 = .ok (.invokevirtual 65, 3) := by decide +kernel
theorem dX3_cross_98 : decode cX3_cross 98 = .ok (.isub, 1) := by decide +kernel
theorem dX3_cross_99 : decode cX3_cross 99 = .ok (.putfield 68, 3) := by decide +kernel
theorem dX3_cross_102 : decode cX3_cross 102 = .ok (.aload_n 0, 1) := by decide +kernel
theorem dX3_cross_103 : decode cX3_cross 103 = .ok (.bipush (-4), 2) := by decide +kernel
theorem dX3_cross_105 : decode cX3_cross 105 = .ok (.putfield 71, 3) := by decide +kernel
theorem dX3_cross_108 : decode cX3_cross 108 = .ok (.aload_n 0, 1) := by decide +kernel
theorem dX3_cross_109 : decode cX3_cross 109 = .ok (.bipush (-4), 2) := by decide +kernel
theorem dX3_cross_111 : decode cX3_cross 111 = .ok (.putfield 74, 3) := by decide +kernel
theorem dX3_cross_114 : decode cX3_cross 114 = .ok (.aload_n 0, 1) := by decide +kernel
theorem dX3_cross_115 : decode cX3_cross 115 = .ok (.getfield 61, 3) := by decide +kernel
theorem dX3_cross_118 : decode cX3_cross 118 = .ok (.ifCond .le 8, 3) := by decide +kernel
theorem dX3_cross_121 : decode cX3_cross 121 = .ok (.aload_n 0, 1) := by decide +kernel
theorem dX3_cross_122 : decode cX3_cross 122 = .ok (.iload_n 1, 1) := by decide +kernel
theorem dX3_cross_123 : decode cX3_cross 123 = .ok (.invokevirtual 77, 3) := by decide +kernel
theorem dX3_cross_126 : decode cX3_cross 126 = .ok (.return_, 1) := by decide +kernel
theorem dX3_price_0 : decode cX3_price 0 = .ok (.aload_n 0, 1) := by decide +kernel
theorem dX3_price_1 : decode cX3_price 1 = .ok (.aload_n 0, 1) := by decide +kernel
theorem dX3_price_2 : decode cX3_price 2 = .ok (.getfield 20, 3) := by decide +kernel
theorem dX3_price_5 : decode cX3_price 5 = .ok (.getfield 64, 3) := by decide +kernel
theorem dX3_price_8 : decode cX3_price 8 = .ok (.aload_n 0, 1) := by decide +kernel
theorem dX3_price_9 : decode cX3_price 9 = .ok (.getfield 61, 3) := by decide +kernel
theorem dX3_price_12 : decode cX3_price 12 = .ok (.iconst 1, 1) := by decide +kernel
theorem dX3_price_13 : decode cX3_price 13 = .ok (.isub, 1) := by decide +kernel
theorem dX3_price_14 : decode cX3_price 14 = .ok (.iaload, 1) := by decide +kernel
theorem dX3_price_15 : decode cX3_price 15 = .ok (.iload_n 1, 1) := by decide +kernel
theorem dX3_price_16 : decode cX3_price 16 = .ok (.iadd, 1) := by decide +kernel
theorem dX3_price_17 : decode cX3_price 17 = .ok (.putfield 71, 3) := by decide +kernel
theorem dX3_price_20 : decode cX3_price 20 = .ok (.aload_n 0, 1) := by decide +kernel
theorem dX3_price_21 : decode cX3_price 21 = .ok (.aload_n 0, 1) := by decide +kernel
theorem dX3_price_22 : decode cX3_price 22 = .ok (.getfield 14, 3) := by decide +kernel
theorem dX3_price_25 : decode cX3_price 25 = .ok (.getfield 64, 3) := by decide +kernel
theorem dX3_price_28 : decode cX3_price 28 = .ok (.aload_n 0, 1) := by decide +kernel
theorem dX3_price_29 : decode cX3_price 29 = .ok (.getfield 61, 3) := by decide +kernel
theorem dX3_price_32 : decode cX3_price 32 = .ok (.iconst 1, 1) := by decide +kernel
theorem dX3_price_33 : decode cX3_price 33 = .ok (.isub, 1) := by decide +kernel
theorem dX3_price_34 : decode cX3_price 34 = .ok (.iaload, 1) := by decide +kernel
theorem dX3_price_35 : decode cX3_price 35 = .ok (.putfield 74, 3) := by decide +kernel
theorem dX3_price_38 : decode cX3_price 38 = .ok (.aload_n 0, 1) := by decide +kernel
theorem dX3_price_39 : decode cX3_price 39 = .ok (.getfield 61, 3) := by decide +kernel
theorem dX3_price_42 : decode cX3_price 42 = .ok (.aload_n 0, 1) := by decide +kernel
theorem dX3_price_43 : decode cX3_price 43 = .ok (.getfield 14, 3) := by decide +kernel
theorem dX3_price_46 : decode cX3_price 46 = .ok (.getfield 23, 3) := by decide +kernel
theorem dX3_price_49 : decode cX3_price 49 = .ok (.if_icmp .ge 26, 3) := by decide +kernel
theorem dX3_price_52 : decode cX3_price 52 = .ok (.aload_n 0, 1) := by decide +kernel
theorem dX3_price_53 : decode cX3_price 53 = .ok (.aload_n 0, 1) := by decide +kernel
theorem dX3_price_54 : decode cX3_price 54 = .ok (.getfield 71, 3) := by decide +kernel
theorem dX3_price_57 : decode cX3_price 57 = .ok (.aload_n 0, 1) := by decide +kernel
theorem dX3_price_58 : decode cX3_price 58 = .ok (.getfield 14, 3) := by decide +kernel
theorem dX3_price_61 : decode cX3_price 61 = .ok (.getfield 64, 3) := by decide +kernel
theorem dX3_price_64 : decode cX3_price 64 = .ok (.aload_n 0, 1) := by decide +kernel
theorem dX3_price_65 : decode cX3_price 65 = .ok (.getfield 61, 3) := by decide +kernel
theorem dX3_price_68 : decode cX3_price 68 = .ok (.iaload, 1) := by decide +kernel
theorem dX3_price_69 : decode cX3_price 69 = .ok (.invokestatic 80, 3) := by decide +kernel
theorem dX3_price_72 : decode cX3_price 72 = .ok (.putfield 71, 3) := by decide +kernel
theorem dX3_price_75 : decode cX3_price 75 = .ok (.aload_n 0, 1) := by decide +kernel
theorem dX3_price_76 : decode cX3_price 76 = .ok (.getfield 61, 3) := by decide +kernel
theorem dX3_price_79 : decode cX3_price 79 = .ok (.aload_n 0, 1) := by decide +kernel
theorem dX3_price_80 : decode cX3_price 80 = .ok (.getfield 20, 3) := by decide +kernel
theorem dX3_price_83 : decode cX3_price 83 = .ok (.getfield 23, 3) := by decide +kernel
theorem dX3_price_86 : decode cX3_price 86 = .ok (.if_icmp .ge 28, 3) := by decide +kernel
theorem dX3_price_89 : decode cX3_price 89 = .ok (.aload_n 0, 1) := by decide +kernel
theorem dX3_price_90 : decode cX3_price 90 = .ok (.aload_n 0, 1) := by decide +kernel
theorem dX3_price_91 : decode cX3_price 91 = .ok (.getfield 74, 3) := by decide +kernel
theorem dX3_price_94 : decode cX3_price 94 = .ok (.aload_n 0, 1) := by decide +kernel
theorem dX3_price_95 : decode cX3_price 95 = .ok (.getfield 20, 3) := by decide +kernel
theorem dX3_price_98 : decode cX3_price 98 = .ok (.getfield 64, 3) := by decide +kernel
theorem dX3_price_101 : decode cX3_price 101 = .ok (.aload_n 0, 1) := by decide +kernel
theorem dX3_price_102 : decode cX3_price 102 = .ok (.getfield 61, 3) := by decide +kernel
theorem dX3_price_105 : decode cX3_price 105 = .ok (.iaload, 1) := by decide +kernel
theorem dX3_price_106 : decode cX3_price 106 = .ok (.iload_n 1, 1) := by decide +kernel
theorem dX3_price_107 : decode cX3_price 107 = .ok (.iadd, 1) := by decide +kernel
theorem dX3_price_108 : decode cX3_price 108 = .ok (.invokestatic 55, 3) := by decide +kernel
theorem dX3_price_111 : decode cX3_price 111 = .ok (.putfield 74, 3) := by decide +kernel
theorem dX3_price_114 : decode cX3_price 114 = .ok (.return_, 1) := by decide +kernel
theorem dX3_trades_0 : decode cX3_trades 0 = .ok (.iload_n 1, 1) := by decide +kernel
theorem dX3_trades_1 : decode cX3_trades 1 = .ok (.ifCond .eq 18, 3) := by decide +kernel
theorem dX3_trades_4 : decode cX3_trades 4 = .ok (.aload_n 0, 1) := by decide +kernel
theorem dX3_trades_5 : decode cX3_trades 5 = .ok (.getfield 20, 3) := by decide +kernel
theorem dX3_trades_8 : decode cX3_trades 8 = .ok (.iload_n 2, 1) := by decide +kernel
theorem dX3_trades_9 : decode cX3_trades 9 = .ok (.aload_n 0, 1) := by decide +kernel
theorem dX3_trades_10 : decode cX3_trades 10 = .ok (.getfield 61, 3) := by decide +kernel
theorem dX3_trades_13 : decode cX3_trades 13 = .ok (.invokevirtual 83, 3) := by decide +kernel
theorem dX3_trades_16 : decode cX3_trades 16 = .ok (.goto 15, 3) := by decide +kernel
theorem dX3_trades_19 : decode cX3_trades 19 = .ok (.aload_n 0, 1) := by decide +kernel
theorem dX3_trades_20 : decode cX3_trades 20 = .ok (.getfield 14, 3) := by decide +kernel
theorem dX3_trades_23 : decode cX3_trades 23 = .ok (.iload_n 2, 1) := by decide +kernel
theorem dX3_trades_24 : decode cX3_trades 24 = .ok (.aload_n 0, 1) := by decide +kernel
theorem dX3_trades_25 : decode cX3_trades 25 = .ok (.getfield 61, 3) := by decide +kernel
theorem dX3_trades_28 : decode cX3_trades 28 = .ok (.invokevirtual 83, 3) := by decide +kernel
theorem dX3_trades_31 : decode cX3_trades 31 = .ok (.ireturn, 1) := by decide +kernel
theorem dX4_init_0 : decode cX4_init 0 = .ok (.aload_n 0, 1) := by decide +kernel
theorem dX4_init_1 : decode cX4_init 1 = .ok (.invokespecial 3, 3) := by decide +kernel
theorem dX4_init_4 : decode cX4_init 4 = .ok (.aload_n 0, 1) := by decide +kernel
theorem dX4_init_5 : decode cX4_init 5 = .ok (.sipush 200, 3) := by decide +kernel
theorem dX4_init_8 : decode cX4_init 8 = .ok (.newarray .int, 2) := by decide +kernel
theorem dX4_init_10 : decode cX4_init 10 = .ok (.putfield 9, 3) := by decide +kernel
theorem dX4_init_13 : decode cX4_init 13 = .ok (.aload_n 0, 1) := by decide +kernel
theorem dX4_init_14 : decode cX4_init 14 = .ok (.sipush 200, 3) := by decide +kernel
theorem dX4_init_17 : decode cX4_init 17 = .ok (.newarray .int, 2) := by decide +kernel
theorem dX4_init_19 : decode cX4_init 19 = .ok (.putfield 15, 3) := by decide +kernel
theorem dX4_init_22 : decode cX4_init 22 = .ok (.aload_n 0, 1) := by decide +kernel
theorem dX4_init_23 : decode cX4_init 23 = .ok (.sipush 200, 3) := by decide +kernel
theorem dX4_init_26 : decode cX4_init 26 = .ok (.newarray .int, 2) := by decide +kernel
theorem dX4_init_28 : decode cX4_init 28 = .ok (.putfield 18, 3) := by decide +kernel
theorem dX4_init_31 : decode cX4_init 31 = .ok (.aload_n 0, 1) := by decide +kernel
theorem dX4_init_32 : decode cX4_init 32 = .ok (.sipush 200, 3) := by decide +kernel
theorem dX4_init_35 : decode cX4_init 35 = .ok (.newarray .int, 2) := by decide +kernel
theorem dX4_init_37 : decode cX4_init 37 = .ok (.putfield 21, 3) := by decide +kernel
theorem dX4_init_40 : decode cX4_init 40 = .ok (.aload_n 0, 1) := by decide +kernel
theorem dX4_init_41 : decode cX4_init 41 = .ok (.iconst 0, 1) := by decide +kernel
theorem dX4_init_42 : decode cX4_init 42 = .ok (.putfield 24, 3) := by decide +kernel
theorem dX4_init_45 : decode cX4_init 45 = .ok (.return_, 1) := by decide +kernel
theorem dX4_add_0 : decode cX4_add 0 = .ok (.aload_n 0, 1) := by decide +kernel
theorem dX4_add_1 : decode cX4_add 1 = .ok (.getfield 24, 3) := by decide +kernel
theorem dX4_add_4 : decode cX4_add 4 = .ok (.sipush 200, 3) := by decide +kernel
theorem dX4_add_7 : decode cX4_add 7 = .ok (.if_icmp .ge 54, 3) := by decide +kernel
theorem dX4_add_10 : decode cX4_add 10 = .ok (.aload_n 0, 1) := by decide +kernel
theorem dX4_add_11 : decode cX4_add 11 = .ok (.getfield 9, 3) := by decide +kernel
theorem dX4_add_14 : decode cX4_add 14 = .ok (.aload_n 0, 1) := by decide +kernel
theorem dX4_add_15 : decode cX4_add 15 = .ok (.getfield 24, 3) := by decide +kernel
theorem dX4_add_18 : decode cX4_add 18 = .ok (.iload_n 1, 1) := by decide +kernel
theorem dX4_add_19 : decode cX4_add 19 = .ok (.iastore, 1) := by decide +kernel
theorem dX4_add_20 : decode cX4_add 20 = .ok (.aload_n 0, 1) := by decide +kernel
theorem dX4_add_21 : decode cX4_add 21 = .ok (.getfield 15, 3) := by decide +kernel
theorem dX4_add_24 : decode cX4_add 24 = .ok (.aload_n 0, 1) := by decide +kernel
theorem dX4_add_25 : decode cX4_add 25 = .ok (.getfield 24, 3) := by decide +kernel
theorem dX4_add_28 : decode cX4_add 28 = .ok (.iload_n 2, 1) := by decide +kernel
theorem dX4_add_29 : decode cX4_add 29 = .ok (.iastore, 1) := by decide +kernel
theorem dX4_add_30 : decode cX4_add 30 = .ok (.aload_n 0, 1) := by decide +kernel
theorem dX4_add_31 : decode cX4_add 31 = .ok (.getfield 18, 3) := by decide +kernel
theorem dX4_add_34 : decode cX4_add 34 = .ok (.aload_n 0, 1) := by decide +kernel
theorem dX4_add_35 : decode cX4_add 35 = .ok (.getfield 24, 3) := by decide +kernel
theorem dX4_add_38 : decode cX4_add 38 = .ok (.iload_n 3, 1) := by decide +kernel
theorem dX4_add_39 : decode cX4_add 39 = .ok (.iastore, 1) := by decide +kernel
theorem dX4_add_40 : decode cX4_add 40 = .ok (.aload_n 0, 1) := by decide +kernel
theorem dX4_add_41 : decode cX4_add 41 = .ok (.getfield 21, 3) := by decide +kernel
theorem dX4_add_44 : decode cX4_add 44 = .ok (.aload_n 0, 1) := by decide +kernel
theorem dX4_add_45 : decode cX4_add 45 = .ok (.getfield 24, 3) := by decide +kernel
theorem dX4_add_48 : decode cX4_add 48 = .ok (.iload 4, 2) := by decide +kernel
theorem dX4_add_50 : decode cX4_add 50 = .ok (.iastore, 1) := by decide +kernel
theorem dX4_add_51 : decode cX4_add 51 = .ok (.aload_n 0, 1) := by decide +kernel
theorem dX4_add_52 : decode cX4_add 52 = .ok (.dup, 1) := by decide +kernel
theorem dX4_add_53 : decode cX4_add 53 = .ok (.getfield 24, 3) := by decide +kernel
theorem dX4_add_56 : decode cX4_add 56 = .ok (.iconst 1, 1) := by decide +kernel
theorem dX4_add_57 : decode cX4_add 57 = .ok (.iadd, 1) := by decide +kernel
theorem dX4_add_58 : decode cX4_add 58 = .ok (.putfield 24, 3) := by decide +kernel
theorem dX4_add_61 : decode cX4_add 61 = .ok (.return_, 1) := by decide +kernel
theorem dX4_copy_0 : decode cX4_copy 0 = .ok (.aload_n 1, 1) := by decide +kernel
theorem dX4_copy_1 : decode cX4_copy 1 = .ok (.getfield 9, 3) := by decide +kernel
theorem dX4_copy_4 : decode cX4_copy 4 = .ok (.iconst 0, 1) := by decide +kernel
theorem dX4_copy_5 : decode cX4_copy 5 = .ok (.aload_n 0, 1) := by decide +kernel
theorem dX4_copy_6 : decode cX4_copy 6 = .ok (.getfield 9, 3) := by decide +kernel
theorem dX4_copy_9 : decode cX4_copy 9 = .ok (.iconst 0, 1) := by decide +kernel
theorem dX4_copy_10 : decode cX4_copy 10 = .ok (.aload_n 1, 1) := by decide +kernel
theorem dX4_copy_11 : decode cX4_copy 11 = .ok (.getfield 24, 3) := by decide +kernel
theorem dX4_copy_14 : decode cX4_copy 14 = .ok (.invokestatic 28, 3) := by decide +kernel
theorem dX4_copy_17 : decode cX4_copy 17 = .ok (.aload_n 1, 1) := by decide +kernel
theorem dX4_copy_18 : decode cX4_copy 18 = .ok (.getfield 15, 3) := by decide +kernel
theorem dX4_copy_21 : decode cX4_copy 21 = .ok (.iconst 0, 1) := by decide +kernel
theorem dX4_copy_22 : decode cX4_copy 22 = .ok (.aload_n 0, 1) := by decide +kernel
theorem dX4_copy_23 : decode cX4_copy 23 = .ok (.getfield 15, 3) := by decide +kernel
theorem dX4_copy_26 : decode cX4_copy 26 = .ok (.iconst 0, 1) := by decide +kernel
theorem dX4_copy_27 : decode cX4_copy 27 = .ok (.aload_n 1, 1) := by decide +kernel
theorem dX4_copy_28 : decode cX4_copy 28 = .ok (.getfield 24, 3) := by decide +kernel
theorem dX4_copy_31 : decode cX4_copy 31 = .ok (.invokestatic 28, 3) := by decide +kernel
theorem dX4_copy_34 : decode cX4_copy 34 = .ok (.aload_n 1, 1) := by decide +kernel
theorem dX4_copy_35 : decode cX4_copy 35 = .ok (.getfield 18, 3) := by decide +kernel
theorem dX4_copy_38 : decode cX4_copy 38 = .ok (.iconst 0, 1) := by decide +kernel
theorem dX4_copy_39 : decode cX4_copy 39 = .ok (.aload_n 0, 1) := by decide +kernel
theorem dX4_copy_40 : decode cX4_copy 40 = .ok (.getfield 18, 3) := by decide +kernel
theorem dX4_copy_43 : decode cX4_copy 43 = .ok (.iconst 0, 1) := by decide +kernel
theorem dX4_copy_44 : decode cX4_copy 44 = .ok (.aload_n 1, 1) := by decide +kernel
theorem dX4_copy_45 : decode cX4_copy 45 = .ok (.getfield 24, 3) := by decide +kernel
theorem dX4_copy_48 : decode cX4_copy 48 = .ok (.invokestatic 28, 3) := by decide +kernel
theorem dX4_copy_51 : decode cX4_copy 51 = .ok (.aload_n 1, 1) := by decide +kernel
theorem dX4_copy_52 : decode cX4_copy 52 = .ok (.getfield 21, 3) := by decide +kernel
theorem dX4_copy_55 : decode cX4_copy 55 = .ok (.iconst 0, 1) := by decide +kernel
theorem dX4_copy_56 : decode cX4_copy 56 = .ok (.aload_n 0, 1) := by decide +kernel
theorem dX4_copy_57 : decode cX4_copy 57 = .ok (.getfield 21, 3) := by decide +kernel
theorem dX4_copy_60 : decode cX4_copy 60 = .ok (.iconst 0, 1) := by decide +kernel
theorem dX4_copy_61 : decode cX4_copy 61 = .ok (.aload_n 1, 1) := by decide +kernel
theorem dX4_copy_62 : decode cX4_copy 62 = .ok (.getfield 24, 3) := by decide +kernel
theorem dX4_copy_65 : decode cX4_copy 65 = .ok (.invokestatic 28, 3) := by decide +kernel
theorem dX4_copy_68 : decode cX4_copy 68 = .ok (.aload_n 0, 1) := by decide +kernel
theorem dX4_copy_69 : decode cX4_copy 69 = .ok (.aload_n 1, 1) := by decide +kernel
theorem dX4_copy_70 : decode cX4_copy 70 = .ok (.getfield 24, 3) := by decide +kernel
theorem dX4_copy_73 : decode cX4_copy 73 = .ok (.putfield 24, 3) := by decide +kernel
theorem dX4_copy_76 : decode cX4_copy 76 = .ok (.return_, 1) := by decide +kernel
theorem dX4_seenOf_0 : decode cX4_seenOf 0 = .ok (.aload_n 1, 1) := by decide +kernel
theorem dX4_seenOf_1 : decode cX4_seenOf 1 = .ok (.getfield 34, 3) := by decide +kernel
theorem dX4_seenOf_4 : decode cX4_seenOf 4 = .ok (.iload_n 2, 1) := by decide +kernel
theorem dX4_seenOf_5 : decode cX4_seenOf 5 = .ok (.baload, 1) := by decide +kernel
theorem dX4_seenOf_6 : decode cX4_seenOf 6 = .ok (.istore_n 3, 1) := by decide +kernel
theorem dX4_seenOf_7 : decode cX4_seenOf 7 = .ok (.iload_n 3, 1) := by decide +kernel
theorem dX4_seenOf_8 : decode cX4_seenOf 8 = .ok (.ifCond .eq 8, 3) := by decide +kernel
theorem dX4_seenOf_11 : decode cX4_seenOf 11 = .ok (.bipush 99, 2) := by decide +kernel
theorem dX4_seenOf_13 : decode cX4_seenOf 13 = .ok (.goto 4, 3) := by decide +kernel
theorem dX4_seenOf_16 : decode cX4_seenOf 16 = .ok (.iconst 0, 1) := by decide +kernel
theorem dX4_seenOf_17 : decode cX4_seenOf 17 = .ok (.istore 4, 2) := by decide +kernel
theorem dX4_seenOf_19 : decode cX4_seenOf 19 = .ok (.iconst 0, 1) := by decide +kernel
theorem dX4_seenOf_20 : decode cX4_seenOf 20 = .ok (.istore 5, 2) := by decide +kernel
theorem dX4_seenOf_22 : decode cX4_seenOf 22 = .ok (.iload 5, 2) := by decide +kernel
theorem dX4_seenOf_24 : decode cX4_seenOf 24 = .ok (.aload_n 0, 1) := by decide +kernel
theorem dX4_seenOf_25 : decode cX4_seenOf 25 = .ok (.getfield 24, 3) := by decide +kernel
theorem dX4_seenOf_28 : decode cX4_seenOf 28 = .ok (.if_icmp .ge 53, 3) := by decide +kernel
theorem dX4_seenOf_31 : decode cX4_seenOf 31 = .ok (.aload_n 0, 1) := by decide +kernel
theorem dX4_seenOf_32 : decode cX4_seenOf 32 = .ok (.getfield 9, 3) := by decide +kernel
theorem dX4_seenOf_35 : decode cX4_seenOf 35 = .ok (.iload 5, 2) := by decide +kernel
theorem dX4_seenOf_37 : decode cX4_seenOf 37 = .ok (.iaload, 1) := by decide +kernel
theorem dX4_seenOf_38 : decode cX4_seenOf 38 = .ok (.iload_n 2, 1) := by decide +kernel
theorem dX4_seenOf_39 : decode cX4_seenOf 39 = .ok (.if_icmp .ne 36, 3) := by decide +kernel
theorem dX4_seenOf_42 : decode cX4_seenOf 42 = .ok (.iload_n 3, 1) := by decide +kernel
theorem dX4_seenOf_43 : decode cX4_seenOf 43 = .ok (.ifCond .eq 18, 3) := by decide +kernel
theorem dX4_seenOf_46 : decode cX4_seenOf 46 = .ok (.iload 4, 2) := by decide +kernel
theorem dX4_seenOf_48 : decode cX4_seenOf 48 = .ok (.aload_n 0, 1) := by decide +kernel
theorem dX4_seenOf_49 : decode cX4_seenOf 49 = .ok (.getfield 15, 3) := by decide +kernel
theorem dX4_seenOf_52 : decode cX4_seenOf 52 = .ok (.iload 5, 2) := by decide +kernel
theorem dX4_seenOf_54 : decode cX4_seenOf 54 = .ok (.iaload, 1) := by decide +kernel
theorem dX4_seenOf_55 : decode cX4_seenOf 55 = .ok (.invokestatic 40, 3) := by decide +kernel
theorem dX4_seenOf_58 : decode cX4_seenOf 58 = .ok (.goto 15, 3) := by decide +kernel
theorem dX4_seenOf_61 : decode cX4_seenOf 61 = .ok (.iload 4, 2) := by decide +kernel
theorem dX4_seenOf_63 : decode cX4_seenOf 63 = .ok (.aload_n 0, 1) := by decide +kernel
theorem dX4_seenOf_64 : decode cX4_seenOf 64 = .ok (.getfield 15, 3) := by decide +kernel
theorem dX4_seenOf_67 : decode cX4_seenOf 67 = .ok (.iload 5, 2) := by decide +kernel
theorem dX4_seenOf_69 : decode cX4_seenOf 69 = .ok (.iaload, 1) := by decide +kernel
theorem dX4_seenOf_70 : decode cX4_seenOf 70 = .ok (.invokestatic 46, 3) := by decide +kernel
theorem dX4_seenOf_73 : decode cX4_seenOf 73 = .ok (.istore 4, 2) := by decide +kernel
theorem dX4_seenOf_75 : decode cX4_seenOf 75 = .ok (.iinc 5 1, 3) := by decide +kernel
theorem dX4_seenOf_78 : decode cX4_seenOf 78 = .ok (.goto (-56), 3) := by decide +kernel
theorem dX4_seenOf_81 : decode cX4_seenOf 81 = .ok (.iload 4, 2) := by decide +kernel
theorem dX4_seenOf_83 : decode cX4_seenOf 83 = .ok (.ireturn, 1) := by decide +kernel
theorem dX4_mayBeBy_0 : decode cX4_mayBeBy 0 = .ok (.iconst 0, 1) := by decide +kernel
theorem dX4_mayBeBy_1 : decode cX4_mayBeBy 1 = .ok (.istore 4, 2) := by decide +kernel
theorem dX4_mayBeBy_3 : decode cX4_mayBeBy 3 = .ok (.iload 4, 2) := by decide +kernel
theorem dX4_mayBeBy_5 : decode cX4_mayBeBy 5 = .ok (.aload_n 0, 1) := by decide +kernel
theorem dX4_mayBeBy_6 : decode cX4_mayBeBy 6 = .ok (.getfield 24, 3) := by decide +kernel
theorem dX4_mayBeBy_9 : decode cX4_mayBeBy 9 = .ok (.if_icmp .ge 116, 3) := by decide +kernel
theorem dX4_mayBeBy_12 : decode cX4_mayBeBy 12 = .ok (.aload_n 0, 1) := by decide +kernel
theorem dX4_mayBeBy_13 : decode cX4_mayBeBy 13 = .ok (.getfield 9, 3) := by decide +kernel
theorem dX4_mayBeBy_16 : decode cX4_mayBeBy 16 = .ok (.iload 4, 2) := by decide +kernel
theorem dX4_mayBeBy_18 : decode cX4_mayBeBy 18 = .ok (.iaload, 1) := by decide +kernel
theorem dX4_mayBeBy_19 : decode cX4_mayBeBy 19 = .ok (.iload_n 2, 1) := by decide +kernel
theorem dX4_mayBeBy_20 : decode cX4_mayBeBy 20 = .ok (.if_icmp .eq 6, 3) := by decide +kernel
theorem dX4_mayBeBy_23 : decode cX4_mayBeBy 23 = .ok (.goto 96, 3) := by decide +kernel
theorem dX4_mayBeBy_26 : decode cX4_mayBeBy 26 = .ok (.aload_n 1, 1) := by decide +kernel
theorem dX4_mayBeBy_27 : decode cX4_mayBeBy 27 = .ok (.iload_n 2, 1) := by decide +kernel
theorem dX4_mayBeBy_28 : decode cX4_mayBeBy 28 = .ok (.iload_n 3, 1) := by decide +kernel
theorem dX4_mayBeBy_29 : decode cX4_mayBeBy 29 = .ok (.aload_n 0, 1) := by decide +kernel
theorem dX4_mayBeBy_30 : decode cX4_mayBeBy 30 = .ok (.getfield 21, 3) := by decide +kernel
theorem dX4_mayBeBy_33 : decode cX4_mayBeBy 33 = .ok (.iload 4, 2) := by decide +kernel
theorem dX4_mayBeBy_35 : decode cX4_mayBeBy 35 = .ok (.iaload, 1) := by decide +kernel
theorem dX4_mayBeBy_36 : decode cX4_mayBeBy 36 = .ok (.invokestatic 49, 3) := by decide +kernel
theorem dX4_mayBeBy_39 : decode cX4_mayBeBy 39 = .ok (.iconst 1, 1) := by decide +kernel
theorem dX4_mayBeBy_40 : decode cX4_mayBeBy 40 = .ok (.isub, 1) := by decide +kernel
theorem dX4_mayBeBy_41 : decode cX4_mayBeBy 41 = .ok (.istore 5, 2) := by decide +kernel
theorem dX4_mayBeBy_43 : decode cX4_mayBeBy 43 = .ok (.aload_n 1, 1) := by decide +kernel
theorem dX4_mayBeBy_44 : decode cX4_mayBeBy 44 = .ok (.iload_n 2, 1) := by decide +kernel
theorem dX4_mayBeBy_45 : decode cX4_mayBeBy 45 = .ok (.iload_n 3, 1) := by decide +kernel
theorem dX4_mayBeBy_46 : decode cX4_mayBeBy 46 = .ok (.aload_n 0, 1) := by decide +kernel
theorem dX4_mayBeBy_47 : decode cX4_mayBeBy 47 = .ok (.getfield 18, 3) := by decide +kernel
theorem dX4_mayBeBy_50 : decode cX4_mayBeBy 50 = .ok (.iload 4, 2) := by decide +kernel
theorem dX4_mayBeBy_52 : decode cX4_mayBeBy 52 = .ok (.iaload, 1) := by decide +kernel
theorem dX4_mayBeBy_53 : decode cX4_mayBeBy 53 = .ok (.aload_n 0, 1) := by decide +kernel
theorem dX4_mayBeBy_54 : decode cX4_mayBeBy 54 = .ok (.getfield 21, 3) := by decide +kernel
theorem dX4_mayBeBy_57 : decode cX4_mayBeBy 57 = .ok (.iload 4, 2) := by decide +kernel
theorem dX4_mayBeBy_59 : decode cX4_mayBeBy 59 = .ok (.iaload, 1) := by decide +kernel
theorem dX4_mayBeBy_60 : decode cX4_mayBeBy 60 = .ok (.iconst 0, 1) := by decide +kernel
theorem dX4_mayBeBy_61 : decode cX4_mayBeBy 61 = .ok (.invokestatic 55, 3) := by decide +kernel
theorem dX4_mayBeBy_64 : decode cX4_mayBeBy 64 = .ok (.istore 6, 2) := by decide +kernel
theorem dX4_mayBeBy_66 : decode cX4_mayBeBy 66 = .ok (.aload_n 1, 1) := by decide +kernel
theorem dX4_mayBeBy_67 : decode cX4_mayBeBy 67 = .ok (.iload_n 2, 1) := by decide +kernel
theorem dX4_mayBeBy_68 : decode cX4_mayBeBy 68 = .ok (.iload_n 3, 1) := by decide +kernel
theorem dX4_mayBeBy_69 : decode cX4_mayBeBy 69 = .ok (.aload_n 0, 1) := by decide +kernel
theorem dX4_mayBeBy_70 : decode cX4_mayBeBy 70 = .ok (.getfield 18, 3) := by decide +kernel
theorem dX4_mayBeBy_73 : decode cX4_mayBeBy 73 = .ok (.iload 4, 2) := by decide +kernel
theorem dX4_mayBeBy_75 : decode cX4_mayBeBy 75 = .ok (.iaload, 1) := by decide +kernel
theorem dX4_mayBeBy_76 : decode cX4_mayBeBy 76 = .ok (.aload_n 0, 1) := by decide +kernel
theorem dX4_mayBeBy_77 : decode cX4_mayBeBy 77 = .ok (.getfield 21, 3) := by decide +kernel
theorem dX4_mayBeBy_80 : decode cX4_mayBeBy 80 = .ok (.iload 4, 2) := by decide +kernel
theorem dX4_mayBeBy_82 : decode cX4_mayBeBy 82 = .ok (.iaload, 1) := by decide +kernel
theorem dX4_mayBeBy_83 : decode cX4_mayBeBy 83 = .ok (.iload 5, 2) := by decide +kernel
theorem dX4_mayBeBy_85 : decode cX4_mayBeBy 85 = .ok (.invokestatic 55, 3) := by decide +kernel
theorem dX4_mayBeBy_88 : decode cX4_mayBeBy 88 = .ok (.istore 7, 2) := by decide +kernel
theorem dX4_mayBeBy_90 : decode cX4_mayBeBy 90 = .ok (.aload_n 0, 1) := by decide +kernel
theorem dX4_mayBeBy_91 : decode cX4_mayBeBy 91 = .ok (.getfield 15, 3) := by decide +kernel
theorem dX4_mayBeBy_94 : decode cX4_mayBeBy 94 = .ok (.iload 4, 2) := by decide +kernel
theorem dX4_mayBeBy_96 : decode cX4_mayBeBy 96 = .ok (.iaload, 1) := by decide +kernel
theorem dX4_mayBeBy_97 : decode cX4_mayBeBy 97 = .ok (.aload_n 1, 1) := by decide +kernel
theorem dX4_mayBeBy_98 : decode cX4_mayBeBy 98 = .ok (.iload_n 2, 1) := by decide +kernel
theorem dX4_mayBeBy_99 : decode cX4_mayBeBy 99 = .ok (.iload 6, 2) := by decide +kernel
theorem dX4_mayBeBy_101 : decode cX4_mayBeBy 101 = .ok (.invokestatic 59, 3) := by decide +kernel
theorem dX4_mayBeBy_104 : decode cX4_mayBeBy 104 = .ok (.aload_n 1, 1) := by decide +kernel
theorem dX4_mayBeBy_105 : decode cX4_mayBeBy 105 = .ok (.iload_n 2, 1) := by decide +kernel
theorem dX4_mayBeBy_106 : decode cX4_mayBeBy 106 = .ok (.iload 7, 2) := by decide +kernel
theorem dX4_mayBeBy_108 : decode cX4_mayBeBy 108 = .ok (.invokestatic 59, 3) := by decide +kernel
theorem dX4_mayBeBy_111 : decode cX4_mayBeBy 111 = .ok (.invokestatic 63, 3) := by decide +kernel
theorem dX4_mayBeBy_114 : decode cX4_mayBeBy 114 = .ok (.ifCond .ne 5, 3) := by decide +kernel
theorem dX4_mayBeBy_117 : decode cX4_mayBeBy 117 = .ok (.iconst 0, 1) := by decide +kernel
theorem dX4_mayBeBy_118 : decode cX4_mayBeBy 118 = .ok (.ireturn, 1) := by decide +kernel
theorem dX4_mayBeBy_119 : decode cX4_mayBeBy 119 = .ok (.iinc 4 1, 3) := by decide +kernel
theorem dX4_mayBeBy_122 : decode cX4_mayBeBy 122 = .ok (.goto (-119), 3) := by decide +kernel
theorem dX4_mayBeBy_125 : decode cX4_mayBeBy 125 = .ok (.iconst 1, 1) := by decide +kernel
theorem dX4_mayBeBy_126 : decode cX4_mayBeBy 126 = .ok (.ireturn, 1) := by decide +kernel
theorem dX5_init_0 : decode cX5_init 0 = .ok (.aload_n 0, 1) := by decide +kernel
theorem dX5_init_1 : decode cX5_init 1 = .ok (.invokespecial 3, 3) := by decide +kernel
theorem dX5_init_4 : decode cX5_init 4 = .ok (.aload_n 0, 1) := by decide +kernel
theorem dX5_init_5 : decode cX5_init 5 = .ok (.iconst 2, 1) := by decide +kernel
theorem dX5_init_6 : decode cX5_init 6 = .ok (.newarray .int, 2) := by decide +kernel
theorem dX5_init_8 : decode cX5_init 8 = .ok (.putfield 11, 3) := by decide +kernel
theorem dX5_init_11 : decode cX5_init 11 = .ok (.aload_n 0, 1) := by decide +kernel
theorem dX5_init_12 : decode cX5_init 12 = .ok (.iconst 0, 1) := by decide +kernel
theorem dX5_init_13 : decode cX5_init 13 = .ok (.putfield 15, 3) := by decide +kernel
theorem dX5_init_16 : decode cX5_init 16 = .ok (.aload_n 0, 1) := by decide +kernel
theorem dX5_init_17 : decode cX5_init 17 = .ok (.iconst 0, 1) := by decide +kernel
theorem dX5_init_18 : decode cX5_init 18 = .ok (.putfield 19, 3) := by decide +kernel
theorem dX5_init_21 : decode cX5_init 21 = .ok (.return_, 1) := by decide +kernel
theorem dX5_read_0 : decode cX5_read 0 = .ok (.aload_n 2, 1) := by decide +kernel
theorem dX5_read_1 : decode cX5_read 1 = .ok (.invokevirtual 22, 3) := by decide +kernel
theorem dX5_read_4 : decode cX5_read 4 = .ok (.iconst 0, 1) := by decide +kernel
theorem dX5_read_5 : decode cX5_read 5 = .ok (.istore_n 3, 1) := by decide +kernel
theorem dX5_read_6 : decode cX5_read 6 = .ok (.iconst 0, 1) := by decide +kernel
theorem dX5_read_7 : decode cX5_read 7 = .ok (.istore 4, 2) := by decide +kernel
theorem dX5_read_9 : decode cX5_read 9 = .ok (.iload 4, 2) := by decide +kernel
theorem dX5_read_11 : decode cX5_read 11 = .ok (.sipush 300, 3) := by decide +kernel
theorem dX5_read_14 : decode cX5_read 14 = .ok (.if_icmp .ge 47, 3) := by decide +kernel
theorem dX5_read_17 : decode cX5_read 17 = .ok (.iload_n 3, 1) := by decide +kernel
theorem dX5_read_18 : decode cX5_read 18 = .ok (.aload_n 1, 1) := by decide +kernel
theorem dX5_read_19 : decode cX5_read 19 = .ok (.getfield 27, 3) := by decide +kernel
theorem dX5_read_22 : decode cX5_read 22 = .ok (.if_icmp .ge 39, 3) := by decide +kernel
theorem dX5_read_25 : decode cX5_read 25 = .ok (.aload_n 0, 1) := by decide +kernel
theorem dX5_read_26 : decode cX5_read 26 = .ok (.aload_n 1, 1) := by decide +kernel
theorem dX5_read_27 : decode cX5_read 27 = .ok (.iload_n 3, 1) := by decide +kernel
theorem dX5_read_28 : decode cX5_read 28 = .ok (.invokevirtual 32, 3) := by decide +kernel
theorem dX5_read_31 : decode cX5_read 31 = .ok (.ifCond .eq 17, 3) := by decide +kernel
theorem dX5_read_34 : decode cX5_read 34 = .ok (.aload_n 0, 1) := by decide +kernel
theorem dX5_read_35 : decode cX5_read 35 = .ok (.aload_n 1, 1) := by decide +kernel
theorem dX5_read_36 : decode cX5_read 36 = .ok (.getfield 36, 3) := by decide +kernel
theorem dX5_read_39 : decode cX5_read 39 = .ok (.iload_n 3, 1) := by decide +kernel
theorem dX5_read_40 : decode cX5_read 40 = .ok (.iaload, 1) := by decide +kernel
theorem dX5_read_41 : decode cX5_read 41 = .ok (.aload_n 2, 1) := by decide +kernel
theorem dX5_read_42 : decode cX5_read 42 = .ok (.invokevirtual 39, 3) := by decide +kernel
theorem dX5_read_45 : decode cX5_read 45 = .ok (.ifCond .ne 5, 3) := by decide +kernel
theorem dX5_read_48 : decode cX5_read 48 = .ok (.iload_n 3, 1) := by decide +kernel
theorem dX5_read_49 : decode cX5_read 49 = .ok (.ireturn, 1) := by decide +kernel
theorem dX5_read_50 : decode cX5_read 50 = .ok (.aload_n 0, 1) := by decide +kernel
theorem dX5_read_51 : decode cX5_read 51 = .ok (.getfield 19, 3) := by decide +kernel
theorem dX5_read_54 : decode cX5_read 54 = .ok (.istore_n 3, 1) := by decide +kernel
theorem dX5_read_55 : decode cX5_read 55 = .ok (.iinc 4 1, 3) := by decide +kernel
theorem dX5_read_58 : decode cX5_read 58 = .ok (.goto (-49), 3) := by decide +kernel
theorem dX5_read_61 : decode cX5_read 61 = .ok (.bipush (-4), 2) := by decide +kernel
theorem dX5_read_63 : decode cX5_read 63 = .ok (.ireturn, 1) := by decide +kernel
theorem dX5_split_0 : decode cX5_split 0 = .ok (.aload_n 0, 1) := by decide +kernel
theorem dX5_split_1 : decode cX5_split 1 = .ok (.iconst 0, 1) := by decide +kernel
theorem dX5_split_2 : decode cX5_split 2 = .ok (.putfield 15, 3) := by decide +kernel
theorem dX5_split_5 : decode cX5_split 5 = .ok (.iconst 0, 1) := by decide +kernel
theorem dX5_split_6 : decode cX5_split 6 = .ok (.istore_n 3, 1) := by decide +kernel
theorem dX5_split_7 : decode cX5_split 7 = .ok (.iconst 0, 1) := by decide +kernel
theorem dX5_split_8 : decode cX5_split 8 = .ok (.istore 4, 2) := by decide +kernel
theorem dX5_split_10 : decode cX5_split 10 = .ok (.iload_n 2, 1) := by decide +kernel
theorem dX5_split_11 : decode cX5_split 11 = .ok (.iconst 1, 1) := by decide +kernel
theorem dX5_split_12 : decode cX5_split 12 = .ok (.iadd, 1) := by decide +kernel
theorem dX5_split_13 : decode cX5_split 13 = .ok (.istore 5, 2) := by decide +kernel
theorem dX5_split_15 : decode cX5_split 15 = .ok (.iload 5, 2) := by decide +kernel
theorem dX5_split_17 : decode cX5_split 17 = .ok (.aload_n 1, 1) := by decide +kernel
theorem dX5_split_18 : decode cX5_split 18 = .ok (.getfield 27, 3) := by decide +kernel
theorem dX5_split_21 : decode cX5_split 21 = .ok (.if_icmp .ge 130, 3) := by decide +kernel
theorem dX5_split_24 : decode cX5_split 24 = .ok (.aload_n 1, 1) := by decide +kernel
theorem dX5_split_25 : decode cX5_split 25 = .ok (.getfield 36, 3) := by decide +kernel
theorem dX5_split_28 : decode cX5_split 28 = .ok (.iload 5, 2) := by decide +kernel
theorem dX5_split_30 : decode cX5_split 30 = .ok (.iaload, 1) := by decide +kernel
theorem dX5_split_31 : decode cX5_split 31 = .ok (.istore 6, 2) := by decide +kernel
theorem dX5_split_33 : decode cX5_split 33 = .ok (.iload 6, 2) := by decide +kernel
theorem dX5_split_35 : decode cX5_split 35 = .ok (.bipush 48, 2) := by decide +kernel
theorem dX5_split_37 : decode cX5_split 37 = .ok (.if_icmp .lt 34, 3) := by decide +kernel
theorem dX5_split_40 : decode cX5_split 40 = .ok (.iload 6, 2) := by decide +kernel
theorem dX5_split_42 : decode cX5_split 42 = .ok (.bipush 57, 2) := by decide +kernel
theorem dX5_split_44 : decode cX5_split 44 = .ok (.if_icmp .gt 27, 3) := by decide +kernel
theorem dX5_split_47 : decode cX5_split 47 = .ok (.iload_n 3, 1) := by decide +kernel
theorem dX5_split_48 : decode cX5_split 48 = .ok (.iconst 3, 1) := by decide +kernel
theorem dX5_split_49 : decode cX5_split 49 = .ok (.if_icmp .ge 22, 3) := by decide +kernel
theorem dX5_split_52 : decode cX5_split 52 = .ok (.bipush 10, 2) := by decide +kernel
theorem dX5_split_54 : decode cX5_split 54 = .ok (.iload 4, 2) := by decide +kernel
theorem dX5_split_56 : decode cX5_split 56 = .ok (.imul, 1) := by decide +kernel
theorem dX5_split_57 : decode cX5_split 57 = .ok (.iload 6, 2) := by decide +kernel
theorem dX5_split_59 : decode cX5_split 59 = .ok (.iadd, 1) := by decide +kernel
theorem dX5_split_60 : decode cX5_split 60 = .ok (.bipush 48, 2) := by decide +kernel
theorem dX5_split_62 : decode cX5_split 62 = .ok (.isub, 1) := by decide +kernel
theorem dX5_split_63 : decode cX5_split 63 = .ok (.istore 4, 2) := by decide +kernel
theorem dX5_split_65 : decode cX5_split 65 = .ok (.iinc 3 1, 3) := by decide +kernel
theorem dX5_split_68 : decode cX5_split 68 = .ok (.goto 77, 3) := by decide +kernel
theorem dX5_split_71 : decode cX5_split 71 = .ok (.iload 6, 2) := by decide +kernel
theorem dX5_split_73 : decode cX5_split 73 = .ok (.bipush 44, 2) := by decide +kernel
theorem dX5_split_75 : decode cX5_split 75 = .ok (.if_icmp .eq 10, 3) := by decide +kernel
theorem dX5_split_78 : decode cX5_split 78 = .ok (.iload 6, 2) := by decide +kernel
theorem dX5_split_80 : decode cX5_split 80 = .ok (.bipush 59, 2) := by decide +kernel
theorem dX5_split_82 : decode cX5_split 82 = .ok (.if_icmp .ne 61, 3) := by decide +kernel
theorem dX5_split_85 : decode cX5_split 85 = .ok (.iload_n 3, 1) := by decide +kernel
theorem dX5_split_86 : decode cX5_split 86 = .ok (.ifCond .le 57, 3) := by decide +kernel
theorem dX5_split_89 : decode cX5_split 89 = .ok (.aload_n 0, 1) := by decide +kernel
theorem dX5_split_90 : decode cX5_split 90 = .ok (.getfield 15, 3) := by decide +kernel
theorem dX5_split_93 : decode cX5_split 93 = .ok (.iconst 2, 1) := by decide +kernel
theorem dX5_split_94 : decode cX5_split 94 = .ok (.if_icmp .ge 49, 3) := by decide +kernel
theorem dX5_split_97 : decode cX5_split 97 = .ok (.aload_n 0, 1) := by decide +kernel
theorem dX5_split_98 : decode cX5_split 98 = .ok (.getfield 11, 3) := by decide +kernel
theorem dX5_split_101 : decode cX5_split 101 = .ok (.aload_n 0, 1) := by decide +kernel
theorem dX5_split_102 : decode cX5_split 102 = .ok (.getfield 15, 3) := by decide +kernel
theorem dX5_split_105 : decode cX5_split 105 = .ok (.iload 4, 2) := by decide +kernel
theorem dX5_split_107 : decode cX5_split 107 = .ok (.iastore, 1) := by decide +kernel
theorem dX5_split_108 : decode cX5_split 108 = .ok (.aload_n 0, 1) := by decide +kernel
theorem dX5_split_109 : decode cX5_split 109 = .ok (.dup, 1) := by decide +kernel
theorem dX5_split_110 : decode cX5_split 110 = .ok (.getfield 15, 3) := by decide +kernel
theorem dX5_split_113 : decode cX5_split 113 = .ok (.iconst 1, 1) := by decide +kernel
theorem dX5_split_114 : decode cX5_split 114 = .ok (.iadd, 1) := by decide +kernel
theorem dX5_split_115 : decode cX5_split 115 = .ok (.putfield 15, 3) := by decide +kernel
theorem dX5_split_118 : decode cX5_split 118 = .ok (.iload 6, 2) := by decide +kernel
theorem dX5_split_120 : decode cX5_split 120 = .ok (.bipush 59, 2) := by decide +kernel
theorem dX5_split_122 : decode cX5_split 122 = .ok (.if_icmp .ne 13, 3) := by decide +kernel
theorem dX5_split_125 : decode cX5_split 125 = .ok (.aload_n 0, 1) := by decide +kernel
theorem dX5_split_126 : decode cX5_split 126 = .ok (.iload 5, 2) := by decide +kernel
theorem dX5_split_128 : decode cX5_split 128 = .ok (.iconst 1, 1) := by decide +kernel
theorem dX5_split_129 : decode cX5_split 129 = .ok (.iadd, 1) := by decide +kernel
theorem dX5_split_130 : decode cX5_split 130 = .ok (.putfield 19, 3) := by decide +kernel
theorem dX5_split_133 : decode cX5_split 133 = .ok (.iconst 1, 1) := by decide +kernel
theorem dX5_split_134 : decode cX5_split 134 = .ok (.ireturn, 1) := by decide +kernel
theorem dX5_split_135 : decode cX5_split 135 = .ok (.iconst 0, 1) := by decide +kernel
theorem dX5_split_136 : decode cX5_split 136 = .ok (.istore_n 3, 1) := by decide +kernel
theorem dX5_split_137 : decode cX5_split 137 = .ok (.iconst 0, 1) := by decide +kernel
theorem dX5_split_138 : decode cX5_split 138 = .ok (.istore 4, 2) := by decide +kernel
theorem dX5_split_140 : decode cX5_split 140 = .ok (.goto 5, 3) := by decide +kernel
theorem dX5_split_143 : decode cX5_split 143 = .ok (.iconst 0, 1) := by decide +kernel
theorem dX5_split_144 : decode cX5_split 144 = .ok (.ireturn, 1) := by decide +kernel
theorem dX5_split_145 : decode cX5_split 145 = .ok (.iinc 5 1, 3) := by decide +kernel
theorem dX5_split_148 : decode cX5_split 148 = .ok (.goto (-133), 3) := by decide +kernel
theorem dX5_split_151 : decode cX5_split 151 = .ok (.iconst 0, 1) := by decide +kernel
theorem dX5_split_152 : decode cX5_split 152 = .ok (.ireturn, 1) := by decide +kernel
theorem dX5_take_0 : decode cX5_take 0 = .ok (.iload_n 1, 1) := by decide +kernel
theorem dX5_take_1 : decode cX5_take 1 = .ok (.bipush 118, 2) := by decide +kernel
theorem dX5_take_3 : decode cX5_take 3 = .ok (.if_icmp .eq 9, 3) := by decide +kernel
theorem dX5_take_6 : decode cX5_take 6 = .ok (.iload_n 1, 1) := by decide +kernel
theorem dX5_take_7 : decode cX5_take 7 = .ok (.bipush 99, 2) := by decide +kernel
theorem dX5_take_9 : decode cX5_take 9 = .ok (.if_icmp .ne 47, 3) := by decide +kernel
theorem dX5_take_12 : decode cX5_take 12 = .ok (.aload_n 0, 1) := by decide +kernel
theorem dX5_take_13 : decode cX5_take 13 = .ok (.getfield 15, 3) := by decide +kernel
theorem dX5_take_16 : decode cX5_take 16 = .ok (.iconst 2, 1) := by decide +kernel
theorem dX5_take_17 : decode cX5_take 17 = .ok (.if_icmp .ne 37, 3) := by decide +kernel
theorem dX5_take_20 : decode cX5_take 20 = .ok (.aload_n 2, 1) := by decide +kernel
theorem dX5_take_21 : decode cX5_take 21 = .ok (.iload_n 1, 1) := by decide +kernel
theorem dX5_take_22 : decode cX5_take 22 = .ok (.bipush 99, 2) := by decide +kernel
theorem dX5_take_24 : decode cX5_take 24 = .ok (.if_icmp .ne 7, 3) := by decide +kernel
theorem dX5_take_27 : decode cX5_take 27 = .ok (.iconst 1, 1) := by decide +kernel
theorem dX5_take_28 : decode cX5_take 28 = .ok (.goto 4, 3) := by decide +kernel
theorem dX5_take_31 : decode cX5_take 31 = .ok (.iconst 0, 1) := by decide +kernel
theorem dX5_take_32 : decode cX5_take 32 = .ok (.aload_n 0, 1) := by decide +kernel
theorem dX5_take_33 : decode cX5_take 33 = .ok (.getfield 11, 3) := by decide +kernel
theorem dX5_take_36 : decode cX5_take 36 = .ok (.iconst 0, 1) := by decide +kernel
theorem dX5_take_37 : decode cX5_take 37 = .ok (.iaload, 1) := by decide +kernel
theorem dX5_take_38 : decode cX5_take 38 = .ok (.aload_n 0, 1) := by decide +kernel
theorem dX5_take_39 : decode cX5_take 39 = .ok (.getfield 11, 3) := by decide +kernel
theorem dX5_take_42 : decode cX5_take 42 = .ok (.iconst 1, 1) := by decide +kernel
theorem dX5_take_43 : decode cX5_take 43 = .ok (.iaload, 1) := by decide +kernel
theorem dX5_take_44 : decode cX5_take 44 = .ok (.invokevirtual 43, 3) := by decide +kernel
theorem dX5_take_47 : decode cX5_take 47 = .ok (.ifCond .eq 7, 3) := by decide +kernel
theorem dX5_take_50 : decode cX5_take 50 = .ok (.iconst 1, 1) := by decide +kernel
theorem dX5_take_51 : decode cX5_take 51 = .ok (.goto 4, 3) := by decide +kernel
theorem dX5_take_54 : decode cX5_take 54 = .ok (.iconst 0, 1) := by decide +kernel
theorem dX5_take_55 : decode cX5_take 55 = .ok (.ireturn, 1) := by decide +kernel
theorem dX5_take_56 : decode cX5_take 56 = .ok (.aload_n 0, 1) := by decide +kernel
theorem dX5_take_57 : decode cX5_take 57 = .ok (.getfield 15, 3) := by decide +kernel
theorem dX5_take_60 : decode cX5_take 60 = .ok (.iconst 1, 1) := by decide +kernel
theorem dX5_take_61 : decode cX5_take 61 = .ok (.if_icmp .ne 21, 3) := by decide +kernel
theorem dX5_take_64 : decode cX5_take 64 = .ok (.aload_n 2, 1) := by decide +kernel
theorem dX5_take_65 : decode cX5_take 65 = .ok (.iload_n 1, 1) := by decide +kernel
theorem dX5_take_66 : decode cX5_take 66 = .ok (.aload_n 0, 1) := by decide +kernel
theorem dX5_take_67 : decode cX5_take 67 = .ok (.getfield 11, 3) := by decide +kernel
theorem dX5_take_70 : decode cX5_take 70 = .ok (.iconst 0, 1) := by decide +kernel
theorem dX5_take_71 : decode cX5_take 71 = .ok (.iaload, 1) := by decide +kernel
theorem dX5_take_72 : decode cX5_take 72 = .ok (.invokevirtual 47, 3) := by decide +kernel
theorem dX5_take_75 : decode cX5_take 75 = .ok (.ifCond .eq 7, 3) := by decide +kernel
theorem dX5_take_78 : decode cX5_take 78 = .ok (.iconst 1, 1) := by decide +kernel
theorem dX5_take_79 : decode cX5_take 79 = .ok (.goto 4, 3) := by decide +kernel
theorem dX5_take_82 : decode cX5_take 82 = .ok (.iconst 0, 1) := by decide +kernel
theorem dX5_take_83 : decode cX5_take 83 = .ok (.ireturn, 1) := by decide +kernel
theorem dX6_init_0 : decode cX6_init 0 = .ok (.aload_n 0, 1) := by decide +kernel
theorem dX6_init_1 : decode cX6_init 1 = .ok (.invokespecial 3, 3) := by decide +kernel
theorem dX6_init_4 : decode cX6_init 4 = .ok (.aload_n 0, 1) := by decide +kernel
theorem dX6_init_5 : decode cX6_init 5 = .ok (.bipush 20, 2) := by decide +kernel
theorem dX6_init_7 : decode cX6_init 7 = .ok (.newarray .boolean, 2) := by decide +kernel
theorem dX6_init_9 : decode cX6_init 9 = .ok (.putfield 9, 3) := by decide +kernel
theorem dX6_init_12 : decode cX6_init 12 = .ok (.aload_n 0, 1) := by decide +kernel
theorem dX6_init_13 : decode cX6_init 13 = .ok (.bipush 20, 2) := by decide +kernel
theorem dX6_init_15 : decode cX6_init 15 = .ok (.newarray .int, 2) := by decide +kernel
theorem dX6_init_17 : decode cX6_init 17 = .ok (.putfield 15, 3) := by decide +kernel
theorem dX6_init_20 : decode cX6_init 20 = .ok (.aload_n 0, 1) := by decide +kernel
theorem dX6_init_21 : decode cX6_init 21 = .ok (.bipush 20, 2) := by decide +kernel
theorem dX6_init_23 : decode cX6_init 23 = .ok (.newarray .int, 2) := by decide +kernel
theorem dX6_init_25 : decode cX6_init 25 = .ok (.putfield 19, 3) := by decide +kernel
theorem dX6_init_28 : decode cX6_init 28 = .ok (.aload_n 0, 1) := by decide +kernel
theorem dX6_init_29 : decode cX6_init 29 = .ok (.bipush 10, 2) := by decide +kernel
theorem dX6_init_31 : decode cX6_init 31 = .ok (.newarray .int, 2) := by decide +kernel
theorem dX6_init_33 : decode cX6_init 33 = .ok (.putfield 22, 3) := by decide +kernel
theorem dX6_init_36 : decode cX6_init 36 = .ok (.aload_n 0, 1) := by decide +kernel
theorem dX6_init_37 : decode cX6_init 37 = .ok (.bipush 10, 2) := by decide +kernel
theorem dX6_init_39 : decode cX6_init 39 = .ok (.newarray .int, 2) := by decide +kernel
theorem dX6_init_41 : decode cX6_init 41 = .ok (.putfield 25, 3) := by decide +kernel
theorem dX6_init_44 : decode cX6_init 44 = .ok (.aload_n 0, 1) := by decide +kernel
theorem dX6_init_45 : decode cX6_init 45 = .ok (.invokevirtual 28, 3) := by decide +kernel
theorem dX6_init_48 : decode cX6_init 48 = .ok (.return_, 1) := by decide +kernel
theorem dX6_empty_0 : decode cX6_empty 0 = .ok (.aload_n 0, 1) := by decide +kernel
theorem dX6_empty_1 : decode cX6_empty 1 = .ok (.iconst 0, 1) := by decide +kernel
theorem dX6_empty_2 : decode cX6_empty 2 = .ok (.putfield 31, 3) := by decide +kernel
theorem dX6_empty_5 : decode cX6_empty 5 = .ok (.aload_n 0, 1) := by decide +kernel
theorem dX6_empty_6 : decode cX6_empty 6 = .ok (.iconst 0, 1) := by decide +kernel
theorem dX6_empty_7 : decode cX6_empty 7 = .ok (.putfield 35, 3) := by decide +kernel
theorem dX6_empty_10 : decode cX6_empty 10 = .ok (.aload_n 0, 1) := by decide +kernel
theorem dX6_empty_11 : decode cX6_empty 11 = .ok (.iconst 0, 1) := by decide +kernel
theorem dX6_empty_12 : decode cX6_empty 12 = .ok (.putfield 38, 3) := by decide +kernel
theorem dX6_empty_15 : decode cX6_empty 15 = .ok (.aload_n 0, 1) := by decide +kernel
theorem dX6_empty_16 : decode cX6_empty 16 = .ok (.bipush 60, 2) := by decide +kernel
theorem dX6_empty_18 : decode cX6_empty 18 = .ok (.putfield 41, 3) := by decide +kernel
theorem dX6_empty_21 : decode cX6_empty 21 = .ok (.aload_n 0, 1) := by decide +kernel
theorem dX6_empty_22 : decode cX6_empty 22 = .ok (.iconst 0, 1) := by decide +kernel
theorem dX6_empty_23 : decode cX6_empty 23 = .ok (.putfield 44, 3) := by decide +kernel
theorem dX6_empty_26 : decode cX6_empty 26 = .ok (.aload_n 0, 1) := by decide +kernel
theorem dX6_empty_27 : decode cX6_empty 27 = .ok (.bipush 99, 2) := by decide +kernel
theorem dX6_empty_29 : decode cX6_empty 29 = .ok (.putfield 47, 3) := by decide +kernel
theorem dX6_empty_32 : decode cX6_empty 32 = .ok (.aload_n 0, 1) := by decide +kernel
theorem dX6_empty_33 : decode cX6_empty 33 = .ok (.iconst 5, 1) := by decide +kernel
theorem dX6_empty_34 : decode cX6_empty 34 = .ok (.putfield 50, 3) := by decide +kernel
theorem dX6_empty_37 : decode cX6_empty 37 = .ok (.aload_n 0, 1) := by decide +kernel
theorem dX6_empty_38 : decode cX6_empty 38 = .ok (.bipush 50, 2) := by decide +kernel
theorem dX6_empty_40 : decode cX6_empty 40 = .ok (.putfield 53, 3) := by decide +kernel
theorem dX6_empty_43 : decode cX6_empty 43 = .ok (.return_, 1) := by decide +kernel
theorem dX6_has_0 : decode cX6_has 0 = .ok (.iload_n 1, 1) := by decide +kernel
theorem dX6_has_1 : decode cX6_has 1 = .ok (.ifCond .lt 15, 3) := by decide +kernel
theorem dX6_has_4 : decode cX6_has 4 = .ok (.iload_n 1, 1) := by decide +kernel
theorem dX6_has_5 : decode cX6_has 5 = .ok (.aload_n 0, 1) := by decide +kernel
theorem dX6_has_6 : decode cX6_has 6 = .ok (.getfield 31, 3) := by decide +kernel
theorem dX6_has_9 : decode cX6_has 9 = .ok (.if_icmp .ge 7, 3) := by decide +kernel
theorem dX6_has_12 : decode cX6_has 12 = .ok (.iconst 1, 1) := by decide +kernel
theorem dX6_has_13 : decode cX6_has 13 = .ok (.goto 4, 3) := by decide +kernel
theorem dX6_has_16 : decode cX6_has 16 = .ok (.iconst 0, 1) := by decide +kernel
theorem dX6_has_17 : decode cX6_has 17 = .ok (.ireturn, 1) := by decide +kernel
theorem dX6_addPerson_0 : decode cX6_addPerson 0 = .ok (.iload_n 1, 1) := by decide +kernel
theorem dX6_addPerson_1 : decode cX6_addPerson 1 = .ok (.ifCond .eq 10, 3) := by decide +kernel
theorem dX6_addPerson_4 : decode cX6_addPerson 4 = .ok (.aload_n 0, 1) := by decide +kernel
theorem dX6_addPerson_5 : decode cX6_addPerson 5 = .ok (.getfield 38, 3) := by decide +kernel
theorem dX6_addPerson_8 : decode cX6_addPerson 8 = .ok (.goto 7, 3) := by decide +kernel
theorem dX6_addPerson_11 : decode cX6_addPerson 11 = .ok (.aload_n 0, 1) := by decide +kernel
theorem dX6_addPerson_12 : decode cX6_addPerson 12 = .ok (.getfield 35, 3) := by decide +kernel
theorem dX6_addPerson_15 : decode cX6_addPerson 15 = .ok (.istore 4, 2) := by decide +kernel
theorem dX6_addPerson_17 : decode cX6_addPerson 17 = .ok (.iload 4, 2) := by decide +kernel
theorem dX6_addPerson_19 : decode cX6_addPerson 19 = .ok (.bipush 10, 2) := by decide +kernel
theorem dX6_addPerson_21 : decode cX6_addPerson 21 = .ok (.if_icmp .ge 22, 3) := by decide +kernel
theorem dX6_addPerson_24 : decode cX6_addPerson 24 = .ok (.iload_n 2, 1) := by decide +kernel
theorem dX6_addPerson_25 : decode cX6_addPerson 25 = .ok (.iconst 0, 1) := by decide +kernel
theorem dX6_addPerson_26 : decode cX6_addPerson 26 = .ok (.bipush 99, 2) := by decide +kernel
theorem dX6_addPerson_28 : decode cX6_addPerson 28 = .ok (.invokestatic 56, 3) := by decide +kernel
theorem dX6_addPerson_31 : decode cX6_addPerson 31 = .ok (.ifCond .eq 12, 3) := by decide +kernel
theorem dX6_addPerson_34 : decode cX6_addPerson 34 = .ok (.iload_n 3, 1) := by decide +kernel
theorem dX6_addPerson_35 : decode cX6_addPerson 35 = .ok (.iconst 0, 1) := by decide +kernel
theorem dX6_addPerson_36 : decode cX6_addPerson 36 = .ok (.iconst 5, 1) := by decide +kernel
theorem dX6_addPerson_37 : decode cX6_addPerson 37 = .ok (.invokestatic 56, 3) := by decide +kernel
theorem dX6_addPerson_40 : decode cX6_addPerson 40 = .ok (.ifCond .ne 5, 3) := by decide +kernel
theorem dX6_addPerson_43 : decode cX6_addPerson 43 = .ok (.iconst 0, 1) := by decide +kernel
theorem dX6_addPerson_44 : decode cX6_addPerson 44 = .ok (.ireturn, 1) := by decide +kernel
theorem dX6_addPerson_45 : decode cX6_addPerson 45 = .ok (.iload_n 1, 1) := by decide +kernel
theorem dX6_addPerson_46 : decode cX6_addPerson 46 = .ok (.ifCond .eq 29, 3) := by decide +kernel
theorem dX6_addPerson_49 : decode cX6_addPerson 49 = .ok (.aload_n 0, 1) := by decide +kernel
theorem dX6_addPerson_50 : decode cX6_addPerson 50 = .ok (.getfield 25, 3) := by decide +kernel
theorem dX6_addPerson_53 : decode cX6_addPerson 53 = .ok (.aload_n 0, 1) := by decide +kernel
theorem dX6_addPerson_54 : decode cX6_addPerson 54 = .ok (.getfield 38, 3) := by decide +kernel
theorem dX6_addPerson_57 : decode cX6_addPerson 57 = .ok (.aload_n 0, 1) := by decide +kernel
theorem dX6_addPerson_58 : decode cX6_addPerson 58 = .ok (.getfield 31, 3) := by decide +kernel
theorem dX6_addPerson_61 : decode cX6_addPerson 61 = .ok (.iastore, 1) := by decide +kernel
theorem dX6_addPerson_62 : decode cX6_addPerson 62 = .ok (.aload_n 0, 1) := by decide +kernel
theorem dX6_addPerson_63 : decode cX6_addPerson 63 = .ok (.dup, 1) := by decide +kernel
theorem dX6_addPerson_64 : decode cX6_addPerson 64 = .ok (.getfield 38, 3) := by decide +kernel
theorem dX6_addPerson_67 : decode cX6_addPerson 67 = .ok (.iconst 1, 1) := by decide +kernel
theorem dX6_addPerson_68 : decode cX6_addPerson 68 = .ok (.iadd, 1) := by decide +kernel
theorem dX6_addPerson_69 : decode cX6_addPerson 69 = .ok (.putfield 38, 3) := by decide +kernel
theorem dX6_addPerson_72 : decode cX6_addPerson 72 = .ok (.goto 26, 3) := by decide +kernel
theorem dX6_addPerson_75 : decode cX6_addPerson 75 = .ok (.aload_n 0, 1) := by decide +kernel
theorem dX6_addPerson_76 : decode cX6_addPerson 76 = .ok (.getfield 22, 3) := by decide +kernel
theorem dX6_addPerson_79 : decode cX6_addPerson 79 = .ok (.aload_n 0, 1) := by decide +kernel
theorem dX6_addPerson_80 : decode cX6_addPerson 80 = .ok (.getfield 35, 3) := by decide +kernel
theorem dX6_addPerson_83 : decode cX6_addPerson 83 = .ok (.aload_n 0, 1) := by decide +kernel
theorem dX6_addPerson_84 : decode cX6_addPerson 84 = .ok (.getfield 31, 3) := by decide +kernel
theorem dX6_addPerson_87 : decode cX6_addPerson 87 = .ok (.iastore, 1) := by decide +kernel
theorem dX6_addPerson_88 : decode cX6_addPerson 88 = .ok (.aload_n 0, 1) := by decide +kernel
theorem dX6_addPerson_89 : decode cX6_addPerson 89 = .ok (.dup, 1) := by decide +kernel
theorem dX6_addPerson_90 : decode cX6_addPerson 90 = .ok (.getfield 35, 3) := by decide +kernel
theorem dX6_addPerson_93 : decode cX6_addPerson 93 = .ok (.iconst 1, 1) := by decide +kernel
theorem dX6_addPerson_94 : decode cX6_addPerson 94 = .ok (.iadd, 1) := by decide +kernel
theorem dX6_addPerson_95 : decode cX6_addPerson 95 = .ok (.putfield 35, 3) := by decide +kernel
theorem dX6_addPerson_98 : decode cX6_addPerson 98 = .ok (.aload_n 0, 1) := by decide +kernel
theorem dX6_addPerson_99 : decode cX6_addPerson 99 = .ok (.getfield 9, 3) := by decide +kernel
theorem dX6_addPerson_102 : decode cX6_addPerson 102 = .ok (.aload_n 0, 1) := by decide +kernel
theorem dX6_addPerson_103 : decode cX6_addPerson 103 = .ok (.getfield 31, 3) := by decide +kernel
theorem dX6_addPerson_106 : decode cX6_addPerson 106 = .ok (.iload_n 1, 1) := by decide +kernel
theorem dX6_addPerson_107 : decode cX6_addPerson 107 = .ok (.bastore, 1) := by decide +kernel
theorem dX6_addPerson_108 : decode cX6_addPerson 108 = .ok (.aload_n 0, 1) := by decide +kernel
theorem dX6_addPerson_109 : decode cX6_addPerson 109 = .ok (.getfield 15, 3) := by decide +kernel
theorem dX6_addPerson_112 : decode cX6_addPerson 112 = .ok (.aload_n 0, 1) := by decide +kernel
theorem dX6_addPerson_113 : decode cX6_addPerson 113 = .ok (.getfield 31, 3) := by decide +kernel
theorem dX6_addPerson_116 : decode cX6_addPerson 116 = .ok (.iload_n 2, 1) := by decide +kernel
theorem dX6_addPerson_117 : decode cX6_addPerson 117 = .ok (.iastore, 1) := by decide +kernel
theorem dX6_addPerson_118 : decode cX6_addPerson 118 = .ok (.aload_n 0, 1) := by decide +kernel
theorem dX6_addPerson_119 : decode cX6_addPerson 119 = .ok (.getfield 19, 3) := by decide +kernel
theorem dX6_addPerson_122 : decode cX6_addPerson 122 = .ok (.aload_n 0, 1) := by decide +kernel
theorem dX6_addPerson_123 : decode cX6_addPerson 123 = .ok (.getfield 31, 3) := by decide +kernel
theorem dX6_addPerson_126 : decode cX6_addPerson 126 = .ok (.iload_n 3, 1) := by decide +kernel
theorem dX6_addPerson_127 : decode cX6_addPerson 127 = .ok (.iastore, 1) := by decide +kernel
theorem dX6_addPerson_128 : decode cX6_addPerson 128 = .ok (.aload_n 0, 1) := by decide +kernel
theorem dX6_addPerson_129 : decode cX6_addPerson 129 = .ok (.dup, 1) := by decide +kernel
theorem dX6_addPerson_130 : decode cX6_addPerson 130 = .ok (.getfield 31, 3) := by decide +kernel
theorem dX6_addPerson_133 : decode cX6_addPerson 133 = .ok (.iconst 1, 1) := by decide +kernel
theorem dX6_addPerson_134 : decode cX6_addPerson 134 = .ok (.iadd, 1) := by decide +kernel
theorem dX6_addPerson_135 : decode cX6_addPerson 135 = .ok (.putfield 31, 3) := by decide +kernel
theorem dX6_addPerson_138 : decode cX6_addPerson 138 = .ok (.iconst 1, 1) := by decide +kernel
theorem dX6_addPerson_139 : decode cX6_addPerson 139 = .ok (.ireturn, 1) := by decide +kernel
theorem dX6_set_0 : decode cX6_set 0 = .ok (.iload_n 1, 1) := by decide +kernel
theorem dX6_set_1 : decode cX6_set 1 = .ok (.lookupswitch 117 #[(104, 104), (108, 78), (110, 51), (116, 65), (120, 91)], 51) := by decide +kernel
theorem dX6_set_52 : decode cX6_set 52 = .ok (.aload_n 0, 1) := by decide +kernel
theorem dX6_set_53 : decode cX6_set 53 = .ok (.iload_n 2, 1) := by decide +kernel
theorem dX6_set_54 : decode cX6_set 54 = .ok (.putfield 41, 3) := by decide +kernel
theorem dX6_set_57 : decode cX6_set 57 = .ok (.iload_n 2, 1) := by decide +kernel
theorem dX6_set_58 : decode cX6_set 58 = .ok (.iconst 1, 1) := by decide +kernel
theorem dX6_set_59 : decode cX6_set 59 = .ok (.sipush 200, 3) := by decide +kernel
theorem dX6_set_62 : decode cX6_set 62 = .ok (.invokestatic 56, 3) := by decide +kernel
theorem dX6_set_65 : decode cX6_set 65 = .ok (.ireturn, 1) := by decide +kernel
theorem dX6_set_66 : decode cX6_set 66 = .ok (.aload_n 0, 1) := by decide +kernel
theorem dX6_set_67 : decode cX6_set 67 = .ok (.iload_n 2, 1) := by decide +kernel
theorem dX6_set_68 : decode cX6_set 68 = .ok (.putfield 44, 3) := by decide +kernel
theorem dX6_set_71 : decode cX6_set 71 = .ok (.iload_n 2, 1) := by decide +kernel
theorem dX6_set_72 : decode cX6_set 72 = .ok (.iconst 0, 1) := by decide +kernel
theorem dX6_set_73 : decode cX6_set 73 = .ok (.bipush 50, 2) := by decide +kernel
theorem dX6_set_75 : decode cX6_set 75 = .ok (.invokestatic 56, 3) := by decide +kernel
theorem dX6_set_78 : decode cX6_set 78 = .ok (.ireturn, 1) := by decide +kernel
theorem dX6_set_79 : decode cX6_set 79 = .ok (.aload_n 0, 1) := by decide +kernel
theorem dX6_set_80 : decode cX6_set 80 = .ok (.iload_n 2, 1) := by decide +kernel
theorem dX6_set_81 : decode cX6_set 81 = .ok (.putfield 47, 3) := by decide +kernel
theorem dX6_set_84 : decode cX6_set 84 = .ok (.iload_n 2, 1) := by decide +kernel
theorem dX6_set_85 : decode cX6_set 85 = .ok (.iconst 0, 1) := by decide +kernel
theorem dX6_set_86 : decode cX6_set 86 = .ok (.bipush 99, 2) := by decide +kernel
theorem dX6_set_88 : decode cX6_set 88 = .ok (.invokestatic 56, 3) := by decide +kernel
theorem dX6_set_91 : decode cX6_set 91 = .ok (.ireturn, 1) := by decide +kernel
theorem dX6_set_92 : decode cX6_set 92 = .ok (.aload_n 0, 1) := by decide +kernel
theorem dX6_set_93 : decode cX6_set 93 = .ok (.iload_n 2, 1) := by decide +kernel
theorem dX6_set_94 : decode cX6_set 94 = .ok (.putfield 50, 3) := by decide +kernel
theorem dX6_set_97 : decode cX6_set 97 = .ok (.iload_n 2, 1) := by decide +kernel
theorem dX6_set_98 : decode cX6_set 98 = .ok (.iconst 0, 1) := by decide +kernel
theorem dX6_set_99 : decode cX6_set 99 = .ok (.bipush 50, 2) := by decide +kernel
theorem dX6_set_101 : decode cX6_set 101 = .ok (.invokestatic 56, 3) := by decide +kernel
theorem dX6_set_104 : decode cX6_set 104 = .ok (.ireturn, 1) := by decide +kernel
theorem dX6_set_105 : decode cX6_set 105 = .ok (.aload_n 0, 1) := by decide +kernel
theorem dX6_set_106 : decode cX6_set 106 = .ok (.iload_n 2, 1) := by decide +kernel
theorem dX6_set_107 : decode cX6_set 107 = .ok (.putfield 53, 3) := by decide +kernel
theorem dX6_set_110 : decode cX6_set 110 = .ok (.iload_n 2, 1) := by decide +kernel
theorem dX6_set_111 : decode cX6_set 111 = .ok (.iconst 0, 1) := by decide +kernel
theorem dX6_set_112 : decode cX6_set 112 = .ok (.bipush 99, 2) := by decide +kernel
theorem dX6_set_114 : decode cX6_set 114 = .ok (.invokestatic 56, 3) := by decide +kernel
theorem dX6_set_117 : decode cX6_set 117 = .ok (.ireturn, 1) := by decide +kernel
theorem dX6_set_118 : decode cX6_set 118 = .ok (.iconst 0, 1) := by decide +kernel
theorem dX6_set_119 : decode cX6_set 119 = .ok (.ireturn, 1) := by decide +kernel
theorem dX7_init_0 : decode cX7_init 0 = .ok (.aload_n 0, 1) := by decide +kernel
theorem dX7_init_1 : decode cX7_init 1 = .ok (.invokespecial 3, 3) := by decide +kernel
theorem dX7_init_4 : decode cX7_init 4 = .ok (.aload_n 0, 1) := by decide +kernel
theorem dX7_init_5 : decode cX7_init 5 = .ok (.bipush 20, 2) := by decide +kernel
theorem dX7_init_7 : decode cX7_init 7 = .ok (.newarray .int, 2) := by decide +kernel
theorem dX7_init_9 : decode cX7_init 9 = .ok (.putfield 9, 3) := by decide +kernel
theorem dX7_init_12 : decode cX7_init 12 = .ok (.aload_n 0, 1) := by decide +kernel
theorem dX7_init_13 : decode cX7_init 13 = .ok (.bipush 20, 2) := by decide +kernel
theorem dX7_init_15 : decode cX7_init 15 = .ok (.newarray .int, 2) := by decide +kernel
theorem dX7_init_17 : decode cX7_init 17 = .ok (.putfield 15, 3) := by decide +kernel
theorem dX7_init_20 : decode cX7_init 20 = .ok (.aload_n 0, 1) := by decide +kernel
theorem dX7_init_21 : decode cX7_init 21 = .ok (.new 18, 3) := by decide +kernel
theorem dX7_init_24 : decode cX7_init 24 = .ok (.dup, 1) := by decide +kernel
theorem dX7_init_25 : decode cX7_init 25 = .ok (.invokespecial 20, 3) := by decide +kernel
theorem dX7_init_28 : decode cX7_init 28 = .ok (.putfield 21, 3) := by decide +kernel
theorem dX7_init_31 : decode cX7_init 31 = .ok (.return_, 1) := by decide +kernel
theorem dX7_play_0 : decode cX7_play 0 = .ok (.aload_n 0, 1) := by decide +kernel
theorem dX7_play_1 : decode cX7_play 1 = .ok (.iload_n 3, 1) := by decide +kernel
theorem dX7_play_2 : decode cX7_play 2 = .ok (.putfield 25, 3) := by decide +kernel
theorem dX7_play_5 : decode cX7_play 5 = .ok (.aload_n 0, 1) := by decide +kernel
theorem dX7_play_6 : decode cX7_play 6 = .ok (.bipush (-4), 2) := by decide +kernel
theorem dX7_play_8 : decode cX7_play 8 = .ok (.putfield 29, 3) := by decide +kernel
theorem dX7_play_11 : decode cX7_play 11 = .ok (.aload_n 0, 1) := by decide +kernel
theorem dX7_play_12 : decode cX7_play 12 = .ok (.iconst 0, 1) := by decide +kernel
theorem dX7_play_13 : decode cX7_play 13 = .ok (.putfield 32, 3) := by decide +kernel
theorem dX7_play_16 : decode cX7_play 16 = .ok (.aload_n 0, 1) := by decide +kernel
theorem dX7_play_17 : decode cX7_play 17 = .ok (.iconst 0, 1) := by decide +kernel
theorem dX7_play_18 : decode cX7_play 18 = .ok (.putfield 35, 3) := by decide +kernel
theorem dX7_play_21 : decode cX7_play 21 = .ok (.aload_n 0, 1) := by decide +kernel
theorem dX7_play_22 : decode cX7_play 22 = .ok (.iconst 0, 1) := by decide +kernel
theorem dX7_play_23 : decode cX7_play 23 = .ok (.putfield 38, 3) := by decide +kernel
theorem dX7_play_26 : decode cX7_play 26 = .ok (.aload_n 0, 1) := by decide +kernel
theorem dX7_play_27 : decode cX7_play 27 = .ok (.iconst 0, 1) := by decide +kernel
theorem dX7_play_28 : decode cX7_play 28 = .ok (.putfield 41, 3) := by decide +kernel
theorem dX7_play_31 : decode cX7_play 31 = .ok (.aload_n 0, 1) := by decide +kernel
theorem dX7_play_32 : decode cX7_play 32 = .ok (.iconst 0, 1) := by decide +kernel
theorem dX7_play_33 : decode cX7_play 33 = .ok (.putfield 44, 3) := by decide +kernel
theorem dX7_play_36 : decode cX7_play 36 = .ok (.iconst 0, 1) := by decide +kernel
theorem dX7_play_37 : decode cX7_play 37 = .ok (.istore 5, 2) := by decide +kernel
theorem dX7_play_39 : decode cX7_play 39 = .ok (.iload 5, 2) := by decide +kernel
theorem dX7_play_41 : decode cX7_play 41 = .ok (.bipush 20, 2) := by decide +kernel
theorem dX7_play_43 : decode cX7_play 43 = .ok (.if_icmp .ge 18, 3) := by decide +kernel
theorem dX7_play_46 : decode cX7_play 46 = .ok (.aload_n 0, 1) := by decide +kernel
theorem dX7_play_47 : decode cX7_play 47 = .ok (.getfield 9, 3) := by decide +kernel
theorem dX7_play_50 : decode cX7_play 50 = .ok (.iload 5, 2) := by decide +kernel
theorem dX7_play_52 : decode cX7_play 52 = .ok (.bipush (-4), 2) := by decide +kernel
theorem dX7_play_54 : decode cX7_play 54 = .ok (.iastore, 1) := by decide +kernel
theorem dX7_play_55 : decode cX7_play 55 = .ok (.iinc 5 1, 3) := by decide +kernel
theorem dX7_play_58 : decode cX7_play 58 = .ok (.goto (-19), 3) := by decide +kernel
theorem dX7_play_61 : decode cX7_play 61 = .ok (.iload_n 2, 1) := by decide +kernel
theorem dX7_play_62 : decode cX7_play 62 = .ok (.ifCond .ne 13, 3) := by decide +kernel
theorem dX7_play_65 : decode cX7_play 65 = .ok (.aload_n 0, 1) := by decide +kernel
theorem dX7_play_66 : decode cX7_play 66 = .ok (.aload_n 1, 1) := by decide +kernel
theorem dX7_play_67 : decode cX7_play 67 = .ok (.aload 4, 2) := by decide +kernel
theorem dX7_play_69 : decode cX7_play 69 = .ok (.invokevirtual 47, 3) := by decide +kernel
theorem dX7_play_72 : decode cX7_play 72 = .ok (.goto 34, 3) := by decide +kernel
theorem dX7_play_75 : decode cX7_play 75 = .ok (.iload_n 2, 1) := by decide +kernel
theorem dX7_play_76 : decode cX7_play 76 = .ok (.iconst 1, 1) := by decide +kernel
theorem dX7_play_77 : decode cX7_play 77 = .ok (.if_icmp .ne 11, 3) := by decide +kernel
theorem dX7_play_80 : decode cX7_play 80 = .ok (.aload_n 0, 1) := by decide +kernel
theorem dX7_play_81 : decode cX7_play 81 = .ok (.aload_n 1, 1) := by decide +kernel
theorem dX7_play_82 : decode cX7_play 82 = .ok (.invokevirtual 51, 3) := by decide +kernel
theorem dX7_play_85 : decode cX7_play 85 = .ok (.goto 21, 3) := by decide +kernel
theorem dX7_play_88 : decode cX7_play 88 = .ok (.iload_n 2, 1) := by decide +kernel
theorem dX7_play_89 : decode cX7_play 89 = .ok (.iconst 2, 1) := by decide +kernel
theorem dX7_play_90 : decode cX7_play 90 = .ok (.if_icmp .ne 11, 3) := by decide +kernel
theorem dX7_play_93 : decode cX7_play 93 = .ok (.aload_n 0, 1) := by decide +kernel
theorem dX7_play_94 : decode cX7_play 94 = .ok (.aload_n 1, 1) := by decide +kernel
theorem dX7_play_95 : decode cX7_play 95 = .ok (.invokevirtual 55, 3) := by decide +kernel
theorem dX7_play_98 : decode cX7_play 98 = .ok (.goto 8, 3) := by decide +kernel
theorem dX7_play_101 : decode cX7_play 101 = .ok (.aload_n 0, 1) := by decide +kernel
theorem dX7_play_102 : decode cX7_play 102 = .ok (.aload_n 1, 1) := by decide +kernel
theorem dX7_play_103 : decode cX7_play 103 = .ok (.invokevirtual 58, 3) := by decide +kernel
theorem dX7_play_106 : decode cX7_play 106 = .ok (.return_, 1) := by decide +kernel
theorem dX7_wanders_0 : decode cX7_wanders 0 = .ok (.aload_n 0, 1) := by decide +kernel
theorem dX7_wanders_1 : decode cX7_wanders 1 = .ok (.getfield 35, 3) := by decide +kernel
theorem dX7_wanders_4 : decode cX7_wanders 4 = .ok (.aload_n 0, 1) := by decide +kernel
theorem dX7_wanders_5 : decode cX7_wanders 5 = .ok (.getfield 32, 3) := by decide +kernel
theorem dX7_wanders_8 : decode cX7_wanders 8 = .ok (.isub, 1) := by decide +kernel
theorem dX7_wanders_9 : decode cX7_wanders 9 = .ok (.ireturn, 1) := by decide +kernel
theorem dX7_draw_0 : decode cX7_draw 0 = .ok (.ldc2_w 61, 3) := by decide +kernel
theorem dX7_draw_3 : decode cX7_draw 3 = .ok (.aload_n 0, 1) := by decide +kernel
theorem dX7_draw_4 : decode cX7_draw 4 = .ok (.getfield 25, 3) := by decide +kernel
theorem dX7_draw_7 : decode cX7_draw 7 = .ok (.i2l, 1) := by decide +kernel
theorem dX7_draw_8 : decode cX7_draw 8 = .ok (.lmul, 1) := by decide +kernel
theorem dX7_draw_9 : decode cX7_draw 9 = .ok (.ldc2_w 63, 3) := by decide +kernel
theorem dX7_draw_12 : decode cX7_draw 12 = .ok (.iload_n 1, 1) := by decide +kernel
theorem dX7_draw_13 : decode cX7_draw 13 = .ok (.i2l, 1) := by decide +kernel
theorem dX7_draw_14 : decode cX7_draw 14 = .ok (.lmul, 1) := by decide +kernel
theorem dX7_draw_15 : decode cX7_draw 15 = .ok (.ladd, 1) := by decide +kernel
theorem dX7_draw_16 : decode cX7_draw 16 = .ok (.ldc2_w 65, 3) := by decide +kernel
theorem dX7_draw_19 : decode cX7_draw 19 = .ok (.iload_n 2, 1) := by decide +kernel
theorem dX7_draw_20 : decode cX7_draw 20 = .ok (.i2l, 1) := by decide +kernel
theorem dX7_draw_21 : decode cX7_draw 21 = .ok (.lmul, 1) := by decide +kernel
theorem dX7_draw_22 : decode cX7_draw 22 = .ok (.ladd, 1) := by decide +kernel
theorem dX7_draw_23 : decode cX7_draw 23 = .ok (.lconst 1, 1) := by decide +kernel
theorem dX7_draw_24 : decode cX7_draw 24 = .ok (.ladd, 1) := by decide +kernel
theorem dX7_draw_25 : decode cX7_draw 25 = .ok (.lstore_n 3, 1) := by decide +kernel
theorem dX7_draw_26 : decode cX7_draw 26 = .ok (.lload_n 3, 1) := by decide +kernel
theorem dX7_draw_27 : decode cX7_draw 27 = .ok (.lload_n 3, 1) := by decide +kernel
theorem dX7_draw_28 : decode cX7_draw 28 = .ok (.lmul, 1) := by decide +kernel
theorem dX7_draw_29 : decode cX7_draw 29 = .ok (.ldc2_w 67, 3) := by decide +kernel
theorem dX7_draw_32 : decode cX7_draw 32 = .ok (.lrem, 1) := by decide +kernel
theorem dX7_draw_33 : decode cX7_draw 33 = .ok (.l2i, 1) := by decide +kernel
theorem dX7_draw_34 : decode cX7_draw 34 = .ok (.ireturn, 1) := by decide +kernel
theorem dX7_rest_0 : decode cX7_rest 0 = .ok (.iload_n 1, 1) := by decide +kernel
theorem dX7_rest_1 : decode cX7_rest 1 = .ok (.ifCond .le 9, 3) := by decide +kernel
theorem dX7_rest_4 : decode cX7_rest 4 = .ok (.iload_n 0, 1) := by decide +kernel
theorem dX7_rest_5 : decode cX7_rest 5 = .ok (.iload_n 1, 1) := by decide +kernel
theorem dX7_rest_6 : decode cX7_rest 6 = .ok (.irem, 1) := by decide +kernel
theorem dX7_rest_7 : decode cX7_rest 7 = .ok (.goto 4, 3) := by decide +kernel
theorem dX7_rest_10 : decode cX7_rest 10 = .ok (.iconst 0, 1) := by decide +kernel
theorem dX7_rest_11 : decode cX7_rest 11 = .ok (.ireturn, 1) := by decide +kernel
theorem dX7_tells_0 : decode cX7_tells 0 = .ok (.aload_n 1, 1) := by decide +kernel
theorem dX7_tells_1 : decode cX7_tells 1 = .ok (.getfield 69, 3) := by decide +kernel
theorem dX7_tells_4 : decode cX7_tells 4 = .ok (.iload_n 2, 1) := by decide +kernel
theorem dX7_tells_5 : decode cX7_tells 5 = .ok (.iaload, 1) := by decide +kernel
theorem dX7_tells_6 : decode cX7_tells 6 = .ok (.istore 5, 2) := by decide +kernel
theorem dX7_tells_8 : decode cX7_tells 8 = .ok (.iload 4, 2) := by decide +kernel
theorem dX7_tells_10 : decode cX7_tells 10 = .ok (.aload_n 1, 1) := by decide +kernel
theorem dX7_tells_11 : decode cX7_tells 11 = .ok (.iload_n 2, 1) := by decide +kernel
theorem dX7_tells_12 : decode cX7_tells 12 = .ok (.iload 5, 2) := by decide +kernel
theorem dX7_tells_14 : decode cX7_tells 14 = .ok (.aload_n 0, 1) := by decide +kernel
theorem dX7_tells_15 : decode cX7_tells 15 = .ok (.getfield 29, 3) := by decide +kernel
theorem dX7_tells_18 : decode cX7_tells 18 = .ok (.invokestatic 74, 3) := by decide +kernel
theorem dX7_tells_21 : decode cX7_tells 21 = .ok (.invokestatic 80, 3) := by decide +kernel
theorem dX7_tells_24 : decode cX7_tells 24 = .ok (.istore 6, 2) := by decide +kernel
theorem dX7_tells_26 : decode cX7_tells 26 = .ok (.aload_n 1, 1) := by decide +kernel
theorem dX7_tells_27 : decode cX7_tells 27 = .ok (.iload_n 2, 1) := by decide +kernel
theorem dX7_tells_28 : decode cX7_tells 28 = .ok (.aload_n 1, 1) := by decide +kernel
theorem dX7_tells_29 : decode cX7_tells 29 = .ok (.iload_n 2, 1) := by decide +kernel
theorem dX7_tells_30 : decode cX7_tells 30 = .ok (.iload 5, 2) := by decide +kernel
theorem dX7_tells_32 : decode cX7_tells 32 = .ok (.iload_n 3, 1) := by decide +kernel
theorem dX7_tells_33 : decode cX7_tells 33 = .ok (.aload_n 0, 1) := by decide +kernel
theorem dX7_tells_34 : decode cX7_tells 34 = .ok (.getfield 29, 3) := by decide +kernel
theorem dX7_tells_37 : decode cX7_tells 37 = .ok (.iload 6, 2) := by decide +kernel
theorem dX7_tells_39 : decode cX7_tells 39 = .ok (.invokestatic 84, 3) := by decide +kernel
theorem dX7_tells_42 : decode cX7_tells 42 = .ok (.invokestatic 88, 3) := by decide +kernel
theorem dX7_tells_45 : decode cX7_tells 45 = .ok (.ireturn, 1) := by decide +kernel
theorem dX7_trade_0 : decode cX7_trade 0 = .ok (.aload_n 0, 1) := by decide +kernel
theorem dX7_trade_1 : decode cX7_trade 1 = .ok (.getfield 9, 3) := by decide +kernel
theorem dX7_trade_4 : decode cX7_trade 4 = .ok (.iload_n 2, 1) := by decide +kernel
theorem dX7_trade_5 : decode cX7_trade 5 = .ok (.iload 4, 2) := by decide +kernel
theorem dX7_trade_7 : decode cX7_trade 7 = .ok (.iastore, 1) := by decide +kernel
theorem dX7_trade_8 : decode cX7_trade 8 = .ok (.aload_n 0, 1) := by decide +kernel
theorem dX7_trade_9 : decode cX7_trade 9 = .ok (.getfield 9, 3) := by decide +kernel
theorem dX7_trade_12 : decode cX7_trade 12 = .ok (.iload_n 3, 1) := by decide +kernel
theorem dX7_trade_13 : decode cX7_trade 13 = .ok (.iload 4, 2) := by decide +kernel
theorem dX7_trade_15 : decode cX7_trade 15 = .ok (.iastore, 1) := by decide +kernel
theorem dX7_trade_16 : decode cX7_trade 16 = .ok (.aload_n 0, 1) := by decide +kernel
theorem dX7_trade_17 : decode cX7_trade 17 = .ok (.aload_n 0, 1) := by decide +kernel
theorem dX7_trade_18 : decode cX7_trade 18 = .ok (.getfield 38, 3) := by decide +kernel
theorem dX7_trade_21 : decode cX7_trade 21 = .ok (.ifCond .ne 8, 3) := by decide +kernel
theorem dX7_trade_24 : decode cX7_trade 24 = .ok (.iload 4, 2) := by decide +kernel
theorem dX7_trade_26 : decode cX7_trade 26 = .ok (.goto 12, 3) := by decide +kernel
theorem dX7_trade_29 : decode cX7_trade 29 = .ok (.aload_n 0, 1) := by decide +kernel
theorem dX7_trade_30 : decode cX7_trade 30 = .ok (.getfield 32, 3) := by decide +kernel
theorem dX7_trade_33 : decode cX7_trade 33 = .ok (.iload 4, 2) := by decide +kernel
theorem dX7_trade_35 : decode cX7_trade 35 = .ok (.invokestatic 92, 3) := by decide +kernel
theorem dX7_trade_38 : decode cX7_trade 38 = .ok (.putfield 32, 3) := by decide +kernel
theorem dX7_trade_41 : decode cX7_trade 41 = .ok (.aload_n 0, 1) := by decide +kernel
theorem dX7_trade_42 : decode cX7_trade 42 = .ok (.aload_n 0, 1) := by decide +kernel
theorem dX7_trade_43 : decode cX7_trade 43 = .ok (.getfield 38, 3) := by decide +kernel
theorem dX7_trade_46 : decode cX7_trade 46 = .ok (.ifCond .ne 8, 3) := by decide +kernel
theorem dX7_trade_49 : decode cX7_trade 49 = .ok (.iload 4, 2) := by decide +kernel
theorem dX7_trade_51 : decode cX7_trade 51 = .ok (.goto 12, 3) := by decide +kernel
theorem dX7_trade_54 : decode cX7_trade 54 = .ok (.aload_n 0, 1) := by decide +kernel
theorem dX7_trade_55 : decode cX7_trade 55 = .ok (.getfield 35, 3) := by decide +kernel
theorem dX7_trade_58 : decode cX7_trade 58 = .ok (.iload 4, 2) := by decide +kernel
theorem dX7_trade_60 : decode cX7_trade 60 = .ok (.invokestatic 97, 3) := by decide +kernel
theorem dX7_trade_63 : decode cX7_trade 63 = .ok (.putfield 35, 3) := by decide +kernel
theorem dX7_trade_66 : decode cX7_trade 66 = .ok (.aload_n 0, 1) := by decide +kernel
theorem dX7_trade_67 : decode cX7_trade 67 = .ok (.dup, 1) := by decide +kernel
theorem dX7_trade_68 : decode cX7_trade 68 = .ok (.getfield 38, 3) := by decide +kernel
theorem dX7_trade_71 : decode cX7_trade 71 = .ok (.iconst 1, 1) := by decide +kernel
theorem dX7_trade_72 : decode cX7_trade 72 = .ok (.iadd, 1) := by decide +kernel
theorem dX7_trade_73 : decode cX7_trade 73 = .ok (.putfield 38, 3) := by decide +kernel
theorem dX7_trade_76 : decode cX7_trade 76 = .ok (.aload_n 0, 1) := by decide +kernel
theorem dX7_trade_77 : decode cX7_trade 77 = .ok (.dup, 1) := by decide +kernel
theorem dX7_trade_78 : decode cX7_trade 78 = .ok (.getfield 41, 3) := by decide +kernel
theorem dX7_trade_81 : decode cX7_trade 81 = .ok (.aload_n 1, 1) := by decide +kernel
theorem dX7_trade_82 : decode cX7_trade 82 = .ok (.getfield 100, 3) := by decide +kernel
theorem dX7_trade_85 : decode cX7_trade 85 = .ok (.iload_n 2, 1) := by decide +kernel
theorem dX7_trade_86 : decode cX7_trade 86 = .ok (.iaload, 1) := by decide +kernel
theorem dX7_trade_87 : decode cX7_trade 87 = .ok (.aload_n 1, 1) := by decide +kernel
theorem dX7_trade_88 : decode cX7_trade 88 = .ok (.getfield 100, 3) := by decide +kernel
theorem dX7_trade_91 : decode cX7_trade 91 = .ok (.iload_n 3, 1) := by decide +kernel
theorem dX7_trade_92 : decode cX7_trade 92 = .ok (.iaload, 1) := by decide +kernel
theorem dX7_trade_93 : decode cX7_trade 93 = .ok (.isub, 1) := by decide +kernel
theorem dX7_trade_94 : decode cX7_trade 94 = .ok (.iadd, 1) := by decide +kernel
theorem dX7_trade_95 : decode cX7_trade 95 = .ok (.putfield 41, 3) := by decide +kernel
theorem dX7_trade_98 : decode cX7_trade 98 = .ok (.aload_n 0, 1) := by decide +kernel
theorem dX7_trade_99 : decode cX7_trade 99 = .ok (.iload 5, 2) := by decide +kernel
theorem dX7_trade_101 : decode cX7_trade 101 = .ok (.iconst 1, 1) := by decide +kernel
theorem dX7_trade_102 : decode cX7_trade 102 = .ok (.iadd, 1) := by decide +kernel
theorem dX7_trade_103 : decode cX7_trade 103 = .ok (.putfield 44, 3) := by decide +kernel
theorem dX7_trade_106 : decode cX7_trade 106 = .ok (.aload_n 0, 1) := by decide +kernel
theorem dX7_trade_107 : decode cX7_trade 107 = .ok (.iload 4, 2) := by decide +kernel
theorem dX7_trade_109 : decode cX7_trade 109 = .ok (.putfield 29, 3) := by decide +kernel
theorem dX7_trade_112 : decode cX7_trade 112 = .ok (.return_, 1) := by decide +kernel
theorem dX7_playShouts_0 : decode cX7_playShouts 0 = .ok (.aload_n 2, 1) := by decide +kernel
theorem dX7_playShouts_1 : decode cX7_playShouts 1 = .ok (.ifnull 8, 3) := by decide +kernel
theorem dX7_playShouts_4 : decode cX7_playShouts 4 = .ok (.aload_n 2, 1) := by decide +kernel
theorem dX7_playShouts_5 : decode cX7_playShouts 5 = .ok (.iconst 0, 1) := by decide +kernel
theorem dX7_playShouts_6 : decode cX7_playShouts 6 = .ok (.putfield 103, 3) := by decide +kernel
theorem dX7_playShouts_9 : decode cX7_playShouts 9 = .ok (.aload_n 0, 1) := by decide +kernel
theorem dX7_playShouts_10 : decode cX7_playShouts 10 = .ok (.bipush (-4), 2) := by decide +kernel
theorem dX7_playShouts_12 : decode cX7_playShouts 12 = .ok (.putfield 108, 3) := by decide +kernel
theorem dX7_playShouts_15 : decode cX7_playShouts 15 = .ok (.aload_n 0, 1) := by decide +kernel
theorem dX7_playShouts_16 : decode cX7_playShouts 16 = .ok (.bipush (-4), 2) := by decide +kernel
theorem dX7_playShouts_18 : decode cX7_playShouts 18 = .ok (.putfield 111, 3) := by decide +kernel
theorem dX7_playShouts_21 : decode cX7_playShouts 21 = .ok (.iconst 0, 1) := by decide +kernel
theorem dX7_playShouts_22 : decode cX7_playShouts 22 = .ok (.istore_n 3, 1) := by decide +kernel
theorem dX7_playShouts_23 : decode cX7_playShouts 23 = .ok (.iload_n 3, 1) := by decide +kernel
theorem dX7_playShouts_24 : decode cX7_playShouts 24 = .ok (.aload_n 1, 1) := by decide +kernel
theorem dX7_playShouts_25 : decode cX7_playShouts 25 = .ok (.getfield 114, 3) := by decide +kernel
theorem dX7_playShouts_28 : decode cX7_playShouts 28 = .ok (.if_icmp .ge 119, 3) := by decide +kernel
theorem dX7_playShouts_31 : decode cX7_playShouts 31 = .ok (.aload_n 0, 1) := by decide +kernel
theorem dX7_playShouts_32 : decode cX7_playShouts 32 = .ok (.iload_n 3, 1) := by decide +kernel
theorem dX7_playShouts_33 : decode cX7_playShouts 33 = .ok (.iconst 0, 1) := by decide +kernel
theorem dX7_playShouts_34 : decode cX7_playShouts 34 = .ok (.invokevirtual 117, 3) := by decide +kernel
theorem dX7_playShouts_37 : decode cX7_playShouts 37 = .ok (.aload_n 1, 1) := by decide +kernel
theorem dX7_playShouts_38 : decode cX7_playShouts 38 = .ok (.getfield 120, 3) := by decide +kernel
theorem dX7_playShouts_41 : decode cX7_playShouts 41 = .ok (.invokestatic 80, 3) := by decide +kernel
theorem dX7_playShouts_44 : decode cX7_playShouts 44 = .ok (.istore 4, 2) := by decide +kernel
theorem dX7_playShouts_46 : decode cX7_playShouts 46 = .ok (.aload_n 0, 1) := by decide +kernel
theorem dX7_playShouts_47 : decode cX7_playShouts 47 = .ok (.getfield 9, 3) := by decide +kernel
theorem dX7_playShouts_50 : decode cX7_playShouts 50 = .ok (.iload 4, 2) := by decide +kernel
theorem dX7_playShouts_52 : decode cX7_playShouts 52 = .ok (.iaload, 1) := by decide +kernel
theorem dX7_playShouts_53 : decode cX7_playShouts 53 = .ok (.bipush (-4), 2) := by decide +kernel
theorem dX7_playShouts_55 : decode cX7_playShouts 55 = .ok (.if_icmp .eq 6, 3) := by decide +kernel
theorem dX7_playShouts_58 : decode cX7_playShouts 58 = .ok (.goto 83, 3) := by decide +kernel
theorem dX7_playShouts_61 : decode cX7_playShouts 61 = .ok (.aload_n 0, 1) := by decide +kernel
theorem dX7_playShouts_62 : decode cX7_playShouts 62 = .ok (.aload_n 1, 1) := by decide +kernel
theorem dX7_playShouts_63 : decode cX7_playShouts 63 = .ok (.iload 4, 2) := by decide +kernel
theorem dX7_playShouts_65 : decode cX7_playShouts 65 = .ok (.iload_n 3, 1) := by decide +kernel
theorem dX7_playShouts_66 : decode cX7_playShouts 66 = .ok (.aload_n 0, 1) := by decide +kernel
theorem dX7_playShouts_67 : decode cX7_playShouts 67 = .ok (.iload_n 3, 1) := by decide +kernel
theorem dX7_playShouts_68 : decode cX7_playShouts 68 = .ok (.iconst 1, 1) := by decide +kernel
theorem dX7_playShouts_69 : decode cX7_playShouts 69 = .ok (.invokevirtual 117, 3) := by decide +kernel
theorem dX7_playShouts_72 : decode cX7_playShouts 72 = .ok (.invokevirtual 123, 3) := by decide +kernel
theorem dX7_playShouts_75 : decode cX7_playShouts 75 = .ok (.istore 5, 2) := by decide +kernel
theorem dX7_playShouts_77 : decode cX7_playShouts 77 = .ok (.aload_n 1, 1) := by decide +kernel
theorem dX7_playShouts_78 : decode cX7_playShouts 78 = .ok (.iload 4, 2) := by decide +kernel
theorem dX7_playShouts_80 : decode cX7_playShouts 80 = .ok (.iload 5, 2) := by decide +kernel
theorem dX7_playShouts_82 : decode cX7_playShouts 82 = .ok (.invokestatic 126, 3) := by decide +kernel
theorem dX7_playShouts_85 : decode cX7_playShouts 85 = .ok (.ifCond .ne 6, 3) := by decide +kernel
theorem dX7_playShouts_88 : decode cX7_playShouts 88 = .ok (.goto 53, 3) := by decide +kernel
theorem dX7_playShouts_91 : decode cX7_playShouts 91 = .ok (.aload_n 2, 1) := by decide +kernel
theorem dX7_playShouts_92 : decode cX7_playShouts 92 = .ok (.ifnull 16, 3) := by decide +kernel
theorem dX7_playShouts_95 : decode cX7_playShouts 95 = .ok (.aload_n 2, 1) := by decide +kernel
theorem dX7_playShouts_96 : decode cX7_playShouts 96 = .ok (.iload 4, 2) := by decide +kernel
theorem dX7_playShouts_98 : decode cX7_playShouts 98 = .ok (.iload 5, 2) := by decide +kernel
theorem dX7_playShouts_100 : decode cX7_playShouts 100 = .ok (.iload_n 3, 1) := by decide +kernel
theorem dX7_playShouts_101 : decode cX7_playShouts 101 = .ok (.aload_n 0, 1) := by decide +kernel
theorem dX7_playShouts_102 : decode cX7_playShouts 102 = .ok (.getfield 29, 3) := by decide +kernel
theorem dX7_playShouts_105 : decode cX7_playShouts 105 = .ok (.invokevirtual 130, 3) := by decide +kernel
theorem dX7_playShouts_108 : decode cX7_playShouts 108 = .ok (.aload_n 1, 1) := by decide +kernel
theorem dX7_playShouts_109 : decode cX7_playShouts 109 = .ok (.getfield 134, 3) := by decide +kernel
theorem dX7_playShouts_112 : decode cX7_playShouts 112 = .ok (.iload 4, 2) := by decide +kernel
theorem dX7_playShouts_114 : decode cX7_playShouts 114 = .ok (.baload, 1) := by decide +kernel
theorem dX7_playShouts_115 : decode cX7_playShouts 115 = .ok (.ifCond .eq 16, 3) := by decide +kernel
theorem dX7_playShouts_118 : decode cX7_playShouts 118 = .ok (.aload_n 0, 1) := by decide +kernel
theorem dX7_playShouts_119 : decode cX7_playShouts 119 = .ok (.aload_n 1, 1) := by decide +kernel
theorem dX7_playShouts_120 : decode cX7_playShouts 120 = .ok (.iload 4, 2) := by decide +kernel
theorem dX7_playShouts_122 : decode cX7_playShouts 122 = .ok (.iload 5, 2) := by decide +kernel
theorem dX7_playShouts_124 : decode cX7_playShouts 124 = .ok (.iload_n 3, 1) := by decide +kernel
theorem dX7_playShouts_125 : decode cX7_playShouts 125 = .ok (.invokevirtual 138, 3) := by decide +kernel
theorem dX7_playShouts_128 : decode cX7_playShouts 128 = .ok (.goto 13, 3) := by decide +kernel
theorem dX7_playShouts_131 : decode cX7_playShouts 131 = .ok (.aload_n 0, 1) := by decide +kernel
theorem dX7_playShouts_132 : decode cX7_playShouts 132 = .ok (.aload_n 1, 1) := by decide +kernel
theorem dX7_playShouts_133 : decode cX7_playShouts 133 = .ok (.iload 4, 2) := by decide +kernel
theorem dX7_playShouts_135 : decode cX7_playShouts 135 = .ok (.iload 5, 2) := by decide +kernel
theorem dX7_playShouts_137 : decode cX7_playShouts 137 = .ok (.iload_n 3, 1) := by decide +kernel
theorem dX7_playShouts_138 : decode cX7_playShouts 138 = .ok (.invokevirtual 142, 3) := by decide +kernel
theorem dX7_playShouts_141 : decode cX7_playShouts 141 = .ok (.iinc 3 1, 3) := by decide +kernel
theorem dX7_playShouts_144 : decode cX7_playShouts 144 = .ok (.goto (-121), 3) := by decide +kernel
theorem dX7_playShouts_147 : decode cX7_playShouts 147 = .ok (.return_, 1) := by decide +kernel
theorem dX7_hearBid_0 : decode cX7_hearBid 0 = .ok (.aload_n 0, 1) := by decide +kernel
theorem dX7_hearBid_1 : decode cX7_hearBid 1 = .ok (.getfield 111, 3) := by decide +kernel
theorem dX7_hearBid_4 : decode cX7_hearBid 4 = .ok (.bipush (-4), 2) := by decide +kernel
theorem dX7_hearBid_6 : decode cX7_hearBid 6 = .ok (.if_icmp .eq 52, 3) := by decide +kernel
theorem dX7_hearBid_9 : decode cX7_hearBid 9 = .ok (.iload_n 3, 1) := by decide +kernel
theorem dX7_hearBid_10 : decode cX7_hearBid 10 = .ok (.aload_n 0, 1) := by decide +kernel
theorem dX7_hearBid_11 : decode cX7_hearBid 11 = .ok (.getfield 145, 3) := by decide +kernel
theorem dX7_hearBid_14 : decode cX7_hearBid 14 = .ok (.aload_n 1, 1) := by decide +kernel
theorem dX7_hearBid_15 : decode cX7_hearBid 15 = .ok (.getfield 148, 3) := by decide +kernel
theorem dX7_hearBid_18 : decode cX7_hearBid 18 = .ok (.iadd, 1) := by decide +kernel
theorem dX7_hearBid_19 : decode cX7_hearBid 19 = .ok (.if_icmp .lt 39, 3) := by decide +kernel
theorem dX7_hearBid_22 : decode cX7_hearBid 22 = .ok (.aload_n 0, 1) := by decide +kernel
theorem dX7_hearBid_23 : decode cX7_hearBid 23 = .ok (.aload_n 1, 1) := by decide +kernel
theorem dX7_hearBid_24 : decode cX7_hearBid 24 = .ok (.iload_n 2, 1) := by decide +kernel
theorem dX7_hearBid_25 : decode cX7_hearBid 25 = .ok (.aload_n 0, 1) := by decide +kernel
theorem dX7_hearBid_26 : decode cX7_hearBid 26 = .ok (.getfield 111, 3) := by decide +kernel
theorem dX7_hearBid_29 : decode cX7_hearBid 29 = .ok (.aload_n 0, 1) := by decide +kernel
theorem dX7_hearBid_30 : decode cX7_hearBid 30 = .ok (.getfield 145, 3) := by decide +kernel
theorem dX7_hearBid_33 : decode cX7_hearBid 33 = .ok (.aload_n 1, 1) := by decide +kernel
theorem dX7_hearBid_34 : decode cX7_hearBid 34 = .ok (.getfield 148, 3) := by decide +kernel
theorem dX7_hearBid_37 : decode cX7_hearBid 37 = .ok (.iadd, 1) := by decide +kernel
theorem dX7_hearBid_38 : decode cX7_hearBid 38 = .ok (.iload 4, 2) := by decide +kernel
theorem dX7_hearBid_40 : decode cX7_hearBid 40 = .ok (.invokevirtual 151, 3) := by decide +kernel
theorem dX7_hearBid_43 : decode cX7_hearBid 43 = .ok (.aload_n 0, 1) := by decide +kernel
theorem dX7_hearBid_44 : decode cX7_hearBid 44 = .ok (.bipush (-4), 2) := by decide +kernel
theorem dX7_hearBid_46 : decode cX7_hearBid 46 = .ok (.putfield 108, 3) := by decide +kernel
theorem dX7_hearBid_49 : decode cX7_hearBid 49 = .ok (.aload_n 0, 1) := by decide +kernel
theorem dX7_hearBid_50 : decode cX7_hearBid 50 = .ok (.bipush (-4), 2) := by decide +kernel
theorem dX7_hearBid_52 : decode cX7_hearBid 52 = .ok (.putfield 111, 3) := by decide +kernel
theorem dX7_hearBid_55 : decode cX7_hearBid 55 = .ok (.goto 30, 3) := by decide +kernel
theorem dX7_hearBid_58 : decode cX7_hearBid 58 = .ok (.aload_n 0, 1) := by decide +kernel
theorem dX7_hearBid_59 : decode cX7_hearBid 59 = .ok (.getfield 108, 3) := by decide +kernel
theorem dX7_hearBid_62 : decode cX7_hearBid 62 = .ok (.bipush (-4), 2) := by decide +kernel
theorem dX7_hearBid_64 : decode cX7_hearBid 64 = .ok (.if_icmp .eq 11, 3) := by decide +kernel
theorem dX7_hearBid_67 : decode cX7_hearBid 67 = .ok (.iload_n 3, 1) := by decide +kernel
theorem dX7_hearBid_68 : decode cX7_hearBid 68 = .ok (.aload_n 0, 1) := by decide +kernel
theorem dX7_hearBid_69 : decode cX7_hearBid 69 = .ok (.getfield 155, 3) := by decide +kernel
theorem dX7_hearBid_72 : decode cX7_hearBid 72 = .ok (.if_icmp .le 13, 3) := by decide +kernel
theorem dX7_hearBid_75 : decode cX7_hearBid 75 = .ok (.aload_n 0, 1) := by decide +kernel
theorem dX7_hearBid_76 : decode cX7_hearBid 76 = .ok (.iload_n 2, 1) := by decide +kernel
theorem dX7_hearBid_77 : decode cX7_hearBid 77 = .ok (.putfield 108, 3) := by decide +kernel
theorem dX7_hearBid_80 : decode cX7_hearBid 80 = .ok (.aload_n 0, 1) := by decide +kernel
theorem dX7_hearBid_81 : decode cX7_hearBid 81 = .ok (.iload_n 3, 1) := by decide +kernel
theorem dX7_hearBid_82 : decode cX7_hearBid 82 = .ok (.putfield 155, 3) := by decide +kernel
theorem dX7_hearBid_85 : decode cX7_hearBid 85 = .ok (.return_, 1) := by decide +kernel
theorem dX7_hearOffer_0 : decode cX7_hearOffer 0 = .ok (.aload_n 0, 1) := by decide +kernel
theorem dX7_hearOffer_1 : decode cX7_hearOffer 1 = .ok (.getfield 108, 3) := by decide +kernel
theorem dX7_hearOffer_4 : decode cX7_hearOffer 4 = .ok (.bipush (-4), 2) := by decide +kernel
theorem dX7_hearOffer_6 : decode cX7_hearOffer 6 = .ok (.if_icmp .eq 47, 3) := by decide +kernel
theorem dX7_hearOffer_9 : decode cX7_hearOffer 9 = .ok (.iload_n 3, 1) := by decide +kernel
theorem dX7_hearOffer_10 : decode cX7_hearOffer 10 = .ok (.aload_n 1, 1) := by decide +kernel
theorem dX7_hearOffer_11 : decode cX7_hearOffer 11 = .ok (.getfield 148, 3) := by decide +kernel
theorem dX7_hearOffer_14 : decode cX7_hearOffer 14 = .ok (.iadd, 1) := by decide +kernel
theorem dX7_hearOffer_15 : decode cX7_hearOffer 15 = .ok (.aload_n 0, 1) := by decide +kernel
theorem dX7_hearOffer_16 : decode cX7_hearOffer 16 = .ok (.getfield 155, 3) := by decide +kernel
theorem dX7_hearOffer_19 : decode cX7_hearOffer 19 = .ok (.if_icmp .gt 34, 3) := by decide +kernel
theorem dX7_hearOffer_22 : decode cX7_hearOffer 22 = .ok (.aload_n 0, 1) := by decide +kernel
theorem dX7_hearOffer_23 : decode cX7_hearOffer 23 = .ok (.aload_n 1, 1) := by decide +kernel
theorem dX7_hearOffer_24 : decode cX7_hearOffer 24 = .ok (.aload_n 0, 1) := by decide +kernel
theorem dX7_hearOffer_25 : decode cX7_hearOffer 25 = .ok (.getfield 108, 3) := by decide +kernel
theorem dX7_hearOffer_28 : decode cX7_hearOffer 28 = .ok (.iload_n 2, 1) := by decide +kernel
theorem dX7_hearOffer_29 : decode cX7_hearOffer 29 = .ok (.aload_n 0, 1) := by decide +kernel
theorem dX7_hearOffer_30 : decode cX7_hearOffer 30 = .ok (.getfield 155, 3) := by decide +kernel
theorem dX7_hearOffer_33 : decode cX7_hearOffer 33 = .ok (.iload 4, 2) := by decide +kernel
theorem dX7_hearOffer_35 : decode cX7_hearOffer 35 = .ok (.invokevirtual 151, 3) := by decide +kernel
theorem dX7_hearOffer_38 : decode cX7_hearOffer 38 = .ok (.aload_n 0, 1) := by decide +kernel
theorem dX7_hearOffer_39 : decode cX7_hearOffer 39 = .ok (.bipush (-4), 2) := by decide +kernel
theorem dX7_hearOffer_41 : decode cX7_hearOffer 41 = .ok (.putfield 108, 3) := by decide +kernel
theorem dX7_hearOffer_44 : decode cX7_hearOffer 44 = .ok (.aload_n 0, 1) := by decide +kernel
theorem dX7_hearOffer_45 : decode cX7_hearOffer 45 = .ok (.bipush (-4), 2) := by decide +kernel
theorem dX7_hearOffer_47 : decode cX7_hearOffer 47 = .ok (.putfield 111, 3) := by decide +kernel
theorem dX7_hearOffer_50 : decode cX7_hearOffer 50 = .ok (.goto 30, 3) := by decide +kernel
theorem dX7_hearOffer_53 : decode cX7_hearOffer 53 = .ok (.aload_n 0, 1) := by decide +kernel
theorem dX7_hearOffer_54 : decode cX7_hearOffer 54 = .ok (.getfield 111, 3) := by decide +kernel
theorem dX7_hearOffer_57 : decode cX7_hearOffer 57 = .ok (.bipush (-4), 2) := by decide +kernel
theorem dX7_hearOffer_59 : decode cX7_hearOffer 59 = .ok (.if_icmp .eq 11, 3) := by decide +kernel
theorem dX7_hearOffer_62 : decode cX7_hearOffer 62 = .ok (.iload_n 3, 1) := by decide +kernel
theorem dX7_hearOffer_63 : decode cX7_hearOffer 63 = .ok (.aload_n 0, 1) := by decide +kernel
theorem dX7_hearOffer_64 : decode cX7_hearOffer 64 = .ok (.getfield 145, 3) := by decide +kernel
theorem dX7_hearOffer_67 : decode cX7_hearOffer 67 = .ok (.if_icmp .ge 13, 3) := by decide +kernel
theorem dX7_hearOffer_70 : decode cX7_hearOffer 70 = .ok (.aload_n 0, 1) := by decide +kernel
theorem dX7_hearOffer_71 : decode cX7_hearOffer 71 = .ok (.iload_n 2, 1) := by decide +kernel
theorem dX7_hearOffer_72 : decode cX7_hearOffer 72 = .ok (.putfield 111, 3) := by decide +kernel
theorem dX7_hearOffer_75 : decode cX7_hearOffer 75 = .ok (.aload_n 0, 1) := by decide +kernel
theorem dX7_hearOffer_76 : decode cX7_hearOffer 76 = .ok (.iload_n 3, 1) := by decide +kernel
theorem dX7_hearOffer_77 : decode cX7_hearOffer 77 = .ok (.putfield 145, 3) := by decide +kernel
theorem dX7_hearOffer_80 : decode cX7_hearOffer 80 = .ok (.return_, 1) := by decide +kernel
theorem dX7_playPairs_0 : decode cX7_playPairs 0 = .ok (.iconst 0, 1) := by decide +kernel
theorem dX7_playPairs_1 : decode cX7_playPairs 1 = .ok (.istore_n 2, 1) := by decide +kernel
theorem dX7_playPairs_2 : decode cX7_playPairs 2 = .ok (.iload_n 2, 1) := by decide +kernel
theorem dX7_playPairs_3 : decode cX7_playPairs 3 = .ok (.aload_n 1, 1) := by decide +kernel
theorem dX7_playPairs_4 : decode cX7_playPairs 4 = .ok (.getfield 114, 3) := by decide +kernel
theorem dX7_playPairs_7 : decode cX7_playPairs 7 = .ok (.if_icmp .ge 144, 3) := by decide +kernel
theorem dX7_playPairs_10 : decode cX7_playPairs 10 = .ok (.aload_n 1, 1) := by decide +kernel
theorem dX7_playPairs_11 : decode cX7_playPairs 11 = .ok (.getfield 158, 3) := by decide +kernel
theorem dX7_playPairs_14 : decode cX7_playPairs 14 = .ok (.aload_n 0, 1) := by decide +kernel
theorem dX7_playPairs_15 : decode cX7_playPairs 15 = .ok (.iload_n 2, 1) := by decide +kernel
theorem dX7_playPairs_16 : decode cX7_playPairs 16 = .ok (.iconst 0, 1) := by decide +kernel
theorem dX7_playPairs_17 : decode cX7_playPairs 17 = .ok (.invokevirtual 117, 3) := by decide +kernel
theorem dX7_playPairs_20 : decode cX7_playPairs 20 = .ok (.aload_n 1, 1) := by decide +kernel
theorem dX7_playPairs_21 : decode cX7_playPairs 21 = .ok (.getfield 161, 3) := by decide +kernel
theorem dX7_playPairs_24 : decode cX7_playPairs 24 = .ok (.invokestatic 80, 3) := by decide +kernel
theorem dX7_playPairs_27 : decode cX7_playPairs 27 = .ok (.iaload, 1) := by decide +kernel
theorem dX7_playPairs_28 : decode cX7_playPairs 28 = .ok (.istore_n 3, 1) := by decide +kernel
theorem dX7_playPairs_29 : decode cX7_playPairs 29 = .ok (.aload_n 1, 1) := by decide +kernel
theorem dX7_playPairs_30 : decode cX7_playPairs 30 = .ok (.getfield 164, 3) := by decide +kernel
theorem dX7_playPairs_33 : decode cX7_playPairs 33 = .ok (.aload_n 0, 1) := by decide +kernel
theorem dX7_playPairs_34 : decode cX7_playPairs 34 = .ok (.iload_n 2, 1) := by decide +kernel
theorem dX7_playPairs_35 : decode cX7_playPairs 35 = .ok (.iconst 2, 1) := by decide +kernel
theorem dX7_playPairs_36 : decode cX7_playPairs 36 = .ok (.invokevirtual 117, 3) := by decide +kernel
theorem dX7_playPairs_39 : decode cX7_playPairs 39 = .ok (.aload_n 1, 1) := by decide +kernel
theorem dX7_playPairs_40 : decode cX7_playPairs 40 = .ok (.getfield 167, 3) := by decide +kernel
theorem dX7_playPairs_43 : decode cX7_playPairs 43 = .ok (.invokestatic 80, 3) := by decide +kernel
theorem dX7_playPairs_46 : decode cX7_playPairs 46 = .ok (.iaload, 1) := by decide +kernel
theorem dX7_playPairs_47 : decode cX7_playPairs 47 = .ok (.istore 4, 2) := by decide +kernel
theorem dX7_playPairs_49 : decode cX7_playPairs 49 = .ok (.aload_n 0, 1) := by decide +kernel
theorem dX7_playPairs_50 : decode cX7_playPairs 50 = .ok (.getfield 9, 3) := by decide +kernel
theorem dX7_playPairs_53 : decode cX7_playPairs 53 = .ok (.iload_n 3, 1) := by decide +kernel
theorem dX7_playPairs_54 : decode cX7_playPairs 54 = .ok (.iaload, 1) := by decide +kernel
theorem dX7_playPairs_55 : decode cX7_playPairs 55 = .ok (.bipush (-4), 2) := by decide +kernel
theorem dX7_playPairs_57 : decode cX7_playPairs 57 = .ok (.if_icmp .ne 88, 3) := by decide +kernel
theorem dX7_playPairs_60 : decode cX7_playPairs 60 = .ok (.aload_n 0, 1) := by decide +kernel
theorem dX7_playPairs_61 : decode cX7_playPairs 61 = .ok (.getfield 9, 3) := by decide +kernel
theorem dX7_playPairs_64 : decode cX7_playPairs 64 = .ok (.iload 4, 2) := by decide +kernel
theorem dX7_playPairs_66 : decode cX7_playPairs 66 = .ok (.iaload, 1) := by decide +kernel
theorem dX7_playPairs_67 : decode cX7_playPairs 67 = .ok (.bipush (-4), 2) := by decide +kernel
theorem dX7_playPairs_69 : decode cX7_playPairs 69 = .ok (.if_icmp .eq 6, 3) := by decide +kernel
theorem dX7_playPairs_72 : decode cX7_playPairs 72 = .ok (.goto 73, 3) := by decide +kernel
theorem dX7_playPairs_75 : decode cX7_playPairs 75 = .ok (.aload_n 0, 1) := by decide +kernel
theorem dX7_playPairs_76 : decode cX7_playPairs 76 = .ok (.aload_n 1, 1) := by decide +kernel
theorem dX7_playPairs_77 : decode cX7_playPairs 77 = .ok (.iload_n 3, 1) := by decide +kernel
theorem dX7_playPairs_78 : decode cX7_playPairs 78 = .ok (.iload_n 2, 1) := by decide +kernel
theorem dX7_playPairs_79 : decode cX7_playPairs 79 = .ok (.aload_n 0, 1) := by decide +kernel
theorem dX7_playPairs_80 : decode cX7_playPairs 80 = .ok (.iload_n 2, 1) := by decide +kernel
theorem dX7_playPairs_81 : decode cX7_playPairs 81 = .ok (.iconst 1, 1) := by decide +kernel
theorem dX7_playPairs_82 : decode cX7_playPairs 82 = .ok (.invokevirtual 117, 3) := by decide +kernel
theorem dX7_playPairs_85 : decode cX7_playPairs 85 = .ok (.invokevirtual 123, 3) := by decide +kernel
theorem dX7_playPairs_88 : decode cX7_playPairs 88 = .ok (.istore 5, 2) := by decide +kernel
theorem dX7_playPairs_90 : decode cX7_playPairs 90 = .ok (.aload_n 0, 1) := by decide +kernel
theorem dX7_playPairs_91 : decode cX7_playPairs 91 = .ok (.aload_n 1, 1) := by decide +kernel
theorem dX7_playPairs_92 : decode cX7_playPairs 92 = .ok (.iload 4, 2) := by decide +kernel
theorem dX7_playPairs_94 : decode cX7_playPairs 94 = .ok (.iload_n 2, 1) := by decide +kernel
theorem dX7_playPairs_95 : decode cX7_playPairs 95 = .ok (.aload_n 0, 1) := by decide +kernel
theorem dX7_playPairs_96 : decode cX7_playPairs 96 = .ok (.iload_n 2, 1) := by decide +kernel
theorem dX7_playPairs_97 : decode cX7_playPairs 97 = .ok (.iconst 3, 1) := by decide +kernel
theorem dX7_playPairs_98 : decode cX7_playPairs 98 = .ok (.invokevirtual 117, 3) := by decide +kernel
theorem dX7_playPairs_101 : decode cX7_playPairs 101 = .ok (.invokevirtual 123, 3) := by decide +kernel
theorem dX7_playPairs_104 : decode cX7_playPairs 104 = .ok (.istore 6, 2) := by decide +kernel
theorem dX7_playPairs_106 : decode cX7_playPairs 106 = .ok (.aload_n 1, 1) := by decide +kernel
theorem dX7_playPairs_107 : decode cX7_playPairs 107 = .ok (.iload 4, 2) := by decide +kernel
theorem dX7_playPairs_109 : decode cX7_playPairs 109 = .ok (.iload 6, 2) := by decide +kernel
theorem dX7_playPairs_111 : decode cX7_playPairs 111 = .ok (.invokestatic 126, 3) := by decide +kernel
theorem dX7_playPairs_114 : decode cX7_playPairs 114 = .ok (.ifCond .eq 31, 3) := by decide +kernel
theorem dX7_playPairs_117 : decode cX7_playPairs 117 = .ok (.iload 5, 2) := by decide +kernel
theorem dX7_playPairs_119 : decode cX7_playPairs 119 = .ok (.iload 6, 2) := by decide +kernel
theorem dX7_playPairs_121 : decode cX7_playPairs 121 = .ok (.aload_n 1, 1) := by decide +kernel
theorem dX7_playPairs_122 : decode cX7_playPairs 122 = .ok (.getfield 148, 3) := by decide +kernel
theorem dX7_playPairs_125 : decode cX7_playPairs 125 = .ok (.iadd, 1) := by decide +kernel
theorem dX7_playPairs_126 : decode cX7_playPairs 126 = .ok (.if_icmp .lt 19, 3) := by decide +kernel
theorem dX7_playPairs_129 : decode cX7_playPairs 129 = .ok (.aload_n 0, 1) := by decide +kernel
theorem dX7_playPairs_130 : decode cX7_playPairs 130 = .ok (.aload_n 1, 1) := by decide +kernel
theorem dX7_playPairs_131 : decode cX7_playPairs 131 = .ok (.iload_n 3, 1) := by decide +kernel
theorem dX7_playPairs_132 : decode cX7_playPairs 132 = .ok (.iload 4, 2) := by decide +kernel
theorem dX7_playPairs_134 : decode cX7_playPairs 134 = .ok (.iload 6, 2) := by decide +kernel
theorem dX7_playPairs_136 : decode cX7_playPairs 136 = .ok (.aload_n 1, 1) := by decide +kernel
theorem dX7_playPairs_137 : decode cX7_playPairs 137 = .ok (.getfield 148, 3) := by decide +kernel
theorem dX7_playPairs_140 : decode cX7_playPairs 140 = .ok (.iadd, 1) := by decide +kernel
theorem dX7_playPairs_141 : decode cX7_playPairs 141 = .ok (.iload_n 2, 1) := by decide +kernel
theorem dX7_playPairs_142 : decode cX7_playPairs 142 = .ok (.invokevirtual 151, 3) := by decide +kernel
theorem dX7_playPairs_145 : decode cX7_playPairs 145 = .ok (.iinc 2 1, 3) := by decide +kernel
theorem dX7_playPairs_148 : decode cX7_playPairs 148 = .ok (.goto (-146), 3) := by decide +kernel
theorem dX7_playPairs_151 : decode cX7_playPairs 151 = .ok (.return_, 1) := by decide +kernel
theorem dX7_playPosted_0 : decode cX7_playPosted 0 = .ok (.iconst 0, 1) := by decide +kernel
theorem dX7_playPosted_1 : decode cX7_playPosted 1 = .ok (.istore_n 2, 1) := by decide +kernel
theorem dX7_playPosted_2 : decode cX7_playPosted 2 = .ok (.iload_n 2, 1) := by decide +kernel
theorem dX7_playPosted_3 : decode cX7_playPosted 3 = .ok (.aload_n 1, 1) := by decide +kernel
theorem dX7_playPosted_4 : decode cX7_playPosted 4 = .ok (.getfield 167, 3) := by decide +kernel
theorem dX7_playPosted_7 : decode cX7_playPosted 7 = .ok (.if_icmp .ge 35, 3) := by decide +kernel
theorem dX7_playPosted_10 : decode cX7_playPosted 10 = .ok (.aload_n 1, 1) := by decide +kernel
theorem dX7_playPosted_11 : decode cX7_playPosted 11 = .ok (.getfield 164, 3) := by decide +kernel
theorem dX7_playPosted_14 : decode cX7_playPosted 14 = .ok (.iload_n 2, 1) := by decide +kernel
theorem dX7_playPosted_15 : decode cX7_playPosted 15 = .ok (.iaload, 1) := by decide +kernel
theorem dX7_playPosted_16 : decode cX7_playPosted 16 = .ok (.istore_n 3, 1) := by decide +kernel
theorem dX7_playPosted_17 : decode cX7_playPosted 17 = .ok (.aload_n 0, 1) := by decide +kernel
theorem dX7_playPosted_18 : decode cX7_playPosted 18 = .ok (.getfield 15, 3) := by decide +kernel
theorem dX7_playPosted_21 : decode cX7_playPosted 21 = .ok (.iload_n 3, 1) := by decide +kernel
theorem dX7_playPosted_22 : decode cX7_playPosted 22 = .ok (.aload_n 0, 1) := by decide +kernel
theorem dX7_playPosted_23 : decode cX7_playPosted 23 = .ok (.aload_n 1, 1) := by decide +kernel
theorem dX7_playPosted_24 : decode cX7_playPosted 24 = .ok (.iload_n 3, 1) := by decide +kernel
theorem dX7_playPosted_25 : decode cX7_playPosted 25 = .ok (.iconst 0, 1) := by decide +kernel
theorem dX7_playPosted_26 : decode cX7_playPosted 26 = .ok (.aload_n 0, 1) := by decide +kernel
theorem dX7_playPosted_27 : decode cX7_playPosted 27 = .ok (.iload_n 3, 1) := by decide +kernel
theorem dX7_playPosted_28 : decode cX7_playPosted 28 = .ok (.iconst 1, 1) := by decide +kernel
theorem dX7_playPosted_29 : decode cX7_playPosted 29 = .ok (.invokevirtual 117, 3) := by decide +kernel
theorem dX7_playPosted_32 : decode cX7_playPosted 32 = .ok (.invokevirtual 123, 3) := by decide +kernel
theorem dX7_playPosted_35 : decode cX7_playPosted 35 = .ok (.iastore, 1) := by decide +kernel
theorem dX7_playPosted_36 : decode cX7_playPosted 36 = .ok (.iinc 2 1, 3) := by decide +kernel
theorem dX7_playPosted_39 : decode cX7_playPosted 39 = .ok (.goto (-37), 3) := by decide +kernel
theorem dX7_playPosted_42 : decode cX7_playPosted 42 = .ok (.iconst 0, 1) := by decide +kernel
theorem dX7_playPosted_43 : decode cX7_playPosted 43 = .ok (.istore_n 2, 1) := by decide +kernel
theorem dX7_playPosted_44 : decode cX7_playPosted 44 = .ok (.iload_n 2, 1) := by decide +kernel
theorem dX7_playPosted_45 : decode cX7_playPosted 45 = .ok (.aload_n 1, 1) := by decide +kernel
theorem dX7_playPosted_46 : decode cX7_playPosted 46 = .ok (.getfield 114, 3) := by decide +kernel
theorem dX7_playPosted_49 : decode cX7_playPosted 49 = .ok (.if_icmp .ge 98, 3) := by decide +kernel
theorem dX7_playPosted_52 : decode cX7_playPosted 52 = .ok (.aload_n 1, 1) := by decide +kernel
theorem dX7_playPosted_53 : decode cX7_playPosted 53 = .ok (.getfield 158, 3) := by decide +kernel
theorem dX7_playPosted_56 : decode cX7_playPosted 56 = .ok (.aload_n 0, 1) := by decide +kernel
theorem dX7_playPosted_57 : decode cX7_playPosted 57 = .ok (.iload_n 2, 1) := by decide +kernel
theorem dX7_playPosted_58 : decode cX7_playPosted 58 = .ok (.iconst 0, 1) := by decide +kernel
theorem dX7_playPosted_59 : decode cX7_playPosted 59 = .ok (.invokevirtual 117, 3) := by decide +kernel
theorem dX7_playPosted_62 : decode cX7_playPosted 62 = .ok (.aload_n 1, 1) := by decide +kernel
theorem dX7_playPosted_63 : decode cX7_playPosted 63 = .ok (.getfield 161, 3) := by decide +kernel
theorem dX7_playPosted_66 : decode cX7_playPosted 66 = .ok (.invokestatic 80, 3) := by decide +kernel
theorem dX7_playPosted_69 : decode cX7_playPosted 69 = .ok (.iaload, 1) := by decide +kernel
theorem dX7_playPosted_70 : decode cX7_playPosted 70 = .ok (.istore_n 3, 1) := by decide +kernel
theorem dX7_playPosted_71 : decode cX7_playPosted 71 = .ok (.aload_n 0, 1) := by decide +kernel
theorem dX7_playPosted_72 : decode cX7_playPosted 72 = .ok (.getfield 9, 3) := by decide +kernel
theorem dX7_playPosted_75 : decode cX7_playPosted 75 = .ok (.iload_n 3, 1) := by decide +kernel
theorem dX7_playPosted_76 : decode cX7_playPosted 76 = .ok (.iaload, 1) := by decide +kernel
theorem dX7_playPosted_77 : decode cX7_playPosted 77 = .ok (.bipush (-4), 2) := by decide +kernel
theorem dX7_playPosted_79 : decode cX7_playPosted 79 = .ok (.if_icmp .eq 6, 3) := by decide +kernel
theorem dX7_playPosted_82 : decode cX7_playPosted 82 = .ok (.goto 59, 3) := by decide +kernel
theorem dX7_playPosted_85 : decode cX7_playPosted 85 = .ok (.aload_n 0, 1) := by decide +kernel
theorem dX7_playPosted_86 : decode cX7_playPosted 86 = .ok (.aload_n 1, 1) := by decide +kernel
theorem dX7_playPosted_87 : decode cX7_playPosted 87 = .ok (.invokevirtual 170, 3) := by decide +kernel
theorem dX7_playPosted_90 : decode cX7_playPosted 90 = .ok (.istore 4, 2) := by decide +kernel
theorem dX7_playPosted_92 : decode cX7_playPosted 92 = .ok (.iload 4, 2) := by decide +kernel
theorem dX7_playPosted_94 : decode cX7_playPosted 94 = .ok (.bipush (-4), 2) := by decide +kernel
theorem dX7_playPosted_96 : decode cX7_playPosted 96 = .ok (.if_icmp .eq 45, 3) := by decide +kernel
theorem dX7_playPosted_99 : decode cX7_playPosted 99 = .ok (.aload_n 0, 1) := by decide +kernel
theorem dX7_playPosted_100 : decode cX7_playPosted 100 = .ok (.getfield 15, 3) := by decide +kernel
theorem dX7_playPosted_103 : decode cX7_playPosted 103 = .ok (.iload 4, 2) := by decide +kernel
theorem dX7_playPosted_105 : decode cX7_playPosted 105 = .ok (.iaload, 1) := by decide +kernel
theorem dX7_playPosted_106 : decode cX7_playPosted 106 = .ok (.aload_n 1, 1) := by decide +kernel
theorem dX7_playPosted_107 : decode cX7_playPosted 107 = .ok (.getfield 148, 3) := by decide +kernel
theorem dX7_playPosted_110 : decode cX7_playPosted 110 = .ok (.iadd, 1) := by decide +kernel
theorem dX7_playPosted_111 : decode cX7_playPosted 111 = .ok (.aload_n 1, 1) := by decide +kernel
theorem dX7_playPosted_112 : decode cX7_playPosted 112 = .ok (.getfield 100, 3) := by decide +kernel
theorem dX7_playPosted_115 : decode cX7_playPosted 115 = .ok (.iload_n 3, 1) := by decide +kernel
theorem dX7_playPosted_116 : decode cX7_playPosted 116 = .ok (.iaload, 1) := by decide +kernel
theorem dX7_playPosted_117 : decode cX7_playPosted 117 = .ok (.if_icmp .gt 24, 3) := by decide +kernel
theorem dX7_playPosted_120 : decode cX7_playPosted 120 = .ok (.aload_n 0, 1) := by decide +kernel
theorem dX7_playPosted_121 : decode cX7_playPosted 121 = .ok (.aload_n 1, 1) := by decide +kernel
theorem dX7_playPosted_122 : decode cX7_playPosted 122 = .ok (.iload_n 3, 1) := by decide +kernel
theorem dX7_playPosted_123 : decode cX7_playPosted 123 = .ok (.iload 4, 2) := by decide +kernel
theorem dX7_playPosted_125 : decode cX7_playPosted 125 = .ok (.aload_n 0, 1) := by decide +kernel
theorem dX7_playPosted_126 : decode cX7_playPosted 126 = .ok (.getfield 15, 3) := by decide +kernel
theorem dX7_playPosted_129 : decode cX7_playPosted 129 = .ok (.iload 4, 2) := by decide +kernel
theorem dX7_playPosted_131 : decode cX7_playPosted 131 = .ok (.iaload, 1) := by decide +kernel
theorem dX7_playPosted_132 : decode cX7_playPosted 132 = .ok (.aload_n 1, 1) := by decide +kernel
theorem dX7_playPosted_133 : decode cX7_playPosted 133 = .ok (.getfield 148, 3) := by decide +kernel
theorem dX7_playPosted_136 : decode cX7_playPosted 136 = .ok (.iadd, 1) := by decide +kernel
theorem dX7_playPosted_137 : decode cX7_playPosted 137 = .ok (.iload_n 2, 1) := by decide +kernel
theorem dX7_playPosted_138 : decode cX7_playPosted 138 = .ok (.invokevirtual 151, 3) := by decide +kernel
theorem dX7_playPosted_141 : decode cX7_playPosted 141 = .ok (.iinc 2 1, 3) := by decide +kernel
theorem dX7_playPosted_144 : decode cX7_playPosted 144 = .ok (.goto (-100), 3) := by decide +kernel
theorem dX7_playPosted_147 : decode cX7_playPosted 147 = .ok (.return_, 1) := by decide +kernel
theorem dX7_cheapestLeft_0 : decode cX7_cheapestLeft 0 = .ok (.bipush (-4), 2) := by decide +kernel
theorem dX7_cheapestLeft_2 : decode cX7_cheapestLeft 2 = .ok (.istore_n 2, 1) := by decide +kernel
theorem dX7_cheapestLeft_3 : decode cX7_cheapestLeft 3 = .ok (.iconst 0, 1) := by decide +kernel
theorem dX7_cheapestLeft_4 : decode cX7_cheapestLeft 4 = .ok (.istore_n 3, 1) := by decide +kernel
theorem dX7_cheapestLeft_5 : decode cX7_cheapestLeft 5 = .ok (.iload_n 3, 1) := by decide +kernel
theorem dX7_cheapestLeft_6 : decode cX7_cheapestLeft 6 = .ok (.aload_n 1, 1) := by decide +kernel
theorem dX7_cheapestLeft_7 : decode cX7_cheapestLeft 7 = .ok (.getfield 167, 3) := by decide +kernel
theorem dX7_cheapestLeft_10 : decode cX7_cheapestLeft 10 = .ok (.if_icmp .ge 82, 3) := by decide +kernel
theorem dX7_cheapestLeft_13 : decode cX7_cheapestLeft 13 = .ok (.aload_n 1, 1) := by decide +kernel
theorem dX7_cheapestLeft_14 : decode cX7_cheapestLeft 14 = .ok (.getfield 164, 3) := by decide +kernel
theorem dX7_cheapestLeft_17 : decode cX7_cheapestLeft 17 = .ok (.iload_n 3, 1) := by decide +kernel
theorem dX7_cheapestLeft_18 : decode cX7_cheapestLeft 18 = .ok (.iaload, 1) := by decide +kernel
theorem dX7_cheapestLeft_19 : decode cX7_cheapestLeft 19 = .ok (.istore 4, 2) := by decide +kernel
theorem dX7_cheapestLeft_21 : decode cX7_cheapestLeft 21 = .ok (.aload_n 0, 1) := by decide +kernel
theorem dX7_cheapestLeft_22 : decode cX7_cheapestLeft 22 = .ok (.getfield 9, 3) := by decide +kernel
theorem dX7_cheapestLeft_25 : decode cX7_cheapestLeft 25 = .ok (.iload 4, 2) := by decide +kernel
theorem dX7_cheapestLeft_27 : decode cX7_cheapestLeft 27 = .ok (.iaload, 1) := by decide +kernel
theorem dX7_cheapestLeft_28 : decode cX7_cheapestLeft 28 = .ok (.bipush (-4), 2) := by decide +kernel
theorem dX7_cheapestLeft_30 : decode cX7_cheapestLeft 30 = .ok (.if_icmp .ne 23, 3) := by decide +kernel
theorem dX7_cheapestLeft_33 : decode cX7_cheapestLeft 33 = .ok (.aload_n 1, 1) := by decide +kernel
theorem dX7_cheapestLeft_34 : decode cX7_cheapestLeft 34 = .ok (.iload 4, 2) := by decide +kernel
theorem dX7_cheapestLeft_36 : decode cX7_cheapestLeft 36 = .ok (.aload_n 0, 1) := by decide +kernel
theorem dX7_cheapestLeft_37 : decode cX7_cheapestLeft 37 = .ok (.getfield 15, 3) := by decide +kernel
theorem dX7_cheapestLeft_40 : decode cX7_cheapestLeft 40 = .ok (.iload 4, 2) := by decide +kernel
theorem dX7_cheapestLeft_42 : decode cX7_cheapestLeft 42 = .ok (.iaload, 1) := by decide +kernel
theorem dX7_cheapestLeft_43 : decode cX7_cheapestLeft 43 = .ok (.invokestatic 126, 3) := by decide +kernel
theorem dX7_cheapestLeft_46 : decode cX7_cheapestLeft 46 = .ok (.ifCond .eq 7, 3) := by decide +kernel
theorem dX7_cheapestLeft_49 : decode cX7_cheapestLeft 49 = .ok (.iconst 1, 1) := by decide +kernel
theorem dX7_cheapestLeft_50 : decode cX7_cheapestLeft 50 = .ok (.goto 4, 3) := by decide +kernel
theorem dX7_cheapestLeft_53 : decode cX7_cheapestLeft 53 = .ok (.iconst 0, 1) := by decide +kernel
theorem dX7_cheapestLeft_54 : decode cX7_cheapestLeft 54 = .ok (.istore 5, 2) := by decide +kernel
theorem dX7_cheapestLeft_56 : decode cX7_cheapestLeft 56 = .ok (.iload 5, 2) := by decide +kernel
theorem dX7_cheapestLeft_58 : decode cX7_cheapestLeft 58 = .ok (.ifCond .eq 28, 3) := by decide +kernel
theorem dX7_cheapestLeft_61 : decode cX7_cheapestLeft 61 = .ok (.iload_n 2, 1) := by decide +kernel
theorem dX7_cheapestLeft_62 : decode cX7_cheapestLeft 62 = .ok (.bipush (-4), 2) := by decide +kernel
theorem dX7_cheapestLeft_64 : decode cX7_cheapestLeft 64 = .ok (.if_icmp .eq 19, 3) := by decide +kernel
theorem dX7_cheapestLeft_67 : decode cX7_cheapestLeft 67 = .ok (.aload_n 0, 1) := by decide +kernel
theorem dX7_cheapestLeft_68 : decode cX7_cheapestLeft 68 = .ok (.getfield 15, 3) := by decide +kernel
theorem dX7_cheapestLeft_71 : decode cX7_cheapestLeft 71 = .ok (.iload 4, 2) := by decide +kernel
theorem dX7_cheapestLeft_73 : decode cX7_cheapestLeft 73 = .ok (.iaload, 1) := by decide +kernel
theorem dX7_cheapestLeft_74 : decode cX7_cheapestLeft 74 = .ok (.aload_n 0, 1) := by decide +kernel
theorem dX7_cheapestLeft_75 : decode cX7_cheapestLeft 75 = .ok (.getfield 15, 3) := by decide +kernel
theorem dX7_cheapestLeft_78 : decode cX7_cheapestLeft 78 = .ok (.iload_n 2, 1) := by decide +kernel
theorem dX7_cheapestLeft_79 : decode cX7_cheapestLeft 79 = .ok (.iaload, 1) := by decide +kernel
theorem dX7_cheapestLeft_80 : decode cX7_cheapestLeft 80 = .ok (.if_icmp .ge 6, 3) := by decide +kernel
theorem dX7_cheapestLeft_83 : decode cX7_cheapestLeft 83 = .ok (.iload 4, 2) := by decide +kernel
theorem dX7_cheapestLeft_85 : decode cX7_cheapestLeft 85 = .ok (.istore_n 2, 1) := by decide +kernel
theorem dX7_cheapestLeft_86 : decode cX7_cheapestLeft 86 = .ok (.iinc 3 1, 3) := by decide +kernel
theorem dX7_cheapestLeft_89 : decode cX7_cheapestLeft 89 = .ok (.goto (-84), 3) := by decide +kernel
theorem dX7_cheapestLeft_92 : decode cX7_cheapestLeft 92 = .ok (.iload_n 2, 1) := by decide +kernel
theorem dX7_cheapestLeft_93 : decode cX7_cheapestLeft 93 = .ok (.ireturn, 1) := by decide +kernel
theorem dX7_playBell_0 : decode cX7_playBell 0 = .ok (.aload_n 0, 1) := by decide +kernel
theorem dX7_playBell_1 : decode cX7_playBell 1 = .ok (.getfield 21, 3) := by decide +kernel
theorem dX7_playBell_4 : decode cX7_playBell 4 = .ok (.invokevirtual 174, 3) := by decide +kernel
theorem dX7_playBell_7 : decode cX7_playBell 7 = .ok (.iconst 0, 1) := by decide +kernel
theorem dX7_playBell_8 : decode cX7_playBell 8 = .ok (.istore_n 2, 1) := by decide +kernel
theorem dX7_playBell_9 : decode cX7_playBell 9 = .ok (.iload_n 2, 1) := by decide +kernel
theorem dX7_playBell_10 : decode cX7_playBell 10 = .ok (.aload_n 1, 1) := by decide +kernel
theorem dX7_playBell_11 : decode cX7_playBell 11 = .ok (.getfield 120, 3) := by decide +kernel
theorem dX7_playBell_14 : decode cX7_playBell 14 = .ok (.if_icmp .ge 47, 3) := by decide +kernel
theorem dX7_playBell_17 : decode cX7_playBell 17 = .ok (.aload_n 0, 1) := by decide +kernel
theorem dX7_playBell_18 : decode cX7_playBell 18 = .ok (.aload_n 1, 1) := by decide +kernel
theorem dX7_playBell_19 : decode cX7_playBell 19 = .ok (.iload_n 2, 1) := by decide +kernel
theorem dX7_playBell_20 : decode cX7_playBell 20 = .ok (.aload_n 1, 1) := by decide +kernel
theorem dX7_playBell_21 : decode cX7_playBell 21 = .ok (.getfield 114, 3) := by decide +kernel
theorem dX7_playBell_24 : decode cX7_playBell 24 = .ok (.iconst 1, 1) := by decide +kernel
theorem dX7_playBell_25 : decode cX7_playBell 25 = .ok (.isub, 1) := by decide +kernel
theorem dX7_playBell_26 : decode cX7_playBell 26 = .ok (.aload_n 0, 1) := by decide +kernel
theorem dX7_playBell_27 : decode cX7_playBell 27 = .ok (.iload_n 2, 1) := by decide +kernel
theorem dX7_playBell_28 : decode cX7_playBell 28 = .ok (.iconst 1, 1) := by decide +kernel
theorem dX7_playBell_29 : decode cX7_playBell 29 = .ok (.invokevirtual 117, 3) := by decide +kernel
theorem dX7_playBell_32 : decode cX7_playBell 32 = .ok (.invokevirtual 123, 3) := by decide +kernel
theorem dX7_playBell_35 : decode cX7_playBell 35 = .ok (.istore_n 3, 1) := by decide +kernel
theorem dX7_playBell_36 : decode cX7_playBell 36 = .ok (.aload_n 1, 1) := by decide +kernel
theorem dX7_playBell_37 : decode cX7_playBell 37 = .ok (.iload_n 2, 1) := by decide +kernel
theorem dX7_playBell_38 : decode cX7_playBell 38 = .ok (.iload_n 3, 1) := by decide +kernel
theorem dX7_playBell_39 : decode cX7_playBell 39 = .ok (.invokestatic 126, 3) := by decide +kernel
theorem dX7_playBell_42 : decode cX7_playBell 42 = .ok (.ifCond .eq 13, 3) := by decide +kernel
theorem dX7_playBell_45 : decode cX7_playBell 45 = .ok (.aload_n 0, 1) := by decide +kernel
theorem dX7_playBell_46 : decode cX7_playBell 46 = .ok (.getfield 21, 3) := by decide +kernel
theorem dX7_playBell_49 : decode cX7_playBell 49 = .ok (.aload_n 1, 1) := by decide +kernel
theorem dX7_playBell_50 : decode cX7_playBell 50 = .ok (.iload_n 2, 1) := by decide +kernel
theorem dX7_playBell_51 : decode cX7_playBell 51 = .ok (.iload_n 3, 1) := by decide +kernel
theorem dX7_playBell_52 : decode cX7_playBell 52 = .ok (.invokevirtual 177, 3) := by decide +kernel
theorem dX7_playBell_55 : decode cX7_playBell 55 = .ok (.iinc 2 1, 3) := by decide +kernel
theorem dX7_playBell_58 : decode cX7_playBell 58 = .ok (.goto (-49), 3) := by decide +kernel
theorem dX7_playBell_61 : decode cX7_playBell 61 = .ok (.aload_n 0, 1) := by decide +kernel
theorem dX7_playBell_62 : decode cX7_playBell 62 = .ok (.getfield 21, 3) := by decide +kernel
theorem dX7_playBell_65 : decode cX7_playBell 65 = .ok (.aload_n 1, 1) := by decide +kernel
theorem dX7_playBell_66 : decode cX7_playBell 66 = .ok (.getfield 148, 3) := by decide +kernel
theorem dX7_playBell_69 : decode cX7_playBell 69 = .ok (.invokevirtual 181, 3) := by decide +kernel
theorem dX7_playBell_72 : decode cX7_playBell 72 = .ok (.iconst 0, 1) := by decide +kernel
theorem dX7_playBell_73 : decode cX7_playBell 73 = .ok (.istore_n 2, 1) := by decide +kernel
theorem dX7_playBell_74 : decode cX7_playBell 74 = .ok (.iload_n 2, 1) := by decide +kernel
theorem dX7_playBell_75 : decode cX7_playBell 75 = .ok (.aload_n 0, 1) := by decide +kernel
theorem dX7_playBell_76 : decode cX7_playBell 76 = .ok (.getfield 21, 3) := by decide +kernel
theorem dX7_playBell_79 : decode cX7_playBell 79 = .ok (.getfield 185, 3) := by decide +kernel
theorem dX7_playBell_82 : decode cX7_playBell 82 = .ok (.if_icmp .ge 46, 3) := by decide +kernel
theorem dX7_playBell_85 : decode cX7_playBell 85 = .ok (.aload_n 0, 1) := by decide +kernel
theorem dX7_playBell_86 : decode cX7_playBell 86 = .ok (.aload_n 1, 1) := by decide +kernel
theorem dX7_playBell_87 : decode cX7_playBell 87 = .ok (.aload_n 0, 1) := by decide +kernel
theorem dX7_playBell_88 : decode cX7_playBell 88 = .ok (.getfield 21, 3) := by decide +kernel
theorem dX7_playBell_91 : decode cX7_playBell 91 = .ok (.getfield 188, 3) := by decide +kernel
theorem dX7_playBell_94 : decode cX7_playBell 94 = .ok (.getfield 191, 3) := by decide +kernel
theorem dX7_playBell_97 : decode cX7_playBell 97 = .ok (.iload_n 2, 1) := by decide +kernel
theorem dX7_playBell_98 : decode cX7_playBell 98 = .ok (.iaload, 1) := by decide +kernel
theorem dX7_playBell_99 : decode cX7_playBell 99 = .ok (.aload_n 0, 1) := by decide +kernel
theorem dX7_playBell_100 : decode cX7_playBell 100 = .ok (.getfield 21, 3) := by decide +kernel
theorem dX7_playBell_103 : decode cX7_playBell 103 = .ok (.getfield 196, 3) := by decide +kernel
theorem dX7_playBell_106 : decode cX7_playBell 106 = .ok (.getfield 191, 3) := by decide +kernel
theorem dX7_playBell_109 : decode cX7_playBell 109 = .ok (.iload_n 2, 1) := by decide +kernel
theorem dX7_playBell_110 : decode cX7_playBell 110 = .ok (.iaload, 1) := by decide +kernel
theorem dX7_playBell_111 : decode cX7_playBell 111 = .ok (.aload_n 0, 1) := by decide +kernel
theorem dX7_playBell_112 : decode cX7_playBell 112 = .ok (.getfield 21, 3) := by decide +kernel
theorem dX7_playBell_115 : decode cX7_playBell 115 = .ok (.getfield 198, 3) := by decide +kernel
theorem dX7_playBell_118 : decode cX7_playBell 118 = .ok (.iconst 0, 1) := by decide +kernel
theorem dX7_playBell_119 : decode cX7_playBell 119 = .ok (.invokevirtual 151, 3) := by decide +kernel
theorem dX7_playBell_122 : decode cX7_playBell 122 = .ok (.iinc 2 1, 3) := by decide +kernel
theorem dX7_playBell_125 : decode cX7_playBell 125 = .ok (.goto (-51), 3) := by decide +kernel
theorem dX7_playBell_128 : decode cX7_playBell 128 = .ok (.return_, 1) := by decide +kernel
theorem dX8_init_0 : decode cX8_init 0 = .ok (.aload_n 0, 1) := by decide +kernel
theorem dX8_init_1 : decode cX8_init 1 = .ok (.invokespecial 3, 3) := by decide +kernel
theorem dX8_init_4 : decode cX8_init 4 = .ok (.aload_n 0, 1) := by decide +kernel
theorem dX8_init_5 : decode cX8_init 5 = .ok (.sipush 300, 3) := by decide +kernel
theorem dX8_init_8 : decode cX8_init 8 = .ok (.newarray .int, 2) := by decide +kernel
theorem dX8_init_10 : decode cX8_init 10 = .ok (.putfield 9, 3) := by decide +kernel
theorem dX8_init_13 : decode cX8_init 13 = .ok (.aload_n 0, 1) := by decide +kernel
theorem dX8_init_14 : decode cX8_init 14 = .ok (.iconst 0, 1) := by decide +kernel
theorem dX8_init_15 : decode cX8_init 15 = .ok (.putfield 15, 3) := by decide +kernel
theorem dX8_init_18 : decode cX8_init 18 = .ok (.return_, 1) := by decide +kernel
theorem dX8_add_0 : decode cX8_add 0 = .ok (.aload_n 0, 1) := by decide +kernel
theorem dX8_add_1 : decode cX8_add 1 = .ok (.getfield 15, 3) := by decide +kernel
theorem dX8_add_4 : decode cX8_add 4 = .ok (.sipush 300, 3) := by decide +kernel
theorem dX8_add_7 : decode cX8_add 7 = .ok (.if_icmp .ge 23, 3) := by decide +kernel
theorem dX8_add_10 : decode cX8_add 10 = .ok (.aload_n 0, 1) := by decide +kernel
theorem dX8_add_11 : decode cX8_add 11 = .ok (.getfield 9, 3) := by decide +kernel
theorem dX8_add_14 : decode cX8_add 14 = .ok (.aload_n 0, 1) := by decide +kernel
theorem dX8_add_15 : decode cX8_add 15 = .ok (.getfield 15, 3) := by decide +kernel
theorem dX8_add_18 : decode cX8_add 18 = .ok (.iload_n 1, 1) := by decide +kernel
theorem dX8_add_19 : decode cX8_add 19 = .ok (.iastore, 1) := by decide +kernel
theorem dX8_add_20 : decode cX8_add 20 = .ok (.aload_n 0, 1) := by decide +kernel
theorem dX8_add_21 : decode cX8_add 21 = .ok (.dup, 1) := by decide +kernel
theorem dX8_add_22 : decode cX8_add 22 = .ok (.getfield 15, 3) := by decide +kernel
theorem dX8_add_25 : decode cX8_add 25 = .ok (.iconst 1, 1) := by decide +kernel
theorem dX8_add_26 : decode cX8_add 26 = .ok (.iadd, 1) := by decide +kernel
theorem dX8_add_27 : decode cX8_add 27 = .ok (.putfield 15, 3) := by decide +kernel
theorem dX8_add_30 : decode cX8_add 30 = .ok (.return_, 1) := by decide +kernel
theorem dX9_span_0 : decode cX9_span 0 = .ok (.iload_n 2, 1) := by decide +kernel
theorem dX9_span_1 : decode cX9_span 1 = .ok (.iconst 5, 1) := by decide +kernel
theorem dX9_span_2 : decode cX9_span 2 = .ok (.if_icmp .ne 6, 3) := by decide +kernel
theorem dX9_span_5 : decode cX9_span 5 = .ok (.bipush 100, 2) := by decide +kernel
theorem dX9_span_7 : decode cX9_span 7 = .ok (.ireturn, 1) := by decide +kernel
theorem dX9_span_8 : decode cX9_span 8 = .ok (.iload_n 3, 1) := by decide +kernel
theorem dX9_span_9 : decode cX9_span 9 = .ok (.bipush (-4), 2) := by decide +kernel
theorem dX9_span_11 : decode cX9_span 11 = .ok (.if_icmp .eq 22, 3) := by decide +kernel
theorem dX9_span_14 : decode cX9_span 14 = .ok (.iload_n 2, 1) := by decide +kernel
theorem dX9_span_15 : decode cX9_span 15 = .ok (.iconst 1, 1) := by decide +kernel
theorem dX9_span_16 : decode cX9_span 16 = .ok (.if_icmp .eq 8, 3) := by decide +kernel
theorem dX9_span_19 : decode cX9_span 19 = .ok (.iload_n 2, 1) := by decide +kernel
theorem dX9_span_20 : decode cX9_span 20 = .ok (.iconst 3, 1) := by decide +kernel
theorem dX9_span_21 : decode cX9_span 21 = .ok (.if_icmp .ne 12, 3) := by decide +kernel
theorem dX9_span_24 : decode cX9_span 24 = .ok (.iconst 2, 1) := by decide +kernel
theorem dX9_span_25 : decode cX9_span 25 = .ok (.aload_n 0, 1) := by decide +kernel
theorem dX9_span_26 : decode cX9_span 26 = .ok (.getfield 9, 3) := by decide +kernel
theorem dX9_span_29 : decode cX9_span 29 = .ok (.imul, 1) := by decide +kernel
theorem dX9_span_30 : decode cX9_span 30 = .ok (.iconst 1, 1) := by decide +kernel
theorem dX9_span_31 : decode cX9_span 31 = .ok (.iadd, 1) := by decide +kernel
theorem dX9_span_32 : decode cX9_span 32 = .ok (.ireturn, 1) := by decide +kernel
theorem dX9_span_33 : decode cX9_span 33 = .ok (.aload_n 0, 1) := by decide +kernel
theorem dX9_span_34 : decode cX9_span 34 = .ok (.getfield 15, 3) := by decide +kernel
theorem dX9_span_37 : decode cX9_span 37 = .ok (.iload_n 1, 1) := by decide +kernel
theorem dX9_span_38 : decode cX9_span 38 = .ok (.baload, 1) := by decide +kernel
theorem dX9_span_39 : decode cX9_span 39 = .ok (.ifCond .eq 15, 3) := by decide +kernel
theorem dX9_span_42 : decode cX9_span 42 = .ok (.bipush 100, 2) := by decide +kernel
theorem dX9_span_44 : decode cX9_span 44 = .ok (.aload_n 0, 1) := by decide +kernel
theorem dX9_span_45 : decode cX9_span 45 = .ok (.getfield 19, 3) := by decide +kernel
theorem dX9_span_48 : decode cX9_span 48 = .ok (.iload_n 1, 1) := by decide +kernel
theorem dX9_span_49 : decode cX9_span 49 = .ok (.iaload, 1) := by decide +kernel
theorem dX9_span_50 : decode cX9_span 50 = .ok (.isub, 1) := by decide +kernel
theorem dX9_span_51 : decode cX9_span 51 = .ok (.goto 11, 3) := by decide +kernel
theorem dX9_span_54 : decode cX9_span 54 = .ok (.aload_n 0, 1) := by decide +kernel
theorem dX9_span_55 : decode cX9_span 55 = .ok (.getfield 19, 3) := by decide +kernel
theorem dX9_span_58 : decode cX9_span 58 = .ok (.iload_n 1, 1) := by decide +kernel
theorem dX9_span_59 : decode cX9_span 59 = .ok (.iaload, 1) := by decide +kernel
theorem dX9_span_60 : decode cX9_span 60 = .ok (.iconst 1, 1) := by decide +kernel
theorem dX9_span_61 : decode cX9_span 61 = .ok (.iadd, 1) := by decide +kernel
theorem dX9_span_62 : decode cX9_span 62 = .ok (.ireturn, 1) := by decide +kernel
theorem dX9_by_0 : decode cX9_by 0 = .ok (.aload_n 0, 1) := by decide +kernel
theorem dX9_by_1 : decode cX9_by 1 = .ok (.getfield 15, 3) := by decide +kernel
theorem dX9_by_4 : decode cX9_by 4 = .ok (.iload_n 1, 1) := by decide +kernel
theorem dX9_by_5 : decode cX9_by 5 = .ok (.baload, 1) := by decide +kernel
theorem dX9_by_6 : decode cX9_by 6 = .ok (.istore 6, 2) := by decide +kernel
theorem dX9_by_8 : decode cX9_by 8 = .ok (.aload_n 0, 1) := by decide +kernel
theorem dX9_by_9 : decode cX9_by 9 = .ok (.getfield 19, 3) := by decide +kernel
theorem dX9_by_12 : decode cX9_by 12 = .ok (.iload_n 1, 1) := by decide +kernel
theorem dX9_by_13 : decode cX9_by 13 = .ok (.iaload, 1) := by decide +kernel
theorem dX9_by_14 : decode cX9_by 14 = .ok (.istore 7, 2) := by decide +kernel
theorem dX9_by_16 : decode cX9_by 16 = .ok (.iload 6, 2) := by decide +kernel
theorem dX9_by_18 : decode cX9_by 18 = .ok (.ifCond .eq 11, 3) := by decide +kernel
theorem dX9_by_21 : decode cX9_by 21 = .ok (.iload 7, 2) := by decide +kernel
theorem dX9_by_23 : decode cX9_by 23 = .ok (.iload 5, 2) := by decide +kernel
theorem dX9_by_25 : decode cX9_by 25 = .ok (.iadd, 1) := by decide +kernel
theorem dX9_by_26 : decode cX9_by 26 = .ok (.goto 5, 3) := by decide +kernel
theorem dX9_by_29 : decode cX9_by 29 = .ok (.iload 5, 2) := by decide +kernel
theorem dX9_by_31 : decode cX9_by 31 = .ok (.istore 8, 2) := by decide +kernel
theorem dX9_by_33 : decode cX9_by 33 = .ok (.iload_n 2, 1) := by decide +kernel
theorem dX9_by_34 : decode cX9_by 34 = .ok (.iconst 3, 1) := by decide +kernel
theorem dX9_by_35 : decode cX9_by 35 = .ok (.if_icmp .ne 18, 3) := by decide +kernel
theorem dX9_by_38 : decode cX9_by 38 = .ok (.iconst 4, 1) := by decide +kernel
theorem dX9_by_39 : decode cX9_by 39 = .ok (.iload_n 3, 1) := by decide +kernel
theorem dX9_by_40 : decode cX9_by 40 = .ok (.imul, 1) := by decide +kernel
theorem dX9_by_41 : decode cX9_by 41 = .ok (.iconst 3, 1) := by decide +kernel
theorem dX9_by_42 : decode cX9_by 42 = .ok (.aload_n 0, 1) := by decide +kernel
theorem dX9_by_43 : decode cX9_by 43 = .ok (.getfield 23, 3) := by decide +kernel
theorem dX9_by_46 : decode cX9_by 46 = .ok (.imul, 1) := by decide +kernel
theorem dX9_by_47 : decode cX9_by 47 = .ok (.if_icmp .lt 6, 3) := by decide +kernel
theorem dX9_by_50 : decode cX9_by 50 = .ok (.iload 7, 2) := by decide +kernel
theorem dX9_by_52 : decode cX9_by 52 = .ok (.ireturn, 1) := by decide +kernel
theorem dX9_by_53 : decode cX9_by 53 = .ok (.iload_n 2, 1) := by decide +kernel
theorem dX9_by_54 : decode cX9_by 54 = .ok (.tableswitch 115 1 5 #[34, 56, 34, 85, 112], 34) := by decide +kernel
theorem dX9_by_88 : decode cX9_by 88 = .ok (.iload 4, 2) := by decide +kernel
theorem dX9_by_90 : decode cX9_by 90 = .ok (.bipush (-4), 2) := by decide +kernel
theorem dX9_by_92 : decode cX9_by 92 = .ok (.if_icmp .ne 8, 3) := by decide +kernel
theorem dX9_by_95 : decode cX9_by 95 = .ok (.iload 8, 2) := by decide +kernel
theorem dX9_by_97 : decode cX9_by 97 = .ok (.goto 12, 3) := by decide +kernel
theorem dX9_by_100 : decode cX9_by 100 = .ok (.aload_n 0, 1) := by decide +kernel
theorem dX9_by_101 : decode cX9_by 101 = .ok (.iload_n 1, 1) := by decide +kernel
theorem dX9_by_102 : decode cX9_by 102 = .ok (.iload 4, 2) := by decide +kernel
theorem dX9_by_104 : decode cX9_by 104 = .ok (.iload 5, 2) := by decide +kernel
theorem dX9_by_106 : decode cX9_by 106 = .ok (.invokestatic 26, 3) := by decide +kernel
theorem dX9_by_109 : decode cX9_by 109 = .ok (.ireturn, 1) := by decide +kernel
theorem dX9_by_110 : decode cX9_by 110 = .ok (.iload 6, 2) := by decide +kernel
theorem dX9_by_112 : decode cX9_by 112 = .ok (.ifCond .eq 19, 3) := by decide +kernel
theorem dX9_by_115 : decode cX9_by 115 = .ok (.bipush 99, 2) := by decide +kernel
theorem dX9_by_117 : decode cX9_by 117 = .ok (.aload_n 0, 1) := by decide +kernel
theorem dX9_by_118 : decode cX9_by 118 = .ok (.bipush 99, 2) := by decide +kernel
theorem dX9_by_120 : decode cX9_by 120 = .ok (.iload 7, 2) := by decide +kernel
theorem dX9_by_122 : decode cX9_by 122 = .ok (.isub, 1) := by decide +kernel
theorem dX9_by_123 : decode cX9_by 123 = .ok (.iload_n 3, 1) := by decide +kernel
theorem dX9_by_124 : decode cX9_by 124 = .ok (.invokestatic 31, 3) := by decide +kernel
theorem dX9_by_127 : decode cX9_by 127 = .ok (.isub, 1) := by decide +kernel
theorem dX9_by_128 : decode cX9_by 128 = .ok (.goto 10, 3) := by decide +kernel
theorem dX9_by_131 : decode cX9_by 131 = .ok (.aload_n 0, 1) := by decide +kernel
theorem dX9_by_132 : decode cX9_by 132 = .ok (.iload 7, 2) := by decide +kernel
theorem dX9_by_134 : decode cX9_by 134 = .ok (.iload_n 3, 1) := by decide +kernel
theorem dX9_by_135 : decode cX9_by 135 = .ok (.invokestatic 31, 3) := by decide +kernel
theorem dX9_by_138 : decode cX9_by 138 = .ok (.ireturn, 1) := by decide +kernel
theorem dX9_by_139 : decode cX9_by 139 = .ok (.iload 6, 2) := by decide +kernel
theorem dX9_by_141 : decode cX9_by 141 = .ok (.ifCond .eq 15, 3) := by decide +kernel
theorem dX9_by_144 : decode cX9_by 144 = .ok (.iload 8, 2) := by decide +kernel
theorem dX9_by_146 : decode cX9_by 146 = .ok (.aload_n 0, 1) := by decide +kernel
theorem dX9_by_147 : decode cX9_by 147 = .ok (.getfield 35, 3) := by decide +kernel
theorem dX9_by_150 : decode cX9_by 150 = .ok (.invokestatic 38, 3) := by decide +kernel
theorem dX9_by_153 : decode cX9_by 153 = .ok (.goto 12, 3) := by decide +kernel
theorem dX9_by_156 : decode cX9_by 156 = .ok (.iload 8, 2) := by decide +kernel
theorem dX9_by_158 : decode cX9_by 158 = .ok (.aload_n 0, 1) := by decide +kernel
theorem dX9_by_159 : decode cX9_by 159 = .ok (.getfield 35, 3) := by decide +kernel
theorem dX9_by_162 : decode cX9_by 162 = .ok (.invokestatic 44, 3) := by decide +kernel
theorem dX9_by_165 : decode cX9_by 165 = .ok (.ireturn, 1) := by decide +kernel
theorem dX9_by_166 : decode cX9_by 166 = .ok (.iload 5, 2) := by decide +kernel
theorem dX9_by_168 : decode cX9_by 168 = .ok (.ireturn, 1) := by decide +kernel
theorem dX9_by_169 : decode cX9_by 169 = .ok (.iload 8, 2) := by decide +kernel
theorem dX9_by_171 : decode cX9_by 171 = .ok (.ireturn, 1) := by decide +kernel
theorem dX9_near_0 : decode cX9_near 0 = .ok (.iload_n 2, 1) := by decide +kernel
theorem dX9_near_1 : decode cX9_near 1 = .ok (.aload_n 0, 1) := by decide +kernel
theorem dX9_near_2 : decode cX9_near 2 = .ok (.getfield 9, 3) := by decide +kernel
theorem dX9_near_5 : decode cX9_near 5 = .ok (.isub, 1) := by decide +kernel
theorem dX9_near_6 : decode cX9_near 6 = .ok (.iload_n 3, 1) := by decide +kernel
theorem dX9_near_7 : decode cX9_near 7 = .ok (.iadd, 1) := by decide +kernel
theorem dX9_near_8 : decode cX9_near 8 = .ok (.iconst 0, 1) := by decide +kernel
theorem dX9_near_9 : decode cX9_near 9 = .ok (.invokestatic 38, 3) := by decide +kernel
theorem dX9_near_12 : decode cX9_near 12 = .ok (.bipush 99, 2) := by decide +kernel
theorem dX9_near_14 : decode cX9_near 14 = .ok (.invokestatic 44, 3) := by decide +kernel
theorem dX9_near_17 : decode cX9_near 17 = .ok (.istore 4, 2) := by decide +kernel
theorem dX9_near_19 : decode cX9_near 19 = .ok (.aload_n 0, 1) := by decide +kernel
theorem dX9_near_20 : decode cX9_near 20 = .ok (.getfield 19, 3) := by decide +kernel
theorem dX9_near_23 : decode cX9_near 23 = .ok (.iload_n 1, 1) := by decide +kernel
theorem dX9_near_24 : decode cX9_near 24 = .ok (.iaload, 1) := by decide +kernel
theorem dX9_near_25 : decode cX9_near 25 = .ok (.istore 5, 2) := by decide +kernel
theorem dX9_near_27 : decode cX9_near 27 = .ok (.aload_n 0, 1) := by decide +kernel
theorem dX9_near_28 : decode cX9_near 28 = .ok (.getfield 15, 3) := by decide +kernel
theorem dX9_near_31 : decode cX9_near 31 = .ok (.iload_n 1, 1) := by decide +kernel
theorem dX9_near_32 : decode cX9_near 32 = .ok (.baload, 1) := by decide +kernel
theorem dX9_near_33 : decode cX9_near 33 = .ok (.ifCond .eq 13, 3) := by decide +kernel
theorem dX9_near_36 : decode cX9_near 36 = .ok (.iload 4, 2) := by decide +kernel
theorem dX9_near_38 : decode cX9_near 38 = .ok (.iload 5, 2) := by decide +kernel
theorem dX9_near_40 : decode cX9_near 40 = .ok (.invokestatic 38, 3) := by decide +kernel
theorem dX9_near_43 : decode cX9_near 43 = .ok (.goto 10, 3) := by decide +kernel
theorem dX9_near_46 : decode cX9_near 46 = .ok (.iload 4, 2) := by decide +kernel
theorem dX9_near_48 : decode cX9_near 48 = .ok (.iload 5, 2) := by decide +kernel
theorem dX9_near_50 : decode cX9_near 50 = .ok (.invokestatic 44, 3) := by decide +kernel
theorem dX9_near_53 : decode cX9_near 53 = .ok (.ireturn, 1) := by decide +kernel
theorem dX9_share_0 : decode cX9_share 0 = .ok (.aload_n 0, 1) := by decide +kernel
theorem dX9_share_1 : decode cX9_share 1 = .ok (.getfield 23, 3) := by decide +kernel
theorem dX9_share_4 : decode cX9_share 4 = .ok (.ifCond .le 16, 3) := by decide +kernel
theorem dX9_share_7 : decode cX9_share 7 = .ok (.iload_n 1, 1) := by decide +kernel
theorem dX9_share_8 : decode cX9_share 8 = .ok (.iload_n 2, 1) := by decide +kernel
theorem dX9_share_9 : decode cX9_share 9 = .ok (.iconst 1, 1) := by decide +kernel
theorem dX9_share_10 : decode cX9_share 10 = .ok (.iadd, 1) := by decide +kernel
theorem dX9_share_11 : decode cX9_share 11 = .ok (.imul, 1) := by decide +kernel
theorem dX9_share_12 : decode cX9_share 12 = .ok (.aload_n 0, 1) := by decide +kernel
theorem dX9_share_13 : decode cX9_share 13 = .ok (.getfield 23, 3) := by decide +kernel
theorem dX9_share_16 : decode cX9_share 16 = .ok (.idiv, 1) := by decide +kernel
theorem dX9_share_17 : decode cX9_share 17 = .ok (.goto 4, 3) := by decide +kernel
theorem dX9_share_20 : decode cX9_share 20 = .ok (.iload_n 1, 1) := by decide +kernel
theorem dX9_share_21 : decode cX9_share 21 = .ok (.ireturn, 1) := by decide +kernel
theorem dX9_underLid_0 : decode cX9_underLid 0 = .ok (.aload_n 0, 1) := by decide +kernel
theorem dX9_underLid_1 : decode cX9_underLid 1 = .ok (.getfield 15, 3) := by decide +kernel
theorem dX9_underLid_4 : decode cX9_underLid 4 = .ok (.iload_n 1, 1) := by decide +kernel
theorem dX9_underLid_5 : decode cX9_underLid 5 = .ok (.baload, 1) := by decide +kernel
theorem dX9_underLid_6 : decode cX9_underLid 6 = .ok (.ifCond .eq 7, 3) := by decide +kernel
theorem dX9_underLid_9 : decode cX9_underLid 9 = .ok (.iload_n 2, 1) := by decide +kernel
theorem dX9_underLid_10 : decode cX9_underLid 10 = .ok (.goto 11, 3) := by decide +kernel
theorem dX9_underLid_13 : decode cX9_underLid 13 = .ok (.iload_n 2, 1) := by decide +kernel
theorem dX9_underLid_14 : decode cX9_underLid 14 = .ok (.aload_n 0, 1) := by decide +kernel
theorem dX9_underLid_15 : decode cX9_underLid 15 = .ok (.getfield 47, 3) := by decide +kernel
theorem dX9_underLid_18 : decode cX9_underLid 18 = .ok (.invokestatic 44, 3) := by decide +kernel
theorem dX9_underLid_21 : decode cX9_underLid 21 = .ok (.ireturn, 1) := by decide +kernel
theorem dX9_isHeard_0 : decode cX9_isHeard 0 = .ok (.aload_n 0, 1) := by decide +kernel
theorem dX9_isHeard_1 : decode cX9_isHeard 1 = .ok (.getfield 15, 3) := by decide +kernel
theorem dX9_isHeard_4 : decode cX9_isHeard 4 = .ok (.iload_n 1, 1) := by decide +kernel
theorem dX9_isHeard_5 : decode cX9_isHeard 5 = .ok (.baload, 1) := by decide +kernel
theorem dX9_isHeard_6 : decode cX9_isHeard 6 = .ok (.ifCond .eq 16, 3) := by decide +kernel
theorem dX9_isHeard_9 : decode cX9_isHeard 9 = .ok (.iload_n 2, 1) := by decide +kernel
theorem dX9_isHeard_10 : decode cX9_isHeard 10 = .ok (.aload_n 0, 1) := by decide +kernel
theorem dX9_isHeard_11 : decode cX9_isHeard 11 = .ok (.getfield 50, 3) := by decide +kernel
theorem dX9_isHeard_14 : decode cX9_isHeard 14 = .ok (.iadd, 1) := by decide +kernel
theorem dX9_isHeard_15 : decode cX9_isHeard 15 = .ok (.aload_n 0, 1) := by decide +kernel
theorem dX9_isHeard_16 : decode cX9_isHeard 16 = .ok (.getfield 47, 3) := by decide +kernel
theorem dX9_isHeard_19 : decode cX9_isHeard 19 = .ok (.if_icmp .gt 7, 3) := by decide +kernel
theorem dX9_isHeard_22 : decode cX9_isHeard 22 = .ok (.iconst 1, 1) := by decide +kernel
theorem dX9_isHeard_23 : decode cX9_isHeard 23 = .ok (.goto 4, 3) := by decide +kernel
theorem dX9_isHeard_26 : decode cX9_isHeard 26 = .ok (.iconst 0, 1) := by decide +kernel
theorem dX9_isHeard_27 : decode cX9_isHeard 27 = .ok (.ireturn, 1) := by decide +kernel
