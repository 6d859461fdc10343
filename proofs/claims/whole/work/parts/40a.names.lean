theorem dX2_init_0 : decode cX2_init 0 = .ok (.aload_n 0, 1) := by decide +kernel
theorem dX2_init_1 : decode cX2_init 1 = .ok (.invokespecial 1, 3) := by decide +kernel
theorem dX2_init_4 : decode cX2_init 4 = .ok (.aload_n 0, 1) := by decide +kernel
theorem dX2_init_5 : decode cX2_init 5 = .ok (.bipush 7, 2) := by decide +kernel
theorem dX2_init_7 : decode cX2_init 7 = .ok (.newarray .int, 2) := by decide +kernel
theorem dX2_init_9 : decode cX2_init 9 = .ok (.putfield 7, 3) := by decide +kernel
theorem dX2_init_12 : decode cX2_init 12 = .ok (.aload_n 0, 1) := by decide +kernel
theorem dX2_init_13 : decode cX2_init 13 = .ok (.bipush 8, 2) := by decide +kernel
theorem dX2_init_15 : decode cX2_init 15 = .ok (.newarray .int, 2) := by decide +kernel
theorem dX2_init_17 : decode cX2_init 17 = .ok (.putfield 13, 3) := by decide +kernel
theorem dX2_init_20 : decode cX2_init 20 = .ok (.aload_n 0, 1) := by decide +kernel
theorem dX2_init_21 : decode cX2_init 21 = .ok (.bipush 8, 2) := by decide +kernel
theorem dX2_init_23 : decode cX2_init 23 = .ok (.newarray .int, 2) := by decide +kernel
theorem dX2_init_25 : decode cX2_init 25 = .ok (.putfield 16, 3) := by decide +kernel
theorem dX2_init_28 : decode cX2_init 28 = .ok (.aload_n 0, 1) := by decide +kernel
theorem dX2_init_29 : decode cX2_init 29 = .ok (.bipush 8, 2) := by decide +kernel
theorem dX2_init_31 : decode cX2_init 31 = .ok (.newarray .int, 2) := by decide +kernel
theorem dX2_init_33 : decode cX2_init 33 = .ok (.putfield 19, 3) := by decide +kernel
theorem dX2_init_36 : decode cX2_init 36 = .ok (.aload_n 0, 1) := by decide +kernel
theorem dX2_init_37 : decode cX2_init 37 = .ok (.bipush 8, 2) := by decide +kernel
theorem dX2_init_39 : decode cX2_init 39 = .ok (.newarray .int, 2) := by decide +kernel
theorem dX2_init_41 : decode cX2_init 41 = .ok (.putfield 22, 3) := by decide +kernel
theorem dX2_init_44 : decode cX2_init 44 = .ok (.aload_n 0, 1) := by decide +kernel
theorem dX2_init_45 : decode cX2_init 45 = .ok (.bipush 8, 2) := by decide +kernel
theorem dX2_init_47 : decode cX2_init 47 = .ok (.newarray .int, 2) := by decide +kernel
theorem dX2_init_49 : decode cX2_init 49 = .ok (.putfield 25, 3) := by decide +kernel
theorem dX2_init_52 : decode cX2_init 52 = .ok (.aload_n 0, 1) := by decide +kernel
theorem dX2_init_53 : decode cX2_init 53 = .ok (.bipush 8, 2) := by decide +kernel
theorem dX2_init_55 : decode cX2_init 55 = .ok (.newarray .int, 2) := by decide +kernel
theorem dX2_init_57 : decode cX2_init 57 = .ok (.putfield 28, 3) := by decide +kernel
theorem dX2_init_60 : decode cX2_init 60 = .ok (.aload_n 0, 1) := by decide +kernel
theorem dX2_init_61 : decode cX2_init 61 = .ok (.bipush 6, 2) := by decide +kernel
theorem dX2_init_63 : decode cX2_init 63 = .ok (.newarray .int, 2) := by decide +kernel
theorem dX2_init_65 : decode cX2_init 65 = .ok (.putfield 31, 3) := by decide +kernel
theorem dX2_init_68 : decode cX2_init 68 = .ok (.aload_n 0, 1) := by decide +kernel
theorem dX2_init_69 : decode cX2_init 69 = .ok (.bipush 6, 2) := by decide +kernel
theorem dX2_init_71 : decode cX2_init 71 = .ok (.newarray .int, 2) := by decide +kernel
theorem dX2_init_73 : decode cX2_init 73 = .ok (.putfield 34, 3) := by decide +kernel
theorem dX2_init_76 : decode cX2_init 76 = .ok (.aload_n 0, 1) := by decide +kernel
theorem dX2_init_77 : decode cX2_init 77 = .ok (.bipush 6, 2) := by decide +kernel
theorem dX2_init_79 : decode cX2_init 79 = .ok (.newarray .int, 2) := by decide +kernel
theorem dX2_init_81 : decode cX2_init 81 = .ok (.putfield 37, 3) := by decide +kernel
theorem dX2_init_84 : decode cX2_init 84 = .ok (.aload_n 0, 1) := by decide +kernel
theorem dX2_init_85 : decode cX2_init 85 = .ok (.bipush 6, 2) := by decide +kernel
theorem dX2_init_87 : decode cX2_init 87 = .ok (.newarray .int, 2) := by decide +kernel
theorem dX2_init_89 : decode cX2_init 89 = .ok (.putfield 40, 3) := by decide +kernel
theorem dX2_init_92 : decode cX2_init 92 = .ok (.aload_n 0, 1) := by decide +kernel
theorem dX2_init_93 : decode cX2_init 93 = .ok (.bipush 96, 2) := by decide +kernel
theorem dX2_init_95 : decode cX2_init 95 = .ok (.newarray .int, 2) := by decide +kernel
theorem dX2_init_97 : decode cX2_init 97 = .ok (.putfield 43, 3) := by decide +kernel
theorem dX2_init_100 : decode cX2_init 100 = .ok (.aload_n 0, 1) := by decide +kernel
theorem dX2_init_101 : decode cX2_init 101 = .ok (.bipush 48, 2) := by decide +kernel
theorem dX2_init_103 : decode cX2_init 103 = .ok (.newarray .int, 2) := by decide +kernel
theorem dX2_init_105 : decode cX2_init 105 = .ok (.putfield 46, 3) := by decide +kernel
theorem dX2_init_108 : decode cX2_init 108 = .ok (.aload_n 0, 1) := by decide +kernel
theorem dX2_init_109 : decode cX2_init 109 = .ok (.bipush 48, 2) := by decide +kernel
theorem dX2_init_111 : decode cX2_init 111 = .ok (.newarray .int, 2) := by decide +kernel
theorem dX2_init_113 : decode cX2_init 113 = .ok (.putfield 49, 3) := by decide +kernel
theorem dX2_init_116 : decode cX2_init 116 = .ok (.aload_n 0, 1) := by decide +kernel
theorem dX2_init_117 : decode cX2_init 117 = .ok (.sipush 144, 3) := by decide +kernel
theorem dX2_init_120 : decode cX2_init 120 = .ok (.newarray .int, 2) := by decide +kernel
theorem dX2_init_122 : decode cX2_init 122 = .ok (.putfield 52, 3) := by decide +kernel
theorem dX2_init_125 : decode cX2_init 125 = .ok (.aload_n 0, 1) := by decide +kernel
theorem dX2_init_126 : decode cX2_init 126 = .ok (.sipush 225, 3) := by decide +kernel
theorem dX2_init_129 : decode cX2_init 129 = .ok (.newarray .int, 2) := by decide +kernel
theorem dX2_init_131 : decode cX2_init 131 = .ok (.putfield 55, 3) := by decide +kernel
theorem dX2_init_134 : decode cX2_init 134 = .ok (.aload_n 0, 1) := by decide +kernel
theorem dX2_init_135 : decode cX2_init 135 = .ok (.bipush 6, 2) := by decide +kernel
theorem dX2_init_137 : decode cX2_init 137 = .ok (.newarray .int, 2) := by decide +kernel
theorem dX2_init_139 : decode cX2_init 139 = .ok (.putfield 58, 3) := by decide +kernel
theorem dX2_init_142 : decode cX2_init 142 = .ok (.aload_n 0, 1) := by decide +kernel
theorem dX2_init_143 : decode cX2_init 143 = .ok (.bipush 8, 2) := by decide +kernel
theorem dX2_init_145 : decode cX2_init 145 = .ok (.newarray .int, 2) := by decide +kernel
theorem dX2_init_147 : decode cX2_init 147 = .ok (.putfield 61, 3) := by decide +kernel
theorem dX2_init_150 : decode cX2_init 150 = .ok (.aload_n 0, 1) := by decide +kernel
theorem dX2_init_151 : decode cX2_init 151 = .ok (.bipush 16, 2) := by decide +kernel
theorem dX2_init_153 : decode cX2_init 153 = .ok (.newarray .int, 2) := by decide +kernel
theorem dX2_init_155 : decode cX2_init 155 = .ok (.putfield 64, 3) := by decide +kernel
theorem dX2_init_158 : decode cX2_init 158 = .ok (.aload_n 0, 1) := by decide +kernel
theorem dX2_init_159 : decode cX2_init 159 = .ok (.iconst 0, 1) := by decide +kernel
theorem dX2_init_160 : decode cX2_init 160 = .ok (.putfield 67, 3) := by decide +kernel
theorem dX2_init_163 : decode cX2_init 163 = .ok (.return_, 1) := by decide +kernel
theorem dX2_no_0 : decode cX2_no 0 = .ok (.aload_n 0, 1) := by decide +kernel
theorem dX2_no_1 : decode cX2_no 1 = .ok (.getfield 7, 3) := by decide +kernel
theorem dX2_no_4 : decode cX2_no 4 = .ok (.iload_n 1, 1) := by decide +kernel
theorem dX2_no_5 : decode cX2_no 5 = .ok (.ineg, 1) := by decide +kernel
theorem dX2_no_6 : decode cX2_no 6 = .ok (.dup2, 1) := by decide +kernel
theorem dX2_no_7 : decode cX2_no 7 = .ok (.iaload, 1) := by decide +kernel
theorem dX2_no_8 : decode cX2_no 8 = .ok (.iconst 1, 1) := by decide +kernel
theorem dX2_no_9 : decode cX2_no 9 = .ok (.iadd, 1) := by decide +kernel
theorem dX2_no_10 : decode cX2_no 10 = .ok (.iastore, 1) := by decide +kernel
theorem dX2_no_11 : decode cX2_no 11 = .ok (.iload_n 1, 1) := by decide +kernel
theorem dX2_no_12 : decode cX2_no 12 = .ok (.ireturn, 1) := by decide +kernel
theorem dX2_lowestOf_0 : decode cX2_lowestOf 0 = .ok (.aload_n 0, 1) := by decide +kernel
theorem dX2_lowestOf_1 : decode cX2_lowestOf 1 = .ok (.getfield 7, 3) := by decide +kernel
theorem dX2_lowestOf_4 : decode cX2_lowestOf 4 = .ok (.iload_n 1, 1) := by decide +kernel
theorem dX2_lowestOf_5 : decode cX2_lowestOf 5 = .ok (.ineg, 1) := by decide +kernel
theorem dX2_lowestOf_6 : decode cX2_lowestOf 6 = .ok (.dup2, 1) := by decide +kernel
theorem dX2_lowestOf_7 : decode cX2_lowestOf 7 = .ok (.iaload, 1) := by decide +kernel
theorem dX2_lowestOf_8 : decode cX2_lowestOf 8 = .ok (.iconst 1, 1) := by decide +kernel
theorem dX2_lowestOf_9 : decode cX2_lowestOf 9 = .ok (.iadd, 1) := by decide +kernel
theorem dX2_lowestOf_10 : decode cX2_lowestOf 10 = .ok (.iastore, 1) := by decide +kernel
theorem dX2_lowestOf_11 : decode cX2_lowestOf 11 = .ok (.ldc2_w 71, 3) := by decide +kernel
theorem dX2_lowestOf_14 : decode cX2_lowestOf 14 = .ok (.iload_n 1, 1) := by decide +kernel
theorem dX2_lowestOf_15 : decode cX2_lowestOf 15 = .ok (.i2l, 1) := by decide +kernel
theorem dX2_lowestOf_16 : decode cX2_lowestOf 16 = .ok (.lsub, 1) := by decide +kernel
theorem dX2_lowestOf_17 : decode cX2_lowestOf 17 = .ok (.lreturn, 1) := by decide +kernel
theorem dX2_isIn_0 : decode cX2_isIn 0 = .ok (.iload_n 0, 1) := by decide +kernel
theorem dX2_isIn_1 : decode cX2_isIn 1 = .ok (.iload_n 1, 1) := by decide +kernel
theorem dX2_isIn_2 : decode cX2_isIn 2 = .ok (.if_icmp .lt 12, 3) := by decide +kernel
theorem dX2_isIn_5 : decode cX2_isIn 5 = .ok (.iload_n 0, 1) := by decide +kernel
theorem dX2_isIn_6 : decode cX2_isIn 6 = .ok (.iload_n 2, 1) := by decide +kernel
theorem dX2_isIn_7 : decode cX2_isIn 7 = .ok (.if_icmp .gt 7, 3) := by decide +kernel
theorem dX2_isIn_10 : decode cX2_isIn 10 = .ok (.iconst 1, 1) := by decide +kernel
theorem dX2_isIn_11 : decode cX2_isIn 11 = .ok (.goto 4, 3) := by decide +kernel
theorem dX2_isIn_14 : decode cX2_isIn 14 = .ok (.iconst 0, 1) := by decide +kernel
theorem dX2_isIn_15 : decode cX2_isIn 15 = .ok (.ireturn, 1) := by decide +kernel
theorem dX2_bound_0 : decode cX2_bound 0 = .ok (.iload_n 0, 1) := by decide +kernel
theorem dX2_bound_1 : decode cX2_bound 1 = .ok (.iload_n 1, 1) := by decide +kernel
theorem dX2_bound_2 : decode cX2_bound 2 = .ok (.if_icmp .ge 8, 3) := by decide +kernel
theorem dX2_bound_5 : decode cX2_bound 5 = .ok (.bipush (-4), 2) := by decide +kernel
theorem dX2_bound_7 : decode cX2_bound 7 = .ok (.goto 14, 3) := by decide +kernel
theorem dX2_bound_10 : decode cX2_bound 10 = .ok (.iload_n 0, 1) := by decide +kernel
theorem dX2_bound_11 : decode cX2_bound 11 = .ok (.iload_n 2, 1) := by decide +kernel
theorem dX2_bound_12 : decode cX2_bound 12 = .ok (.if_icmp .le 8, 3) := by decide +kernel
theorem dX2_bound_15 : decode cX2_bound 15 = .ok (.bipush (-6), 2) := by decide +kernel
theorem dX2_bound_17 : decode cX2_bound 17 = .ok (.goto 4, 3) := by decide +kernel
theorem dX2_bound_20 : decode cX2_bound 20 = .ok (.iconst 0, 1) := by decide +kernel
theorem dX2_bound_21 : decode cX2_bound 21 = .ok (.ireturn, 1) := by decide +kernel
theorem dX2_held_0 : decode cX2_held 0 = .ok (.iload_n 0, 1) := by decide +kernel
theorem dX2_held_1 : decode cX2_held 1 = .ok (.ifCond .ge 7, 3) := by decide +kernel
theorem dX2_held_4 : decode cX2_held 4 = .ok (.iconst 0, 1) := by decide +kernel
theorem dX2_held_5 : decode cX2_held 5 = .ok (.goto 13, 3) := by decide +kernel
theorem dX2_held_8 : decode cX2_held 8 = .ok (.iload_n 0, 1) := by decide +kernel
theorem dX2_held_9 : decode cX2_held 9 = .ok (.iload_n 1, 1) := by decide +kernel
theorem dX2_held_10 : decode cX2_held 10 = .ok (.if_icmp .le 7, 3) := by decide +kernel
theorem dX2_held_13 : decode cX2_held 13 = .ok (.iload_n 1, 1) := by decide +kernel
theorem dX2_held_14 : decode cX2_held 14 = .ok (.goto 4, 3) := by decide +kernel
theorem dX2_held_17 : decode cX2_held 17 = .ok (.iload_n 0, 1) := by decide +kernel
theorem dX2_held_18 : decode cX2_held 18 = .ok (.ireturn, 1) := by decide +kernel
theorem dX2_has_0 : decode cX2_has 0 = .ok (.iload_n 0, 1) := by decide +kernel
theorem dX2_has_1 : decode cX2_has 1 = .ok (.iload_n 1, 1) := by decide +kernel
theorem dX2_has_2 : decode cX2_has 2 = .ok (.ishr, 1) := by decide +kernel
theorem dX2_has_3 : decode cX2_has 3 = .ok (.iconst 1, 1) := by decide +kernel
theorem dX2_has_4 : decode cX2_has 4 = .ok (.iand, 1) := by decide +kernel
theorem dX2_has_5 : decode cX2_has 5 = .ok (.iconst 1, 1) := by decide +kernel
theorem dX2_has_6 : decode cX2_has 6 = .ok (.if_icmp .ne 7, 3) := by decide +kernel
theorem dX2_has_9 : decode cX2_has 9 = .ok (.iconst 1, 1) := by decide +kernel
theorem dX2_has_10 : decode cX2_has 10 = .ok (.goto 4, 3) := by decide +kernel
theorem dX2_has_13 : decode cX2_has 13 = .ok (.iconst 0, 1) := by decide +kernel
theorem dX2_has_14 : decode cX2_has 14 = .ok (.ireturn, 1) := by decide +kernel
theorem dX2_bits_0 : decode cX2_bits 0 = .ok (.iconst 0, 1) := by decide +kernel
theorem dX2_bits_1 : decode cX2_bits 1 = .ok (.istore_n 1, 1) := by decide +kernel
theorem dX2_bits_2 : decode cX2_bits 2 = .ok (.iconst 0, 1) := by decide +kernel
theorem dX2_bits_3 : decode cX2_bits 3 = .ok (.istore_n 2, 1) := by decide +kernel
theorem dX2_bits_4 : decode cX2_bits 4 = .ok (.iload_n 2, 1) := by decide +kernel
theorem dX2_bits_5 : decode cX2_bits 5 = .ok (.bipush 31, 2) := by decide +kernel
theorem dX2_bits_7 : decode cX2_bits 7 = .ok (.if_icmp .ge 17, 3) := by decide +kernel
theorem dX2_bits_10 : decode cX2_bits 10 = .ok (.iload_n 1, 1) := by decide +kernel
theorem dX2_bits_11 : decode cX2_bits 11 = .ok (.iload_n 0, 1) := by decide +kernel
theorem dX2_bits_12 : decode cX2_bits 12 = .ok (.iload_n 2, 1) := by decide +kernel
theorem dX2_bits_13 : decode cX2_bits 13 = .ok (.ishr, 1) := by decide +kernel
theorem dX2_bits_14 : decode cX2_bits 14 = .ok (.iconst 1, 1) := by decide +kernel
theorem dX2_bits_15 : decode cX2_bits 15 = .ok (.iand, 1) := by decide +kernel
theorem dX2_bits_16 : decode cX2_bits 16 = .ok (.iadd, 1) := by decide +kernel
theorem dX2_bits_17 : decode cX2_bits 17 = .ok (.istore_n 1, 1) := by decide +kernel
theorem dX2_bits_18 : decode cX2_bits 18 = .ok (.iinc 2 1, 3) := by decide +kernel
theorem dX2_bits_21 : decode cX2_bits 21 = .ok (.goto (-17), 3) := by decide +kernel
theorem dX2_bits_24 : decode cX2_bits 24 = .ok (.iload_n 1, 1) := by decide +kernel
theorem dX2_bits_25 : decode cX2_bits 25 = .ok (.ireturn, 1) := by decide +kernel
theorem dX2_isCard_0 : decode cX2_isCard 0 = .ok (.iload_n 1, 1) := by decide +kernel
theorem dX2_isCard_1 : decode cX2_isCard 1 = .ok (.ifCond .lt 15, 3) := by decide +kernel
theorem dX2_isCard_4 : decode cX2_isCard 4 = .ok (.iload_n 1, 1) := by decide +kernel
theorem dX2_isCard_5 : decode cX2_isCard 5 = .ok (.aload_n 0, 1) := by decide +kernel
theorem dX2_isCard_6 : decode cX2_isCard 6 = .ok (.getfield 67, 3) := by decide +kernel
theorem dX2_isCard_9 : decode cX2_isCard 9 = .ok (.if_icmp .ge 7, 3) := by decide +kernel
theorem dX2_isCard_12 : decode cX2_isCard 12 = .ok (.iconst 1, 1) := by decide +kernel
theorem dX2_isCard_13 : decode cX2_isCard 13 = .ok (.goto 4, 3) := by decide +kernel
theorem dX2_isCard_16 : decode cX2_isCard 16 = .ok (.iconst 0, 1) := by decide +kernel
theorem dX2_isCard_17 : decode cX2_isCard 17 = .ok (.ireturn, 1) := by decide +kernel
theorem dX2_isBidder_0 : decode cX2_isBidder 0 = .ok (.iload_n 1, 1) := by decide +kernel
theorem dX2_isBidder_1 : decode cX2_isBidder 1 = .ok (.ifCond .lt 15, 3) := by decide +kernel
theorem dX2_isBidder_4 : decode cX2_isBidder 4 = .ok (.iload_n 1, 1) := by decide +kernel
theorem dX2_isBidder_5 : decode cX2_isBidder 5 = .ok (.aload_n 0, 1) := by decide +kernel
theorem dX2_isBidder_6 : decode cX2_isBidder 6 = .ok (.getfield 73, 3) := by decide +kernel
theorem dX2_isBidder_9 : decode cX2_isBidder 9 = .ok (.if_icmp .ge 7, 3) := by decide +kernel
theorem dX2_isBidder_12 : decode cX2_isBidder 12 = .ok (.iconst 1, 1) := by decide +kernel
theorem dX2_isBidder_13 : decode cX2_isBidder 13 = .ok (.goto 4, 3) := by decide +kernel
theorem dX2_isBidder_16 : decode cX2_isBidder 16 = .ok (.iconst 0, 1) := by decide +kernel
theorem dX2_isBidder_17 : decode cX2_isBidder 17 = .ok (.ireturn, 1) := by decide +kernel
set_option maxRecDepth 20000 in
theorem ggX2_letter_X2_bound : GoodIn wsX2_letter wsX2_bound := goodIn_r _ [6] (by decide +kernel) (by decide +kernel)
set_option maxRecDepth 20000 in
theorem gX2_letter_X2_bound : GoodIn wsX2_letter (va_wsS RX2 76 yX2_bound wsX2_bound) := goodIn_app (goodIn_of _ (by decide +kernel)) ggX2_letter_X2_bound
set_option maxRecDepth 20000 in
theorem ggX2_letter_X2_no : GoodIn wsX2_letter wsX2_no := goodIn_r _ [10, 11, 12, 13, 14, 15, 16, 17, 18, 19, 20, 21, 22, 23, 24, 25, 26, 27, 28, 29, 30, 31, 32, 33, 34, 35, 36, 37, 38, 39, 40, 41, 42] (by decide +kernel) (by decide +kernel)
set_option maxRecDepth 20000 in
theorem gX2_letter_X2_no : GoodIn wsX2_letter (wsV RX2 83 RX2 yX2_no wsX2_no) := goodIn_app (goodIn_of _ (by decide +kernel)) ggX2_letter_X2_no
theorem dX2_letter_0 : decode cX2_letter 0 = .ok (.iload_n 1, 1) := by decide +kernel
theorem dX2_letter_1 : decode cX2_letter 1 = .ok (.iconst 0, 1) := by decide +kernel
theorem dX2_letter_2 : decode cX2_letter 2 = .ok (.sipush 255, 3) := by decide +kernel
theorem dX2_letter_5 : decode cX2_letter 5 = .ok (.invokestatic 76, 3) := by decide +kernel
theorem dX2_letter_8 : decode cX2_letter 8 = .ok (.istore_n 2, 1) := by decide +kernel
theorem dX2_letter_9 : decode cX2_letter 9 = .ok (.iload_n 2, 1) := by decide +kernel
theorem dX2_letter_10 : decode cX2_letter 10 = .ok (.ifCond .ne 15, 3) := by decide +kernel
theorem dX2_letter_13 : decode cX2_letter 13 = .ok (.aload_n 0, 1) := by decide +kernel
theorem dX2_letter_14 : decode cX2_letter 14 = .ok (.getfield 80, 3) := by decide +kernel
theorem dX2_letter_17 : decode cX2_letter 17 = .ok (.bipush 96, 2) := by decide +kernel
theorem dX2_letter_19 : decode cX2_letter 19 = .ok (.if_icmp .ne 6, 3) := by decide +kernel
theorem dX2_letter_22 : decode cX2_letter 22 = .ok (.bipush (-6), 2) := by decide +kernel
theorem dX2_letter_24 : decode cX2_letter 24 = .ok (.istore_n 2, 1) := by decide +kernel
theorem dX2_letter_25 : decode cX2_letter 25 = .ok (.iload_n 2, 1) := by decide +kernel
theorem dX2_letter_26 : decode cX2_letter 26 = .ok (.ifCond .eq 9, 3) := by decide +kernel
theorem dX2_letter_29 : decode cX2_letter 29 = .ok (.aload_n 0, 1) := by decide +kernel
theorem dX2_letter_30 : decode cX2_letter 30 = .ok (.iload_n 2, 1) := by decide +kernel
theorem dX2_letter_31 : decode cX2_letter 31 = .ok (.invokevirtual 83, 3) := by decide +kernel
theorem dX2_letter_34 : decode cX2_letter 34 = .ok (.ireturn, 1) := by decide +kernel
theorem dX2_letter_35 : decode cX2_letter 35 = .ok (.aload_n 0, 1) := by decide +kernel
theorem dX2_letter_36 : decode cX2_letter 36 = .ok (.getfield 43, 3) := by decide +kernel
theorem dX2_letter_39 : decode cX2_letter 39 = .ok (.aload_n 0, 1) := by decide +kernel
theorem dX2_letter_40 : decode cX2_letter 40 = .ok (.getfield 80, 3) := by decide +kernel
theorem dX2_letter_43 : decode cX2_letter 43 = .ok (.iload_n 1, 1) := by decide +kernel
theorem dX2_letter_44 : decode cX2_letter 44 = .ok (.iastore, 1) := by decide +kernel
theorem dX2_letter_45 : decode cX2_letter 45 = .ok (.aload_n 0, 1) := by decide +kernel
theorem dX2_letter_46 : decode cX2_letter 46 = .ok (.dup, 1) := by decide +kernel
theorem dX2_letter_47 : decode cX2_letter 47 = .ok (.getfield 80, 3) := by decide +kernel
theorem dX2_letter_50 : decode cX2_letter 50 = .ok (.iconst 1, 1) := by decide +kernel
theorem dX2_letter_51 : decode cX2_letter 51 = .ok (.iadd, 1) := by decide +kernel
theorem dX2_letter_52 : decode cX2_letter 52 = .ok (.putfield 80, 3) := by decide +kernel
theorem dX2_letter_55 : decode cX2_letter 55 = .ok (.aload_n 0, 1) := by decide +kernel
theorem dX2_letter_56 : decode cX2_letter 56 = .ok (.getfield 80, 3) := by decide +kernel
theorem dX2_letter_59 : decode cX2_letter 59 = .ok (.ireturn, 1) := by decide +kernel
theorem dX2_letterNow_0 : decode cX2_letterNow 0 = .ok (.aload_n 0, 1) := by decide +kernel
theorem dX2_letterNow_1 : decode cX2_letterNow 1 = .ok (.getfield 87, 3) := by decide +kernel
theorem dX2_letterNow_4 : decode cX2_letterNow 4 = .ok (.aload_n 0, 1) := by decide +kernel
theorem dX2_letterNow_5 : decode cX2_letterNow 5 = .ok (.getfield 80, 3) := by decide +kernel
theorem dX2_letterNow_8 : decode cX2_letterNow 8 = .ok (.if_icmp .ge 15, 3) := by decide +kernel
theorem dX2_letterNow_11 : decode cX2_letterNow 11 = .ok (.aload_n 0, 1) := by decide +kernel
theorem dX2_letterNow_12 : decode cX2_letterNow 12 = .ok (.getfield 43, 3) := by decide +kernel
theorem dX2_letterNow_15 : decode cX2_letterNow 15 = .ok (.aload_n 0, 1) := by decide +kernel
theorem dX2_letterNow_16 : decode cX2_letterNow 16 = .ok (.getfield 87, 3) := by decide +kernel
theorem dX2_letterNow_19 : decode cX2_letterNow 19 = .ok (.iaload, 1) := by decide +kernel
theorem dX2_letterNow_20 : decode cX2_letterNow 20 = .ok (.goto 4, 3) := by decide +kernel
theorem dX2_letterNow_23 : decode cX2_letterNow 23 = .ok (.iconst (-1), 1) := by decide +kernel
theorem dX2_letterNow_24 : decode cX2_letterNow 24 = .ok (.ireturn, 1) := by decide +kernel
set_option maxRecDepth 20000 in
theorem ggX2_readsDigits_X2_letterNow : GoodIn wsX2_readsDigits wsX2_letterNow := goodIn_r _ [7, 1, 8, 9, 13, 14, 15, 16, 17, 18, 19, 20, 21, 22, 23, 24, 25, 26, 27, 28, 29, 30, 31, 32, 33, 34, 35, 36, 37, 38, 39, 40, 41, 42, 43] (by decide +kernel) (by decide +kernel)
set_option maxRecDepth 20000 in
theorem gX2_readsDigits_X2_letterNow : GoodIn wsX2_readsDigits (wsV RX2 90 RX2 yX2_letterNow wsX2_letterNow) := goodIn_app (goodIn_of _ (by decide +kernel)) ggX2_readsDigits_X2_letterNow
set_option maxRecDepth 20000 in
theorem ggX2_readsDigits_X2_isIn : GoodIn wsX2_readsDigits wsX2_isIn := goodIn_r _ [12] (by decide +kernel) (by decide +kernel)
set_option maxRecDepth 20000 in
theorem gX2_readsDigits_X2_isIn : GoodIn wsX2_readsDigits (va_wsS RX2 94 yX2_isIn wsX2_isIn) := goodIn_app (goodIn_of _ (by decide +kernel)) ggX2_readsDigits_X2_isIn
theorem dX2_readsDigits_0 : decode cX2_readsDigits 0 = .ok (.iconst 0, 1) := by decide +kernel
theorem dX2_readsDigits_1 : decode cX2_readsDigits 1 = .ok (.istore_n 3, 1) := by decide +kernel
theorem dX2_readsDigits_2 : decode cX2_readsDigits 2 = .ok (.iconst 0, 1) := by decide +kernel
theorem dX2_readsDigits_3 : decode cX2_readsDigits 3 = .ok (.istore 4, 2) := by decide +kernel
theorem dX2_readsDigits_5 : decode cX2_readsDigits 5 = .ok (.iload 4, 2) := by decide +kernel
theorem dX2_readsDigits_7 : decode cX2_readsDigits 7 = .ok (.iload_n 2, 1) := by decide +kernel
theorem dX2_readsDigits_8 : decode cX2_readsDigits 8 = .ok (.if_icmp .ge 48, 3) := by decide +kernel
theorem dX2_readsDigits_11 : decode cX2_readsDigits 11 = .ok (.aload_n 0, 1) := by decide +kernel
theorem dX2_readsDigits_12 : decode cX2_readsDigits 12 = .ok (.invokevirtual 90, 3) := by decide +kernel
theorem dX2_readsDigits_15 : decode cX2_readsDigits 15 = .ok (.bipush 48, 2) := by decide +kernel
theorem dX2_readsDigits_17 : decode cX2_readsDigits 17 = .ok (.bipush 57, 2) := by decide +kernel
theorem dX2_readsDigits_19 : decode cX2_readsDigits 19 = .ok (.invokestatic 94, 3) := by decide +kernel
theorem dX2_readsDigits_22 : decode cX2_readsDigits 22 = .ok (.ifCond .ne 5, 3) := by decide +kernel
theorem dX2_readsDigits_25 : decode cX2_readsDigits 25 = .ok (.iconst 0, 1) := by decide +kernel
theorem dX2_readsDigits_26 : decode cX2_readsDigits 26 = .ok (.ireturn, 1) := by decide +kernel
theorem dX2_readsDigits_27 : decode cX2_readsDigits 27 = .ok (.bipush 10, 2) := by decide +kernel
theorem dX2_readsDigits_29 : decode cX2_readsDigits 29 = .ok (.iload_n 3, 1) := by decide +kernel
theorem dX2_readsDigits_30 : decode cX2_readsDigits 30 = .ok (.imul, 1) := by decide +kernel
theorem dX2_readsDigits_31 : decode cX2_readsDigits 31 = .ok (.aload_n 0, 1) := by decide +kernel
theorem dX2_readsDigits_32 : decode cX2_readsDigits 32 = .ok (.invokevirtual 90, 3) := by decide +kernel
theorem dX2_readsDigits_35 : decode cX2_readsDigits 35 = .ok (.iadd, 1) := by decide +kernel
theorem dX2_readsDigits_36 : decode cX2_readsDigits 36 = .ok (.bipush 48, 2) := by decide +kernel
theorem dX2_readsDigits_38 : decode cX2_readsDigits 38 = .ok (.isub, 1) := by decide +kernel
theorem dX2_readsDigits_39 : decode cX2_readsDigits 39 = .ok (.istore_n 3, 1) := by decide +kernel
theorem dX2_readsDigits_40 : decode cX2_readsDigits 40 = .ok (.aload_n 0, 1) := by decide +kernel
theorem dX2_readsDigits_41 : decode cX2_readsDigits 41 = .ok (.dup, 1) := by decide +kernel
theorem dX2_readsDigits_42 : decode cX2_readsDigits 42 = .ok (.getfield 87, 3) := by decide +kernel
theorem dX2_readsDigits_45 : decode cX2_readsDigits 45 = .ok (.iconst 1, 1) := by decide +kernel
theorem dX2_readsDigits_46 : decode cX2_readsDigits 46 = .ok (.iadd, 1) := by decide +kernel
theorem dX2_readsDigits_47 : decode cX2_readsDigits 47 = .ok (.putfield 87, 3) := by decide +kernel
theorem dX2_readsDigits_50 : decode cX2_readsDigits 50 = .ok (.iinc 4 1, 3) := by decide +kernel
theorem dX2_readsDigits_53 : decode cX2_readsDigits 53 = .ok (.goto (-48), 3) := by decide +kernel
theorem dX2_readsDigits_56 : decode cX2_readsDigits 56 = .ok (.aload_n 0, 1) := by decide +kernel
theorem dX2_readsDigits_57 : decode cX2_readsDigits 57 = .ok (.getfield 52, 3) := by decide +kernel
theorem dX2_readsDigits_60 : decode cX2_readsDigits 60 = .ok (.iload_n 1, 1) := by decide +kernel
theorem dX2_readsDigits_61 : decode cX2_readsDigits 61 = .ok (.iload_n 3, 1) := by decide +kernel
theorem dX2_readsDigits_62 : decode cX2_readsDigits 62 = .ok (.iastore, 1) := by decide +kernel
theorem dX2_readsDigits_63 : decode cX2_readsDigits 63 = .ok (.iconst 1, 1) := by decide +kernel
theorem dX2_readsDigits_64 : decode cX2_readsDigits 64 = .ok (.ireturn, 1) := by decide +kernel
theorem dX2_cardKind_0 : decode cX2_cardKind 0 = .ok (.iload_n 0, 1) := by decide +kernel
theorem dX2_cardKind_1 : decode cX2_cardKind 1 = .ok (.bipush 108, 2) := by decide +kernel
theorem dX2_cardKind_3 : decode cX2_cardKind 3 = .ok (.if_icmp .ne 7, 3) := by decide +kernel
theorem dX2_cardKind_6 : decode cX2_cardKind 6 = .ok (.iconst 0, 1) := by decide +kernel
theorem dX2_cardKind_7 : decode cX2_cardKind 7 = .ok (.goto 54, 3) := by decide +kernel
theorem dX2_cardKind_10 : decode cX2_cardKind 10 = .ok (.iload_n 0, 1) := by decide +kernel
theorem dX2_cardKind_11 : decode cX2_cardKind 11 = .ok (.bipush 107, 2) := by decide +kernel
theorem dX2_cardKind_13 : decode cX2_cardKind 13 = .ok (.if_icmp .ne 7, 3) := by decide +kernel
theorem dX2_cardKind_16 : decode cX2_cardKind 16 = .ok (.iconst 1, 1) := by decide +kernel
theorem dX2_cardKind_17 : decode cX2_cardKind 17 = .ok (.goto 44, 3) := by decide +kernel
theorem dX2_cardKind_20 : decode cX2_cardKind 20 = .ok (.iload_n 0, 1) := by decide +kernel
theorem dX2_cardKind_21 : decode cX2_cardKind 21 = .ok (.bipush 103, 2) := by decide +kernel
theorem dX2_cardKind_23 : decode cX2_cardKind 23 = .ok (.if_icmp .ne 7, 3) := by decide +kernel
theorem dX2_cardKind_26 : decode cX2_cardKind 26 = .ok (.iconst 2, 1) := by decide +kernel
theorem dX2_cardKind_27 : decode cX2_cardKind 27 = .ok (.goto 34, 3) := by decide +kernel
theorem dX2_cardKind_30 : decode cX2_cardKind 30 = .ok (.iload_n 0, 1) := by decide +kernel
theorem dX2_cardKind_31 : decode cX2_cardKind 31 = .ok (.bipush 111, 2) := by decide +kernel
theorem dX2_cardKind_33 : decode cX2_cardKind 33 = .ok (.if_icmp .ne 7, 3) := by decide +kernel
theorem dX2_cardKind_36 : decode cX2_cardKind 36 = .ok (.iconst 3, 1) := by decide +kernel
theorem dX2_cardKind_37 : decode cX2_cardKind 37 = .ok (.goto 24, 3) := by decide +kernel
theorem dX2_cardKind_40 : decode cX2_cardKind 40 = .ok (.iload_n 0, 1) := by decide +kernel
theorem dX2_cardKind_41 : decode cX2_cardKind 41 = .ok (.bipush 119, 2) := by decide +kernel
theorem dX2_cardKind_43 : decode cX2_cardKind 43 = .ok (.if_icmp .ne 7, 3) := by decide +kernel
theorem dX2_cardKind_46 : decode cX2_cardKind 46 = .ok (.iconst 4, 1) := by decide +kernel
theorem dX2_cardKind_47 : decode cX2_cardKind 47 = .ok (.goto 14, 3) := by decide +kernel
theorem dX2_cardKind_50 : decode cX2_cardKind 50 = .ok (.iload_n 0, 1) := by decide +kernel
theorem dX2_cardKind_51 : decode cX2_cardKind 51 = .ok (.bipush 116, 2) := by decide +kernel
theorem dX2_cardKind_53 : decode cX2_cardKind 53 = .ok (.if_icmp .ne 7, 3) := by decide +kernel
theorem dX2_cardKind_56 : decode cX2_cardKind 56 = .ok (.iconst 5, 1) := by decide +kernel
theorem dX2_cardKind_57 : decode cX2_cardKind 57 = .ok (.goto 4, 3) := by decide +kernel
theorem dX2_cardKind_60 : decode cX2_cardKind 60 = .ok (.iconst (-1), 1) := by decide +kernel
theorem dX2_cardKind_61 : decode cX2_cardKind 61 = .ok (.ireturn, 1) := by decide +kernel
theorem dX2_bidderKind_0 : decode cX2_bidderKind 0 = .ok (.iload_n 0, 1) := by decide +kernel
theorem dX2_bidderKind_1 : decode cX2_bidderKind 1 = .ok (.bipush 98, 2) := by decide +kernel
theorem dX2_bidderKind_3 : decode cX2_bidderKind 3 = .ok (.if_icmp .ne 7, 3) := by decide +kernel
theorem dX2_bidderKind_6 : decode cX2_bidderKind 6 = .ok (.iconst 0, 1) := by decide +kernel
theorem dX2_bidderKind_7 : decode cX2_bidderKind 7 = .ok (.goto 54, 3) := by decide +kernel
theorem dX2_bidderKind_10 : decode cX2_bidderKind 10 = .ok (.iload_n 0, 1) := by decide +kernel
theorem dX2_bidderKind_11 : decode cX2_bidderKind 11 = .ok (.bipush 115, 2) := by decide +kernel
theorem dX2_bidderKind_13 : decode cX2_bidderKind 13 = .ok (.if_icmp .ne 7, 3) := by decide +kernel
theorem dX2_bidderKind_16 : decode cX2_bidderKind 16 = .ok (.iconst 1, 1) := by decide +kernel
theorem dX2_bidderKind_17 : decode cX2_bidderKind 17 = .ok (.goto 44, 3) := by decide +kernel
theorem dX2_bidderKind_20 : decode cX2_bidderKind 20 = .ok (.iload_n 0, 1) := by decide +kernel
theorem dX2_bidderKind_21 : decode cX2_bidderKind 21 = .ok (.bipush 101, 2) := by decide +kernel
theorem dX2_bidderKind_23 : decode cX2_bidderKind 23 = .ok (.if_icmp .ne 7, 3) := by decide +kernel
theorem dX2_bidderKind_26 : decode cX2_bidderKind 26 = .ok (.iconst 2, 1) := by decide +kernel
theorem dX2_bidderKind_27 : decode cX2_bidderKind 27 = .ok (.goto 34, 3) := by decide +kernel
theorem dX2_bidderKind_30 : decode cX2_bidderKind 30 = .ok (.iload_n 0, 1) := by decide +kernel
theorem dX2_bidderKind_31 : decode cX2_bidderKind 31 = .ok (.bipush 114, 2) := by decide +kernel
theorem dX2_bidderKind_33 : decode cX2_bidderKind 33 = .ok (.if_icmp .ne 7, 3) := by decide +kernel
theorem dX2_bidderKind_36 : decode cX2_bidderKind 36 = .ok (.iconst 3, 1) := by decide +kernel
theorem dX2_bidderKind_37 : decode cX2_bidderKind 37 = .ok (.goto 24, 3) := by decide +kernel
theorem dX2_bidderKind_40 : decode cX2_bidderKind 40 = .ok (.iload_n 0, 1) := by decide +kernel
theorem dX2_bidderKind_41 : decode cX2_bidderKind 41 = .ok (.bipush 104, 2) := by decide +kernel
theorem dX2_bidderKind_43 : decode cX2_bidderKind 43 = .ok (.if_icmp .ne 7, 3) := by decide +kernel
theorem dX2_bidderKind_46 : decode cX2_bidderKind 46 = .ok (.iconst 4, 1) := by decide +kernel
theorem dX2_bidderKind_47 : decode cX2_bidderKind 47 = .ok (.goto 14, 3) := by decide +kernel
theorem dX2_bidderKind_50 : decode cX2_bidderKind 50 = .ok (.iload_n 0, 1) := by decide +kernel
theorem dX2_bidderKind_51 : decode cX2_bidderKind 51 = .ok (.bipush 102, 2) := by decide +kernel
theorem dX2_bidderKind_53 : decode cX2_bidderKind 53 = .ok (.if_icmp .ne 7, 3) := by decide +kernel
theorem dX2_bidderKind_56 : decode cX2_bidderKind 56 = .ok (.iconst 5, 1) := by decide +kernel
theorem dX2_bidderKind_57 : decode cX2_bidderKind 57 = .ok (.goto 4, 3) := by decide +kernel
theorem dX2_bidderKind_60 : decode cX2_bidderKind 60 = .ok (.iconst (-1), 1) := by decide +kernel
theorem dX2_bidderKind_61 : decode cX2_bidderKind 61 = .ok (.ireturn, 1) := by decide +kernel
set_option maxRecDepth 20000 in
theorem ggX2_readsThing_X2_letterNow : GoodIn wsX2_readsThing wsX2_letterNow := goodIn_r _ [7, 2, 8, 9, 23, 24, 25, 26, 27, 28, 29, 30, 31, 32, 33, 34, 35, 36, 37, 38, 39, 40, 41, 42, 43, 44, 45, 46, 47, 48, 49, 50, 51, 52, 53] (by decide +kernel) (by decide +kernel)
set_option maxRecDepth 20000 in
theorem gX2_readsThing_X2_letterNow : GoodIn wsX2_readsThing (wsV RX2 90 RX2 yX2_letterNow wsX2_letterNow) := goodIn_app (goodIn_of _ (by decide +kernel)) ggX2_readsThing_X2_letterNow
set_option maxRecDepth 20000 in
theorem ggX2_readsThing_X2_cardKind : GoodIn wsX2_readsThing wsX2_cardKind := goodIn_r _ [12] (by decide +kernel) (by decide +kernel)
set_option maxRecDepth 20000 in
theorem gX2_readsThing_X2_cardKind : GoodIn wsX2_readsThing (va_wsS RX2 98 yX2_cardKind wsX2_cardKind) := goodIn_app (goodIn_of _ (by decide +kernel)) ggX2_readsThing_X2_cardKind
set_option maxRecDepth 20000 in
theorem ggX2_readsThing_X2_bidderKind : GoodIn wsX2_readsThing wsX2_bidderKind := goodIn_r _ [15] (by decide +kernel) (by decide +kernel)
set_option maxRecDepth 20000 in
theorem gX2_readsThing_X2_bidderKind : GoodIn wsX2_readsThing (va_wsS RX2 101 yX2_bidderKind wsX2_bidderKind) := goodIn_app (goodIn_of _ (by decide +kernel)) ggX2_readsThing_X2_bidderKind
set_option maxRecDepth 20000 in
theorem ggX2_readsThing_X2_readsDigits : GoodIn wsX2_readsThing wsX2_readsDigits := goodIn_r _ [19, 2, 1, 3, 4, 5, 6, 7, 8, 9, 20, 21, 22, 23, 24, 25, 26, 27, 28, 29, 30, 31, 32, 33, 34, 35, 36, 37, 38, 39, 40, 41, 42, 43, 44, 45, 46, 47, 48, 49, 50, 51, 52, 53] (by decide +kernel) (by decide +kernel)
set_option maxRecDepth 20000 in
theorem gX2_readsThing_X2_readsDigits : GoodIn wsX2_readsThing (wsV RX2 104 RX2 yX2_readsDigits wsX2_readsDigits) := goodIn_app (goodIn_of _ (by decide +kernel)) ggX2_readsThing_X2_readsDigits
theorem dX2_readsThing_0 : decode cX2_readsThing 0 = .ok (.aload_n 0, 1) := by decide +kernel
theorem dX2_readsThing_1 : decode cX2_readsThing 1 = .ok (.getfield 52, 3) := by decide +kernel
theorem dX2_readsThing_4 : decode cX2_readsThing 4 = .ok (.iload_n 1, 1) := by decide +kernel
theorem dX2_readsThing_5 : decode cX2_readsThing 5 = .ok (.iload_n 2, 1) := by decide +kernel
theorem dX2_readsThing_6 : decode cX2_readsThing 6 = .ok (.ifCond .eq 13, 3) := by decide +kernel
theorem dX2_readsThing_9 : decode cX2_readsThing 9 = .ok (.aload_n 0, 1) := by decide +kernel
theorem dX2_readsThing_10 : decode cX2_readsThing 10 = .ok (.invokevirtual 90, 3) := by decide +kernel
theorem dX2_readsThing_13 : decode cX2_readsThing 13 = .ok (.invokestatic 98, 3) := by decide +kernel
theorem dX2_readsThing_16 : decode cX2_readsThing 16 = .ok (.goto 10, 3) := by decide +kernel
theorem dX2_readsThing_19 : decode cX2_readsThing 19 = .ok (.aload_n 0, 1) := by decide +kernel
theorem dX2_readsThing_20 : decode cX2_readsThing 20 = .ok (.invokevirtual 90, 3) := by decide +kernel
theorem dX2_readsThing_23 : decode cX2_readsThing 23 = .ok (.invokestatic 101, 3) := by decide +kernel
theorem dX2_readsThing_26 : decode cX2_readsThing 26 = .ok (.iastore, 1) := by decide +kernel
theorem dX2_readsThing_27 : decode cX2_readsThing 27 = .ok (.aload_n 0, 1) := by decide +kernel
theorem dX2_readsThing_28 : decode cX2_readsThing 28 = .ok (.getfield 52, 3) := by decide +kernel
theorem dX2_readsThing_31 : decode cX2_readsThing 31 = .ok (.iload_n 1, 1) := by decide +kernel
theorem dX2_readsThing_32 : decode cX2_readsThing 32 = .ok (.iaload, 1) := by decide +kernel
theorem dX2_readsThing_33 : decode cX2_readsThing 33 = .ok (.ifCond .ge 5, 3) := by decide +kernel
theorem dX2_readsThing_36 : decode cX2_readsThing 36 = .ok (.iconst 0, 1) := by decide +kernel
theorem dX2_readsThing_37 : decode cX2_readsThing 37 = .ok (.ireturn, 1) := by decide +kernel
theorem dX2_readsThing_38 : decode cX2_readsThing 38 = .ok (.aload_n 0, 1) := by decide +kernel
theorem dX2_readsThing_39 : decode cX2_readsThing 39 = .ok (.dup, 1) := by decide +kernel
theorem dX2_readsThing_40 : decode cX2_readsThing 40 = .ok (.getfield 87, 3) := by decide +kernel
theorem dX2_readsThing_43 : decode cX2_readsThing 43 = .ok (.iconst 1, 1) := by decide +kernel
theorem dX2_readsThing_44 : decode cX2_readsThing 44 = .ok (.iadd, 1) := by decide +kernel
theorem dX2_readsThing_45 : decode cX2_readsThing 45 = .ok (.putfield 87, 3) := by decide +kernel
theorem dX2_readsThing_48 : decode cX2_readsThing 48 = .ok (.aload_n 0, 1) := by decide +kernel
theorem dX2_readsThing_49 : decode cX2_readsThing 49 = .ok (.iload_n 1, 1) := by decide +kernel
theorem dX2_readsThing_50 : decode cX2_readsThing 50 = .ok (.iconst 1, 1) := by decide +kernel
theorem dX2_readsThing_51 : decode cX2_readsThing 51 = .ok (.iadd, 1) := by decide +kernel
theorem dX2_readsThing_52 : decode cX2_readsThing 52 = .ok (.iconst 1, 1) := by decide +kernel
theorem dX2_readsThing_53 : decode cX2_readsThing 53 = .ok (.invokevirtual 104, 3) := by decide +kernel
theorem dX2_readsThing_56 : decode cX2_readsThing 56 = .ok (.ifCond .eq 26, 3) := by decide +kernel
theorem dX2_readsThing_59 : decode cX2_readsThing 59 = .ok (.aload_n 0, 1) := by decide +kernel
theorem dX2_readsThing_60 : decode cX2_readsThing 60 = .ok (.iload_n 1, 1) := by decide +kernel
theorem dX2_readsThing_61 : decode cX2_readsThing 61 = .ok (.iconst 2, 1) := by decide +kernel
theorem dX2_readsThing_62 : decode cX2_readsThing 62 = .ok (.iadd, 1) := by decide +kernel
theorem dX2_readsThing_63 : decode cX2_readsThing 63 = .ok (.iload_n 2, 1) := by decide +kernel
theorem dX2_readsThing_64 : decode cX2_readsThing 64 = .ok (.ifCond .eq 7, 3) := by decide +kernel
theorem dX2_readsThing_67 : decode cX2_readsThing 67 = .ok (.iconst 1, 1) := by decide +kernel
theorem dX2_readsThing_68 : decode cX2_readsThing 68 = .ok (.goto 4, 3) := by decide +kernel
theorem dX2_readsThing_71 : decode cX2_readsThing 71 = .ok (.iconst 3, 1) := by decide +kernel
theorem dX2_readsThing_72 : decode cX2_readsThing 72 = .ok (.invokevirtual 104, 3) := by decide +kernel
theorem dX2_readsThing_75 : decode cX2_readsThing 75 = .ok (.ifCond .eq 7, 3) := by decide +kernel
theorem dX2_readsThing_78 : decode cX2_readsThing 78 = .ok (.iconst 1, 1) := by decide +kernel
theorem dX2_readsThing_79 : decode cX2_readsThing 79 = .ok (.goto 4, 3) := by decide +kernel
theorem dX2_readsThing_82 : decode cX2_readsThing 82 = .ok (.iconst 0, 1) := by decide +kernel
theorem dX2_readsThing_83 : decode cX2_readsThing 83 = .ok (.ireturn, 1) := by decide +kernel
set_option maxRecDepth 20000 in
theorem ggX2_readsAll_X2_readsThing : GoodIn wsX2_readsAll wsX2_readsThing := goodIn_r _ [5, 6, 7, 8, 9, 10, 4, 11, 12, 13, 14, 15, 16, 17, 18, 19, 20, 21, 22, 23, 24, 25, 26, 27, 28, 29, 30, 31, 32, 33, 34, 35, 36, 37, 38, 39, 40, 41, 42, 43, 44, 45, 46, 47, 48, 49, 50, 51, 52, 53, 54, 55, 56, 57] (by decide +kernel) (by decide +kernel)
set_option maxRecDepth 20000 in
theorem gX2_readsAll_X2_readsThing : GoodIn wsX2_readsAll (wsV RX2 108 RX2 yX2_readsThing wsX2_readsThing) := goodIn_app (goodIn_of _ (by decide +kernel)) ggX2_readsAll_X2_readsThing
set_option maxRecDepth 20000 in
theorem ggX2_readsAll_X2_readsDigits : GoodIn wsX2_readsAll wsX2_readsDigits := goodIn_r _ [23, 7, 6, 8, 9, 10, 4, 11, 12, 13, 24, 25, 26, 27, 28, 29, 30, 31, 32, 33, 34, 35, 36, 37, 38, 39, 40, 41, 42, 43, 44, 45, 46, 47, 48, 49, 50, 51, 52, 53, 54, 55, 56, 57] (by decide +kernel) (by decide +kernel)
set_option maxRecDepth 20000 in
theorem gX2_readsAll_X2_readsDigits : GoodIn wsX2_readsAll (wsV RX2 104 RX2 yX2_readsDigits wsX2_readsDigits) := goodIn_app (goodIn_of _ (by decide +kernel)) ggX2_readsAll_X2_readsDigits
theorem dX2_readsAll_0 : decode cX2_readsAll 0 = .ok (.iload_n 1, 1) := by decide +kernel
theorem dX2_readsAll_1 : decode cX2_readsAll 1 = .ok (.lookupswitch 135 #[(98, 59), (99, 59), (103, 102), (112, 76), (114, 128), (120, 102)], 59) := by decide +kernel
theorem dX2_readsAll_60 : decode cX2_readsAll 60 = .ok (.aload_n 0, 1) := by decide +kernel
theorem dX2_readsAll_61 : decode cX2_readsAll 61 = .ok (.iload_n 2, 1) := by decide +kernel
theorem dX2_readsAll_62 : decode cX2_readsAll 62 = .ok (.iload_n 1, 1) := by decide +kernel
theorem dX2_readsAll_63 : decode cX2_readsAll 63 = .ok (.bipush 99, 2) := by decide +kernel
theorem dX2_readsAll_65 : decode cX2_readsAll 65 = .ok (.if_icmp .ne 7, 3) := by decide +kernel
theorem dX2_readsAll_68 : decode cX2_readsAll 68 = .ok (.iconst 1, 1) := by decide +kernel
theorem dX2_readsAll_69 : decode cX2_readsAll 69 = .ok (.goto 4, 3) := by decide +kernel
theorem dX2_readsAll_72 : decode cX2_readsAll 72 = .ok (.iconst 0, 1) := by decide +kernel
theorem dX2_readsAll_73 : decode cX2_readsAll 73 = .ok (.invokevirtual 108, 3) := by decide +kernel
theorem dX2_readsAll_76 : decode cX2_readsAll 76 = .ok (.ireturn, 1) := by decide +kernel
theorem dX2_readsAll_77 : decode cX2_readsAll 77 = .ok (.aload_n 0, 1) := by decide +kernel
theorem dX2_readsAll_78 : decode cX2_readsAll 78 = .ok (.iload_n 2, 1) := by decide +kernel
theorem dX2_readsAll_79 : decode cX2_readsAll 79 = .ok (.iconst 1, 1) := by decide +kernel
theorem dX2_readsAll_80 : decode cX2_readsAll 80 = .ok (.invokevirtual 104, 3) := by decide +kernel
theorem dX2_readsAll_83 : decode cX2_readsAll 83 = .ok (.ifCond .eq 18, 3) := by decide +kernel
theorem dX2_readsAll_86 : decode cX2_readsAll 86 = .ok (.aload_n 0, 1) := by decide +kernel
theorem dX2_readsAll_87 : decode cX2_readsAll 87 = .ok (.iload_n 2, 1) := by decide +kernel
theorem dX2_readsAll_88 : decode cX2_readsAll 88 = .ok (.iconst 1, 1) := by decide +kernel
theorem dX2_readsAll_89 : decode cX2_readsAll 89 = .ok (.iadd, 1) := by decide +kernel
theorem dX2_readsAll_90 : decode cX2_readsAll 90 = .ok (.iconst 3, 1) := by decide +kernel
theorem dX2_readsAll_91 : decode cX2_readsAll 91 = .ok (.invokevirtual 104, 3) := by decide +kernel
theorem dX2_readsAll_94 : decode cX2_readsAll 94 = .ok (.ifCond .eq 7, 3) := by decide +kernel
theorem dX2_readsAll_97 : decode cX2_readsAll 97 = .ok (.iconst 1, 1) := by decide +kernel
theorem dX2_readsAll_98 : decode cX2_readsAll 98 = .ok (.goto 4, 3) := by decide +kernel
theorem dX2_readsAll_101 : decode cX2_readsAll 101 = .ok (.iconst 0, 1) := by decide +kernel
theorem dX2_readsAll_102 : decode cX2_readsAll 102 = .ok (.ireturn, 1) := by decide +kernel
theorem dX2_readsAll_103 : decode cX2_readsAll 103 = .ok (.aload_n 0, 1) := by decide +kernel
theorem dX2_readsAll_104 : decode cX2_readsAll 104 = .ok (.iload_n 2, 1) := by decide +kernel
theorem dX2_readsAll_105 : decode cX2_readsAll 105 = .ok (.iconst 1, 1) := by decide +kernel
theorem dX2_readsAll_106 : decode cX2_readsAll 106 = .ok (.invokevirtual 104, 3) := by decide +kernel
theorem dX2_readsAll_109 : decode cX2_readsAll 109 = .ok (.ifCond .eq 18, 3) := by decide +kernel
theorem dX2_readsAll_112 : decode cX2_readsAll 112 = .ok (.aload_n 0, 1) := by decide +kernel
theorem dX2_readsAll_113 : decode cX2_readsAll 113 = .ok (.iload_n 2, 1) := by decide +kernel
theorem dX2_readsAll_114 : decode cX2_readsAll 114 = .ok (.iconst 1, 1) := by decide +kernel
theorem dX2_readsAll_115 : decode cX2_readsAll 115 = .ok (.iadd, 1) := by decide +kernel
theorem dX2_readsAll_116 : decode cX2_readsAll 116 = .ok (.iconst 1, 1) := by decide +kernel
theorem dX2_readsAll_117 : decode cX2_readsAll 117 = .ok (.invokevirtual 104, 3) := by decide +kernel
theorem dX2_readsAll_120 : decode cX2_readsAll 120 = .ok (.ifCond .eq 7, 3) := by decide +kernel
theorem dX2_readsAll_123 : decode cX2_readsAll 123 = .ok (.iconst 1, 1) := by decide +kernel
theorem dX2_readsAll_124 : decode cX2_readsAll 124 = .ok (.goto 4, 3) := by decide +kernel
theorem dX2_readsAll_127 : decode cX2_readsAll 127 = .ok (.iconst 0, 1) := by decide +kernel
theorem dX2_readsAll_128 : decode cX2_readsAll 128 = .ok (.ireturn, 1) := by decide +kernel
theorem dX2_readsAll_129 : decode cX2_readsAll 129 = .ok (.aload_n 0, 1) := by decide +kernel
theorem dX2_readsAll_130 : decode cX2_readsAll 130 = .ok (.iload_n 2, 1) := by decide +kernel
theorem dX2_readsAll_131 : decode cX2_readsAll 131 = .ok (.iconst 1, 1) := by decide +kernel
theorem dX2_readsAll_132 : decode cX2_readsAll 132 = .ok (.invokevirtual 104, 3) := by decide +kernel
theorem dX2_readsAll_135 : decode cX2_readsAll 135 = .ok (.ireturn, 1) := by decide +kernel
theorem dX2_readsAll_136 : decode cX2_readsAll 136 = .ok (.aload_n 0, 1) := by decide +kernel
theorem dX2_readsAll_137 : decode cX2_readsAll 137 = .ok (.iload_n 2, 1) := by decide +kernel
theorem dX2_readsAll_138 : decode cX2_readsAll 138 = .ok (.iconst 2, 1) := by decide +kernel
theorem dX2_readsAll_139 : decode cX2_readsAll 139 = .ok (.invokevirtual 104, 3) := by decide +kernel
theorem dX2_readsAll_142 : decode cX2_readsAll 142 = .ok (.ireturn, 1) := by decide +kernel
set_option maxRecDepth 20000 in
theorem ggX2_statement_X2_letterNow : GoodIn wsX2_statement wsX2_letterNow := goodIn_r _ [9, 4, 10, 11, 34, 35, 36, 37, 38, 39, 40, 41, 42, 43, 44, 45, 46, 47, 48, 49, 50, 51, 52, 53, 54, 55, 56, 57, 58, 59, 60, 61, 62, 63, 64] (by decide +kernel) (by decide +kernel)
set_option maxRecDepth 20000 in
theorem gX2_statement_X2_letterNow : GoodIn wsX2_statement (wsV RX2 90 RX2 yX2_letterNow wsX2_letterNow) := goodIn_app (goodIn_of _ (by decide +kernel)) ggX2_statement_X2_letterNow
set_option maxRecDepth 20000 in
theorem ggX2_statement_X2_readsAll : GoodIn wsX2_statement wsX2_readsAll := goodIn_r _ [15, 16, 17, 18, 8, 19, 20, 4, 5, 6, 7, 9, 10, 11, 21, 22, 23, 24, 25, 26, 27, 28, 29, 30, 31, 32, 33, 34, 35, 36, 37, 38, 39, 40, 41, 42, 43, 44, 45, 46, 47, 48, 49, 50, 51, 52, 53, 54, 55, 56, 57, 58, 59, 60, 61, 62, 63, 64] (by decide +kernel) (by decide +kernel)
set_option maxRecDepth 20000 in
theorem gX2_statement_X2_readsAll : GoodIn wsX2_statement (wsV RX2 115 RX2 yX2_readsAll wsX2_readsAll) := goodIn_app (goodIn_of _ (by decide +kernel)) ggX2_statement_X2_readsAll
theorem dX2_statement_0 : decode cX2_statement 0 = .ok (.aload_n 0, 1) := by decide +kernel
theorem dX2_statement_1 : decode cX2_statement 1 = .ok (.invokevirtual 90, 3) := by decide +kernel
theorem dX2_statement_4 : decode cX2_statement 4 = .ok (.istore_n 1, 1) := by decide +kernel
theorem dX2_statement_5 : decode cX2_statement 5 = .ok (.iload_n 1, 1) := by decide +kernel
theorem dX2_statement_6 : decode cX2_statement 6 = .ok (.bipush 99, 2) := by decide +kernel
theorem dX2_statement_8 : decode cX2_statement 8 = .ok (.if_icmp .eq 41, 3) := by decide +kernel
theorem dX2_statement_11 : decode cX2_statement 11 = .ok (.iload_n 1, 1) := by decide +kernel
theorem dX2_statement_12 : decode cX2_statement 12 = .ok (.bipush 98, 2) := by decide +kernel
theorem dX2_statement_14 : decode cX2_statement 14 = .ok (.if_icmp .eq 35, 3) := by decide +kernel
theorem dX2_statement_17 : decode cX2_statement 17 = .ok (.iload_n 1, 1) := by decide +kernel
theorem dX2_statement_18 : decode cX2_statement 18 = .ok (.bipush 112, 2) := by decide +kernel
theorem dX2_statement_20 : decode cX2_statement 20 = .ok (.if_icmp .eq 29, 3) := by decide +kernel
theorem dX2_statement_23 : decode cX2_statement 23 = .ok (.iload_n 1, 1) := by decide +kernel
theorem dX2_statement_24 : decode cX2_statement 24 = .ok (.bipush 120, 2) := by decide +kernel
theorem dX2_statement_26 : decode cX2_statement 26 = .ok (.if_icmp .eq 23, 3) := by decide +kernel
theorem dX2_statement_29 : decode cX2_statement 29 = .ok (.iload_n 1, 1) := by decide +kernel
theorem dX2_statement_30 : decode cX2_statement 30 = .ok (.bipush 114, 2) := by decide +kernel
theorem dX2_statement_32 : decode cX2_statement 32 = .ok (.if_icmp .eq 17, 3) := by decide +kernel
theorem dX2_statement_35 : decode cX2_statement 35 = .ok (.iload_n 1, 1) := by decide +kernel
theorem dX2_statement_36 : decode cX2_statement 36 = .ok (.bipush 103, 2) := by decide +kernel
theorem dX2_statement_38 : decode cX2_statement 38 = .ok (.if_icmp .eq 11, 3) := by decide +kernel
theorem dX2_statement_41 : decode cX2_statement 41 = .ok (.iload_n 1, 1) := by decide +kernel
theorem dX2_statement_42 : decode cX2_statement 42 = .ok (.bipush 109, 2) := by decide +kernel
theorem dX2_statement_44 : decode cX2_statement 44 = .ok (.if_icmp .eq 5, 3) := by decide +kernel
theorem dX2_statement_47 : decode cX2_statement 47 = .ok (.iconst 0, 1) := by decide +kernel
theorem dX2_statement_48 : decode cX2_statement 48 = .ok (.ireturn, 1) := by decide +kernel
theorem dX2_statement_49 : decode cX2_statement 49 = .ok (.aload_n 0, 1) := by decide +kernel
theorem dX2_statement_50 : decode cX2_statement 50 = .ok (.getfield 46, 3) := by decide +kernel
theorem dX2_statement_53 : decode cX2_statement 53 = .ok (.aload_n 0, 1) := by decide +kernel
theorem dX2_statement_54 : decode cX2_statement 54 = .ok (.getfield 112, 3) := by decide +kernel
theorem dX2_statement_57 : decode cX2_statement 57 = .ok (.iload_n 1, 1) := by decide +kernel
theorem dX2_statement_58 : decode cX2_statement 58 = .ok (.iastore, 1) := by decide +kernel
theorem dX2_statement_59 : decode cX2_statement 59 = .ok (.aload_n 0, 1) := by decide +kernel
theorem dX2_statement_60 : decode cX2_statement 60 = .ok (.getfield 49, 3) := by decide +kernel
theorem dX2_statement_63 : decode cX2_statement 63 = .ok (.aload_n 0, 1) := by decide +kernel
theorem dX2_statement_64 : decode cX2_statement 64 = .ok (.getfield 112, 3) := by decide +kernel
theorem dX2_statement_67 : decode cX2_statement 67 = .ok (.aload_n 0, 1) := by decide +kernel
theorem dX2_statement_68 : decode cX2_statement 68 = .ok (.getfield 87, 3) := by decide +kernel
theorem dX2_statement_71 : decode cX2_statement 71 = .ok (.iastore, 1) := by decide +kernel
theorem dX2_statement_72 : decode cX2_statement 72 = .ok (.aload_n 0, 1) := by decide +kernel
theorem dX2_statement_73 : decode cX2_statement 73 = .ok (.dup, 1) := by decide +kernel
theorem dX2_statement_74 : decode cX2_statement 74 = .ok (.getfield 87, 3) := by decide +kernel
theorem dX2_statement_77 : decode cX2_statement 77 = .ok (.iconst 1, 1) := by decide +kernel
theorem dX2_statement_78 : decode cX2_statement 78 = .ok (.iadd, 1) := by decide +kernel
theorem dX2_statement_79 : decode cX2_statement 79 = .ok (.putfield 87, 3) := by decide +kernel
theorem dX2_statement_82 : decode cX2_statement 82 = .ok (.aload_n 0, 1) := by decide +kernel
theorem dX2_statement_83 : decode cX2_statement 83 = .ok (.iload_n 1, 1) := by decide +kernel
theorem dX2_statement_84 : decode cX2_statement 84 = .ok (.iconst 3, 1) := by decide +kernel
theorem dX2_statement_85 : decode cX2_statement 85 = .ok (.aload_n 0, 1) := by decide +kernel
theorem dX2_statement_86 : decode cX2_statement 86 = .ok (.getfield 112, 3) := by decide +kernel
theorem dX2_statement_89 : decode cX2_statement 89 = .ok (.imul, 1) := by decide +kernel
theorem dX2_statement_90 : decode cX2_statement 90 = .ok (.invokevirtual 115, 3) := by decide +kernel
theorem dX2_statement_93 : decode cX2_statement 93 = .ok (.ifCond .eq 12, 3) := by decide +kernel
theorem dX2_statement_96 : decode cX2_statement 96 = .ok (.aload_n 0, 1) := by decide +kernel
theorem dX2_statement_97 : decode cX2_statement 97 = .ok (.invokevirtual 90, 3) := by decide +kernel
theorem dX2_statement_100 : decode cX2_statement 100 = .ok (.bipush 59, 2) := by decide +kernel
theorem dX2_statement_102 : decode cX2_statement 102 = .ok (.if_icmp .eq 5, 3) := by decide +kernel
theorem dX2_statement_105 : decode cX2_statement 105 = .ok (.iconst 0, 1) := by decide +kernel
theorem dX2_statement_106 : decode cX2_statement 106 = .ok (.ireturn, 1) := by decide +kernel
theorem dX2_statement_107 : decode cX2_statement 107 = .ok (.aload_n 0, 1) := by decide +kernel
theorem dX2_statement_108 : decode cX2_statement 108 = .ok (.dup, 1) := by decide +kernel
theorem dX2_statement_109 : decode cX2_statement 109 = .ok (.getfield 87, 3) := by decide +kernel
theorem dX2_statement_112 : decode cX2_statement 112 = .ok (.iconst 1, 1) := by decide +kernel
theorem dX2_statement_113 : decode cX2_statement 113 = .ok (.iadd, 1) := by decide +kernel
theorem dX2_statement_114 : decode cX2_statement 114 = .ok (.putfield 87, 3) := by decide +kernel
theorem dX2_statement_117 : decode cX2_statement 117 = .ok (.iconst 1, 1) := by decide +kernel
theorem dX2_statement_118 : decode cX2_statement 118 = .ok (.ireturn, 1) := by decide +kernel
theorem dX2_comesCard_0 : decode cX2_comesCard 0 = .ok (.aload_n 0, 1) := by decide +kernel
theorem dX2_comesCard_1 : decode cX2_comesCard 1 = .ok (.getfield 52, 3) := by decide +kernel
theorem dX2_comesCard_4 : decode cX2_comesCard 4 = .ok (.iload_n 1, 1) := by decide +kernel
theorem dX2_comesCard_5 : decode cX2_comesCard 5 = .ok (.iconst 2, 1) := by decide +kernel
theorem dX2_comesCard_6 : decode cX2_comesCard 6 = .ok (.iadd, 1) := by decide +kernel
theorem dX2_comesCard_7 : decode cX2_comesCard 7 = .ok (.iaload, 1) := by decide +kernel
theorem dX2_comesCard_8 : decode cX2_comesCard 8 = .ok (.bipush 6, 2) := by decide +kernel
theorem dX2_comesCard_10 : decode cX2_comesCard 10 = .ok (.if_icmp .ge 12, 3) := by decide +kernel
theorem dX2_comesCard_13 : decode cX2_comesCard 13 = .ok (.aload_n 0, 1) := by decide +kernel
theorem dX2_comesCard_14 : decode cX2_comesCard 14 = .ok (.getfield 67, 3) := by decide +kernel
theorem dX2_comesCard_17 : decode cX2_comesCard 17 = .ok (.bipush 8, 2) := by decide +kernel
theorem dX2_comesCard_19 : decode cX2_comesCard 19 = .ok (.if_icmp .ne 5, 3) := by decide +kernel
theorem dX2_comesCard_22 : decode cX2_comesCard 22 = .ok (.iconst 0, 1) := by decide +kernel
theorem dX2_comesCard_23 : decode cX2_comesCard 23 = .ok (.ireturn, 1) := by decide +kernel
theorem dX2_comesCard_24 : decode cX2_comesCard 24 = .ok (.aload_n 0, 1) := by decide +kernel
theorem dX2_comesCard_25 : decode cX2_comesCard 25 = .ok (.getfield 13, 3) := by decide +kernel
theorem dX2_comesCard_28 : decode cX2_comesCard 28 = .ok (.aload_n 0, 1) := by decide +kernel
theorem dX2_comesCard_29 : decode cX2_comesCard 29 = .ok (.getfield 67, 3) := by decide +kernel
theorem dX2_comesCard_32 : decode cX2_comesCard 32 = .ok (.aload_n 0, 1) := by decide +kernel
theorem dX2_comesCard_33 : decode cX2_comesCard 33 = .ok (.getfield 52, 3) := by decide +kernel
theorem dX2_comesCard_36 : decode cX2_comesCard 36 = .ok (.iload_n 1, 1) := by decide +kernel
theorem dX2_comesCard_37 : decode cX2_comesCard 37 = .ok (.iaload, 1) := by decide +kernel
theorem dX2_comesCard_38 : decode cX2_comesCard 38 = .ok (.iastore, 1) := by decide +kernel
theorem dX2_comesCard_39 : decode cX2_comesCard 39 = .ok (.aload_n 0, 1) := by decide +kernel
theorem dX2_comesCard_40 : decode cX2_comesCard 40 = .ok (.getfield 16, 3) := by decide +kernel
theorem dX2_comesCard_43 : decode cX2_comesCard 43 = .ok (.aload_n 0, 1) := by decide +kernel
theorem dX2_comesCard_44 : decode cX2_comesCard 44 = .ok (.getfield 67, 3) := by decide +kernel
theorem dX2_comesCard_47 : decode cX2_comesCard 47 = .ok (.aload_n 0, 1) := by decide +kernel
theorem dX2_comesCard_48 : decode cX2_comesCard 48 = .ok (.getfield 52, 3) := by decide +kernel
theorem dX2_comesCard_51 : decode cX2_comesCard 51 = .ok (.iload_n 1, 1) := by decide +kernel
theorem dX2_comesCard_52 : decode cX2_comesCard 52 = .ok (.iconst 1, 1) := by decide +kernel
theorem dX2_comesCard_53 : decode cX2_comesCard 53 = .ok (.iadd, 1) := by decide +kernel
theorem dX2_comesCard_54 : decode cX2_comesCard 54 = .ok (.iaload, 1) := by decide +kernel
theorem dX2_comesCard_55 : decode cX2_comesCard 55 = .ok (.iastore, 1) := by decide +kernel
theorem dX2_comesCard_56 : decode cX2_comesCard 56 = .ok (.aload_n 0, 1) := by decide +kernel
theorem dX2_comesCard_57 : decode cX2_comesCard 57 = .ok (.getfield 19, 3) := by decide +kernel
theorem dX2_comesCard_60 : decode cX2_comesCard 60 = .ok (.aload_n 0, 1) := by decide +kernel
theorem dX2_comesCard_61 : decode cX2_comesCard 61 = .ok (.getfield 67, 3) := by decide +kernel
theorem dX2_comesCard_64 : decode cX2_comesCard 64 = .ok (.aload_n 0, 1) := by decide +kernel
theorem dX2_comesCard_65 : decode cX2_comesCard 65 = .ok (.getfield 52, 3) := by decide +kernel
theorem dX2_comesCard_68 : decode cX2_comesCard 68 = .ok (.iload_n 1, 1) := by decide +kernel
theorem dX2_comesCard_69 : decode cX2_comesCard 69 = .ok (.iconst 2, 1) := by decide +kernel
theorem dX2_comesCard_70 : decode cX2_comesCard 70 = .ok (.iadd, 1) := by decide +kernel
theorem dX2_comesCard_71 : decode cX2_comesCard 71 = .ok (.iaload, 1) := by decide +kernel
theorem dX2_comesCard_72 : decode cX2_comesCard 72 = .ok (.iastore, 1) := by decide +kernel
theorem dX2_comesCard_73 : decode cX2_comesCard 73 = .ok (.aload_n 0, 1) := by decide +kernel
theorem dX2_comesCard_74 : decode cX2_comesCard 74 = .ok (.getfield 22, 3) := by decide +kernel
theorem dX2_comesCard_77 : decode cX2_comesCard 77 = .ok (.aload_n 0, 1) := by decide +kernel
theorem dX2_comesCard_78 : decode cX2_comesCard 78 = .ok (.getfield 67, 3) := by decide +kernel
theorem dX2_comesCard_81 : decode cX2_comesCard 81 = .ok (.iconst 0, 1) := by decide +kernel
theorem dX2_comesCard_82 : decode cX2_comesCard 82 = .ok (.iastore, 1) := by decide +kernel
theorem dX2_comesCard_83 : decode cX2_comesCard 83 = .ok (.aload_n 0, 1) := by decide +kernel
theorem dX2_comesCard_84 : decode cX2_comesCard 84 = .ok (.getfield 25, 3) := by decide +kernel
theorem dX2_comesCard_87 : decode cX2_comesCard 87 = .ok (.aload_n 0, 1) := by decide +kernel
theorem dX2_comesCard_88 : decode cX2_comesCard 88 = .ok (.getfield 67, 3) := by decide +kernel
theorem dX2_comesCard_91 : decode cX2_comesCard 91 = .ok (.iconst 0, 1) := by decide +kernel
theorem dX2_comesCard_92 : decode cX2_comesCard 92 = .ok (.iastore, 1) := by decide +kernel
theorem dX2_comesCard_93 : decode cX2_comesCard 93 = .ok (.aload_n 0, 1) := by decide +kernel
theorem dX2_comesCard_94 : decode cX2_comesCard 94 = .ok (.getfield 28, 3) := by decide +kernel
theorem dX2_comesCard_97 : decode cX2_comesCard 97 = .ok (.aload_n 0, 1) := by decide +kernel
theorem dX2_comesCard_98 : decode cX2_comesCard 98 = .ok (.getfield 67, 3) := by decide +kernel
theorem dX2_comesCard_101 : decode cX2_comesCard 101 = .ok (.aload_n 0, 1) := by decide +kernel
theorem dX2_comesCard_102 : decode cX2_comesCard 102 = .ok (.getfield 67, 3) := by decide +kernel
theorem dX2_comesCard_105 : decode cX2_comesCard 105 = .ok (.iastore, 1) := by decide +kernel
theorem dX2_comesCard_106 : decode cX2_comesCard 106 = .ok (.aload_n 0, 1) := by decide +kernel
theorem dX2_comesCard_107 : decode cX2_comesCard 107 = .ok (.dup, 1) := by decide +kernel
theorem dX2_comesCard_108 : decode cX2_comesCard 108 = .ok (.getfield 67, 3) := by decide +kernel
theorem dX2_comesCard_111 : decode cX2_comesCard 111 = .ok (.iconst 1, 1) := by decide +kernel
theorem dX2_comesCard_112 : decode cX2_comesCard 112 = .ok (.iadd, 1) := by decide +kernel
theorem dX2_comesCard_113 : decode cX2_comesCard 113 = .ok (.putfield 67, 3) := by decide +kernel
theorem dX2_comesCard_116 : decode cX2_comesCard 116 = .ok (.iconst 1, 1) := by decide +kernel
theorem dX2_comesCard_117 : decode cX2_comesCard 117 = .ok (.ireturn, 1) := by decide +kernel
theorem dX2_comesBidder_0 : decode cX2_comesBidder 0 = .ok (.aload_n 0, 1) := by decide +kernel
theorem dX2_comesBidder_1 : decode cX2_comesBidder 1 = .ok (.getfield 73, 3) := by decide +kernel
theorem dX2_comesBidder_4 : decode cX2_comesBidder 4 = .ok (.bipush 6, 2) := by decide +kernel
theorem dX2_comesBidder_6 : decode cX2_comesBidder 6 = .ok (.if_icmp .ne 5, 3) := by decide +kernel
theorem dX2_comesBidder_9 : decode cX2_comesBidder 9 = .ok (.iconst 0, 1) := by decide +kernel
theorem dX2_comesBidder_10 : decode cX2_comesBidder 10 = .ok (.ireturn, 1) := by decide +kernel
theorem dX2_comesBidder_11 : decode cX2_comesBidder 11 = .ok (.aload_n 0, 1) := by decide +kernel
theorem dX2_comesBidder_12 : decode cX2_comesBidder 12 = .ok (.getfield 31, 3) := by decide +kernel
theorem dX2_comesBidder_15 : decode cX2_comesBidder 15 = .ok (.aload_n 0, 1) := by decide +kernel
theorem dX2_comesBidder_16 : decode cX2_comesBidder 16 = .ok (.getfield 73, 3) := by decide +kernel
theorem dX2_comesBidder_19 : decode cX2_comesBidder 19 = .ok (.aload_n 0, 1) := by decide +kernel
theorem dX2_comesBidder_20 : decode cX2_comesBidder 20 = .ok (.getfield 52, 3) := by decide +kernel
theorem dX2_comesBidder_23 : decode cX2_comesBidder 23 = .ok (.iload_n 1, 1) := by decide +kernel
theorem dX2_comesBidder_24 : decode cX2_comesBidder 24 = .ok (.iaload, 1) := by decide +kernel
theorem dX2_comesBidder_25 : decode cX2_comesBidder 25 = .ok (.iastore, 1) := by decide +kernel
theorem dX2_comesBidder_26 : decode cX2_comesBidder 26 = .ok (.aload_n 0, 1) := by decide +kernel
theorem dX2_comesBidder_27 : decode cX2_comesBidder 27 = .ok (.getfield 34, 3) := by decide +kernel
theorem dX2_comesBidder_30 : decode cX2_comesBidder 30 = .ok (.aload_n 0, 1) := by decide +kernel
theorem dX2_comesBidder_31 : decode cX2_comesBidder 31 = .ok (.getfield 73, 3) := by decide +kernel
theorem dX2_comesBidder_34 : decode cX2_comesBidder 34 = .ok (.aload_n 0, 1) := by decide +kernel
theorem dX2_comesBidder_35 : decode cX2_comesBidder 35 = .ok (.getfield 52, 3) := by decide +kernel
theorem dX2_comesBidder_38 : decode cX2_comesBidder 38 = .ok (.iload_n 1, 1) := by decide +kernel
theorem dX2_comesBidder_39 : decode cX2_comesBidder 39 = .ok (.iconst 1, 1) := by decide +kernel
theorem dX2_comesBidder_40 : decode cX2_comesBidder 40 = .ok (.iadd, 1) := by decide +kernel
theorem dX2_comesBidder_41 : decode cX2_comesBidder 41 = .ok (.iaload, 1) := by decide +kernel
theorem dX2_comesBidder_42 : decode cX2_comesBidder 42 = .ok (.iastore, 1) := by decide +kernel
theorem dX2_comesBidder_43 : decode cX2_comesBidder 43 = .ok (.aload_n 0, 1) := by decide +kernel
theorem dX2_comesBidder_44 : decode cX2_comesBidder 44 = .ok (.getfield 37, 3) := by decide +kernel
theorem dX2_comesBidder_47 : decode cX2_comesBidder 47 = .ok (.aload_n 0, 1) := by decide +kernel
theorem dX2_comesBidder_48 : decode cX2_comesBidder 48 = .ok (.getfield 73, 3) := by decide +kernel
theorem dX2_comesBidder_51 : decode cX2_comesBidder 51 = .ok (.aload_n 0, 1) := by decide +kernel
theorem dX2_comesBidder_52 : decode cX2_comesBidder 52 = .ok (.getfield 52, 3) := by decide +kernel
theorem dX2_comesBidder_55 : decode cX2_comesBidder 55 = .ok (.iload_n 1, 1) := by decide +kernel
theorem dX2_comesBidder_56 : decode cX2_comesBidder 56 = .ok (.iconst 2, 1) := by decide +kernel
theorem dX2_comesBidder_57 : decode cX2_comesBidder 57 = .ok (.iadd, 1) := by decide +kernel
theorem dX2_comesBidder_58 : decode cX2_comesBidder 58 = .ok (.iaload, 1) := by decide +kernel
theorem dX2_comesBidder_59 : decode cX2_comesBidder 59 = .ok (.iastore, 1) := by decide +kernel
theorem dX2_comesBidder_60 : decode cX2_comesBidder 60 = .ok (.aload_n 0, 1) := by decide +kernel
theorem dX2_comesBidder_61 : decode cX2_comesBidder 61 = .ok (.getfield 40, 3) := by decide +kernel
theorem dX2_comesBidder_64 : decode cX2_comesBidder 64 = .ok (.aload_n 0, 1) := by decide +kernel
theorem dX2_comesBidder_65 : decode cX2_comesBidder 65 = .ok (.getfield 73, 3) := by decide +kernel
theorem dX2_comesBidder_68 : decode cX2_comesBidder 68 = .ok (.bipush 50, 2) := by decide +kernel
theorem dX2_comesBidder_70 : decode cX2_comesBidder 70 = .ok (.iastore, 1) := by decide +kernel
theorem dX2_comesBidder_71 : decode cX2_comesBidder 71 = .ok (.aload_n 0, 1) := by decide +kernel
theorem dX2_comesBidder_72 : decode cX2_comesBidder 72 = .ok (.dup, 1) := by decide +kernel
theorem dX2_comesBidder_73 : decode cX2_comesBidder 73 = .ok (.getfield 73, 3) := by decide +kernel
theorem dX2_comesBidder_76 : decode cX2_comesBidder 76 = .ok (.iconst 1, 1) := by decide +kernel
theorem dX2_comesBidder_77 : decode cX2_comesBidder 77 = .ok (.iadd, 1) := by decide +kernel
theorem dX2_comesBidder_78 : decode cX2_comesBidder 78 = .ok (.putfield 73, 3) := by decide +kernel
theorem dX2_comesBidder_81 : decode cX2_comesBidder 81 = .ok (.iconst 1, 1) := by decide +kernel
theorem dX2_comesBidder_82 : decode cX2_comesBidder 82 = .ok (.ireturn, 1) := by decide +kernel
set_option maxRecDepth 20000 in
theorem ggX2_comesOf_X2_isCard : GoodIn wsX2_comesOf wsX2_isCard := goodIn_r _ [6, 7, 22, 23, 24, 25, 26, 27, 28, 29, 30, 31, 32, 33, 34, 35, 36, 37, 38, 39, 40, 41, 42, 43, 44, 45, 46, 47, 48, 49, 50, 51, 52] (by decide +kernel) (by decide +kernel)
set_option maxRecDepth 20000 in
theorem gX2_comesOf_X2_isCard : GoodIn wsX2_comesOf (wsV RX2 118 RX2 yX2_isCard wsX2_isCard) := goodIn_app (goodIn_of _ (by decide +kernel)) ggX2_comesOf_X2_isCard
set_option maxRecDepth 20000 in
theorem ggX2_comesOf_X2_isBidder : GoodIn wsX2_comesOf wsX2_isBidder := goodIn_r _ [11, 12, 22, 23, 24, 25, 26, 27, 28, 29, 30, 31, 32, 33, 34, 35, 36, 37, 38, 39, 40, 41, 42, 43, 44, 45, 46, 47, 48, 49, 50, 51, 52] (by decide +kernel) (by decide +kernel)
set_option maxRecDepth 20000 in
theorem gX2_comesOf_X2_isBidder : GoodIn wsX2_comesOf (wsV RX2 122 RX2 yX2_isBidder wsX2_isBidder) := goodIn_app (goodIn_of _ (by decide +kernel)) ggX2_comesOf_X2_isBidder
set_option maxRecDepth 20000 in
theorem ggX2_comesOf_X2_changesPlaces : GoodIn wsX2_comesOf wsX2_changesPlaces := goodIn_r _ [16, 17, 18, 19, 20, 5, 21, 22, 23, 24, 25, 26, 27, 28, 29, 30, 31, 32, 33, 34, 35, 36, 37, 38, 39, 40, 41, 42, 43, 44, 45, 46, 47, 48, 49, 50, 51, 52] (by decide +kernel) (by decide +kernel)
set_option maxRecDepth 20000 in
theorem gX2_comesOf_X2_changesPlaces : GoodIn wsX2_comesOf (wsV RX2 125 RX2 yX2_changesPlaces wsX2_changesPlaces) := goodIn_app (goodIn_of _ (by decide +kernel)) ggX2_comesOf_X2_changesPlaces
theorem dX2_comesOf_0 : decode cX2_comesOf 0 = .ok (.aload_n 0, 1) := by decide +kernel
theorem dX2_comesOf_1 : decode cX2_comesOf 1 = .ok (.iload_n 2, 1) := by decide +kernel
theorem dX2_comesOf_2 : decode cX2_comesOf 2 = .ok (.invokevirtual 118, 3) := by decide +kernel
theorem dX2_comesOf_5 : decode cX2_comesOf 5 = .ok (.ifCond .eq 36, 3) := by decide +kernel
theorem dX2_comesOf_8 : decode cX2_comesOf 8 = .ok (.iload_n 1, 1) := by decide +kernel
theorem dX2_comesOf_9 : decode cX2_comesOf 9 = .ok (.bipush 120, 2) := by decide +kernel
theorem dX2_comesOf_11 : decode cX2_comesOf 11 = .ok (.if_icmp .ne 16, 3) := by decide +kernel
theorem dX2_comesOf_14 : decode cX2_comesOf 14 = .ok (.aload_n 0, 1) := by decide +kernel
theorem dX2_comesOf_15 : decode cX2_comesOf 15 = .ok (.iload_n 3, 1) := by decide +kernel
theorem dX2_comesOf_16 : decode cX2_comesOf 16 = .ok (.invokevirtual 118, 3) := by decide +kernel
theorem dX2_comesOf_19 : decode cX2_comesOf 19 = .ok (.ifCond .eq 22, 3) := by decide +kernel
theorem dX2_comesOf_22 : decode cX2_comesOf 22 = .ok (.iload_n 2, 1) := by decide +kernel
theorem dX2_comesOf_23 : decode cX2_comesOf 23 = .ok (.iload_n 3, 1) := by decide +kernel
theorem dX2_comesOf_24 : decode cX2_comesOf 24 = .ok (.if_icmp .eq 17, 3) := by decide +kernel
theorem dX2_comesOf_27 : decode cX2_comesOf 27 = .ok (.iload_n 1, 1) := by decide +kernel
theorem dX2_comesOf_28 : decode cX2_comesOf 28 = .ok (.bipush 103, 2) := by decide +kernel
theorem dX2_comesOf_30 : decode cX2_comesOf 30 = .ok (.if_icmp .ne 13, 3) := by decide +kernel
theorem dX2_comesOf_33 : decode cX2_comesOf 33 = .ok (.aload_n 0, 1) := by decide +kernel
theorem dX2_comesOf_34 : decode cX2_comesOf 34 = .ok (.iload_n 3, 1) := by decide +kernel
theorem dX2_comesOf_35 : decode cX2_comesOf 35 = .ok (.invokevirtual 122, 3) := by decide +kernel
theorem dX2_comesOf_38 : decode cX2_comesOf 38 = .ok (.ifCond .ne 5, 3) := by decide +kernel
theorem dX2_comesOf_41 : decode cX2_comesOf 41 = .ok (.iconst 0, 1) := by decide +kernel
theorem dX2_comesOf_42 : decode cX2_comesOf 42 = .ok (.ireturn, 1) := by decide +kernel
theorem dX2_comesOf_43 : decode cX2_comesOf 43 = .ok (.iload_n 1, 1) := by decide +kernel
theorem dX2_comesOf_44 : decode cX2_comesOf 44 = .ok (.bipush 120, 2) := by decide +kernel
theorem dX2_comesOf_46 : decode cX2_comesOf 46 = .ok (.if_icmp .ne 12, 3) := by decide +kernel
theorem dX2_comesOf_49 : decode cX2_comesOf 49 = .ok (.aload_n 0, 1) := by decide +kernel
theorem dX2_comesOf_50 : decode cX2_comesOf 50 = .ok (.iload_n 2, 1) := by decide +kernel
theorem dX2_comesOf_51 : decode cX2_comesOf 51 = .ok (.iload_n 3, 1) := by decide +kernel
theorem dX2_comesOf_52 : decode cX2_comesOf 52 = .ok (.invokevirtual 125, 3) := by decide +kernel
theorem dX2_comesOf_55 : decode cX2_comesOf 55 = .ok (.goto 22, 3) := by decide +kernel
theorem dX2_comesOf_58 : decode cX2_comesOf 58 = .ok (.aload_n 0, 1) := by decide +kernel
theorem dX2_comesOf_59 : decode cX2_comesOf 59 = .ok (.getfield 25, 3) := by decide +kernel
theorem dX2_comesOf_62 : decode cX2_comesOf 62 = .ok (.iload_n 2, 1) := by decide +kernel
theorem dX2_comesOf_63 : decode cX2_comesOf 63 = .ok (.iload_n 1, 1) := by decide +kernel
theorem dX2_comesOf_64 : decode cX2_comesOf 64 = .ok (.bipush 103, 2) := by decide +kernel
theorem dX2_comesOf_66 : decode cX2_comesOf 66 = .ok (.if_icmp .ne 9, 3) := by decide +kernel
theorem dX2_comesOf_69 : decode cX2_comesOf 69 = .ok (.iload_n 3, 1) := by decide +kernel
theorem dX2_comesOf_70 : decode cX2_comesOf 70 = .ok (.iconst 1, 1) := by decide +kernel
theorem dX2_comesOf_71 : decode cX2_comesOf 71 = .ok (.iadd, 1) := by decide +kernel
theorem dX2_comesOf_72 : decode cX2_comesOf 72 = .ok (.goto 4, 3) := by decide +kernel
theorem dX2_comesOf_75 : decode cX2_comesOf 75 = .ok (.iconst 0, 1) := by decide +kernel
theorem dX2_comesOf_76 : decode cX2_comesOf 76 = .ok (.iastore, 1) := by decide +kernel
theorem dX2_comesOf_77 : decode cX2_comesOf 77 = .ok (.iconst 1, 1) := by decide +kernel
theorem dX2_comesOf_78 : decode cX2_comesOf 78 = .ok (.ireturn, 1) := by decide +kernel
set_option maxRecDepth 20000 in
theorem ggX2_comesMonths_X2_isIn : GoodIn wsX2_comesMonths wsX2_isIn := goodIn_r _ [5] (by decide +kernel) (by decide +kernel)
set_option maxRecDepth 20000 in
theorem gX2_comesMonths_X2_isIn : GoodIn wsX2_comesMonths (va_wsS RX2 94 yX2_isIn wsX2_isIn) := goodIn_app (goodIn_of _ (by decide +kernel)) ggX2_comesMonths_X2_isIn
set_option maxRecDepth 20000 in
theorem ggX2_comesMonths_X2_goes : GoodIn wsX2_comesMonths wsX2_goes := goodIn_r _ [9, 10, 11, 12, 4, 13, 1, 14, 15, 16, 17, 18, 19, 20, 21, 22, 23, 24, 25, 26, 27, 28, 29, 30, 31, 32, 33, 34, 35, 36, 37, 38, 39, 40, 41, 42, 43, 44, 45, 46, 47, 48, 49, 50, 51, 52, 53, 54, 55, 56, 57, 58, 59, 60, 61, 62, 63, 64, 65, 66, 67, 68, 69, 70, 71, 72, 73, 74, 75, 76, 77, 78, 79, 80, 81, 82, 83, 84, 85, 86, 87, 88, 89, 90, 91, 92, 93, 94, 95, 96, 97, 98, 99, 100] (by decide +kernel) (by decide +kernel)
set_option maxRecDepth 20000 in
theorem gX2_comesMonths_X2_goes : GoodIn wsX2_comesMonths (wsV RX2 132 RX2 yX2_goes wsX2_goes) := goodIn_app (goodIn_of _ (by decide +kernel)) ggX2_comesMonths_X2_goes
theorem dX2_comesMonths_0 : decode cX2_comesMonths 0 = .ok (.iload_n 1, 1) := by decide +kernel
theorem dX2_comesMonths_1 : decode cX2_comesMonths 1 = .ok (.iconst 1, 1) := by decide +kernel
theorem dX2_comesMonths_2 : decode cX2_comesMonths 2 = .ok (.bipush 60, 2) := by decide +kernel
theorem dX2_comesMonths_4 : decode cX2_comesMonths 4 = .ok (.invokestatic 94, 3) := by decide +kernel
theorem dX2_comesMonths_7 : decode cX2_comesMonths 7 = .ok (.ifCond .eq 15, 3) := by decide +kernel
theorem dX2_comesMonths_10 : decode cX2_comesMonths 10 = .ok (.aload_n 0, 1) := by decide +kernel
theorem dX2_comesMonths_11 : decode cX2_comesMonths 11 = .ok (.getfield 129, 3) := by decide +kernel
theorem dX2_comesMonths_14 : decode cX2_comesMonths 14 = .ok (.iload_n 1, 1) := by decide +kernel
theorem dX2_comesMonths_15 : decode cX2_comesMonths 15 = .ok (.iadd, 1) := by decide +kernel
theorem dX2_comesMonths_16 : decode cX2_comesMonths 16 = .ok (.sipush 999, 3) := by decide +kernel
theorem dX2_comesMonths_19 : decode cX2_comesMonths 19 = .ok (.if_icmp .le 5, 3) := by decide +kernel
theorem dX2_comesMonths_22 : decode cX2_comesMonths 22 = .ok (.iconst 0, 1) := by decide +kernel
theorem dX2_comesMonths_23 : decode cX2_comesMonths 23 = .ok (.ireturn, 1) := by decide +kernel
theorem dX2_comesMonths_24 : decode cX2_comesMonths 24 = .ok (.aload_n 0, 1) := by decide +kernel
theorem dX2_comesMonths_25 : decode cX2_comesMonths 25 = .ok (.iload_n 1, 1) := by decide +kernel
theorem dX2_comesMonths_26 : decode cX2_comesMonths 26 = .ok (.invokevirtual 132, 3) := by decide +kernel
theorem dX2_comesMonths_29 : decode cX2_comesMonths 29 = .ok (.iconst 1, 1) := by decide +kernel
theorem dX2_comesMonths_30 : decode cX2_comesMonths 30 = .ok (.ireturn, 1) := by decide +kernel
set_option maxRecDepth 20000 in
theorem ggX2_comes_X2_comesCard : GoodIn wsX2_comes wsX2_comesCard := goodIn_r _ [8, 2, 9, 10, 11, 12, 13, 14, 15, 100, 101, 102, 103, 104, 105, 106, 107, 108, 109, 110, 111, 112, 113, 114, 115, 116, 117, 118, 119, 120, 121, 122, 123, 124, 125, 126, 127, 128, 129, 130] (by decide +kernel) (by decide +kernel)
set_option maxRecDepth 20000 in
theorem gX2_comes_X2_comesCard : GoodIn wsX2_comes (wsV RX2 136 RX2 yX2_comesCard wsX2_comesCard) := goodIn_app (goodIn_of _ (by decide +kernel)) ggX2_comes_X2_comesCard
set_option maxRecDepth 20000 in
theorem ggX2_comes_X2_comesBidder : GoodIn wsX2_comes wsX2_comesBidder := goodIn_r _ [19, 20, 21, 2, 22, 3, 23, 100, 101, 102, 103, 104, 105, 106, 107, 108, 109, 110, 111, 112, 113, 114, 115, 116, 117, 118, 119, 120, 121, 122, 123, 124, 125, 126, 127, 128, 129, 130] (by decide +kernel) (by decide +kernel)
set_option maxRecDepth 20000 in
theorem gX2_comes_X2_comesBidder : GoodIn wsX2_comes (wsV RX2 139 RX2 yX2_comesBidder wsX2_comesBidder) := goodIn_app (goodIn_of _ (by decide +kernel)) ggX2_comes_X2_comesBidder
set_option maxRecDepth 20000 in
theorem ggX2_comes_X2_isBidder : GoodIn wsX2_comes wsX2_isBidder := goodIn_r _ [27, 20, 100, 101, 102, 103, 104, 105, 106, 107, 108, 109, 110, 111, 112, 113, 114, 115, 116, 117, 118, 119, 120, 121, 122, 123, 124, 125, 126, 127, 128, 129, 130] (by decide +kernel) (by decide +kernel)
set_option maxRecDepth 20000 in
theorem gX2_comes_X2_isBidder : GoodIn wsX2_comes (wsV RX2 122 RX2 yX2_isBidder wsX2_isBidder) := goodIn_app (goodIn_of _ (by decide +kernel)) ggX2_comes_X2_isBidder
set_option maxRecDepth 20000 in
theorem ggX2_comes_X2_comesMonths : GoodIn wsX2_comes wsX2_comesMonths := goodIn_r _ [31, 32, 33, 34, 7, 35, 36, 37, 38, 39, 40, 41, 42, 43, 9, 14, 15, 13, 20, 3, 44, 45, 46, 47, 48, 12, 23, 49, 50, 51, 52, 53, 54, 55, 56, 57, 58, 59, 60, 61, 62, 63, 64, 65, 66, 67, 68, 22, 21, 69, 70, 71, 72, 11, 10, 73, 74, 75, 76, 24, 25, 26, 27, 77, 78, 79, 80, 81, 82, 83, 100, 101, 102, 103, 104, 105, 106, 107, 108, 109, 110, 111, 112, 113, 114, 115, 116, 117, 118, 119, 120, 121, 122, 123, 124, 125, 126, 127, 128, 129, 130] (by decide +kernel) (by decide +kernel)
set_option maxRecDepth 20000 in
theorem gX2_comes_X2_comesMonths : GoodIn wsX2_comes (wsV RX2 142 RX2 yX2_comesMonths wsX2_comesMonths) := goodIn_app (goodIn_of _ (by decide +kernel)) ggX2_comes_X2_comesMonths
set_option maxRecDepth 20000 in
theorem ggX2_comes_X2_comesOf : GoodIn wsX2_comes wsX2_comesOf := goodIn_r _ [87, 14, 88, 89, 90, 7, 91, 9, 24, 25, 26, 27, 20, 92, 93, 94, 95, 15, 96, 97, 98, 99, 100, 101, 102, 103, 104, 105, 106, 107, 108, 109, 110, 111, 112, 113, 114, 115, 116, 117, 118, 119, 120, 121, 122, 123, 124, 125, 126, 127, 128, 129, 130] (by decide +kernel) (by decide +kernel)
set_option maxRecDepth 20000 in
theorem gX2_comes_X2_comesOf : GoodIn wsX2_comes (wsV RX2 145 RX2 yX2_comesOf wsX2_comesOf) := goodIn_app (goodIn_of _ (by decide +kernel)) ggX2_comes_X2_comesOf
theorem dX2_comes_0 : decode cX2_comes 0 = .ok (.iconst 3, 1) := by decide +kernel
theorem dX2_comes_1 : decode cX2_comes 1 = .ok (.iload_n 1, 1) := by decide +kernel
theorem dX2_comes_2 : decode cX2_comes 2 = .ok (.imul, 1) := by decide +kernel
theorem dX2_comes_3 : decode cX2_comes 3 = .ok (.istore_n 2, 1) := by decide +kernel
theorem dX2_comes_4 : decode cX2_comes 4 = .ok (.aload_n 0, 1) := by decide +kernel
theorem dX2_comes_5 : decode cX2_comes 5 = .ok (.getfield 46, 3) := by decide +kernel
theorem dX2_comes_8 : decode cX2_comes 8 = .ok (.iload_n 1, 1) := by decide +kernel
theorem dX2_comes_9 : decode cX2_comes 9 = .ok (.iaload, 1) := by decide +kernel
theorem dX2_comes_10 : decode cX2_comes 10 = .ok (.lookupswitch 101 #[(98, 48), (99, 42), (109, 90), (112, 54)], 42) := by decide +kernel
theorem dX2_comes_52 : decode cX2_comes 52 = .ok (.aload_n 0, 1) := by decide +kernel
theorem dX2_comes_53 : decode cX2_comes 53 = .ok (.iload_n 2, 1) := by decide +kernel
theorem dX2_comes_54 : decode cX2_comes 54 = .ok (.invokevirtual 136, 3) := by decide +kernel
theorem dX2_comes_57 : decode cX2_comes 57 = .ok (.ireturn, 1) := by decide +kernel
theorem dX2_comes_58 : decode cX2_comes 58 = .ok (.aload_n 0, 1) := by decide +kernel
theorem dX2_comes_59 : decode cX2_comes 59 = .ok (.iload_n 2, 1) := by decide +kernel
theorem dX2_comes_60 : decode cX2_comes 60 = .ok (.invokevirtual 139, 3) := by decide +kernel
theorem dX2_comes_63 : decode cX2_comes 63 = .ok (.ireturn, 1) := by decide +kernel
theorem dX2_comes_64 : decode cX2_comes 64 = .ok (.aload_n 0, 1) := by decide +kernel
theorem dX2_comes_65 : decode cX2_comes 65 = .ok (.aload_n 0, 1) := by decide +kernel
theorem dX2_comes_66 : decode cX2_comes 66 = .ok (.getfield 52, 3) := by decide +kernel
theorem dX2_comes_69 : decode cX2_comes 69 = .ok (.iload_n 2, 1) := by decide +kernel
theorem dX2_comes_70 : decode cX2_comes 70 = .ok (.iaload, 1) := by decide +kernel
theorem dX2_comes_71 : decode cX2_comes 71 = .ok (.invokevirtual 122, 3) := by decide +kernel
theorem dX2_comes_74 : decode cX2_comes 74 = .ok (.ifCond .ne 5, 3) := by decide +kernel
theorem dX2_comes_77 : decode cX2_comes 77 = .ok (.iconst 0, 1) := by decide +kernel
theorem dX2_comes_78 : decode cX2_comes 78 = .ok (.ireturn, 1) := by decide +kernel
theorem dX2_comes_79 : decode cX2_comes 79 = .ok (.aload_n 0, 1) := by decide +kernel
theorem dX2_comes_80 : decode cX2_comes 80 = .ok (.getfield 37, 3) := by decide +kernel
theorem dX2_comes_83 : decode cX2_comes 83 = .ok (.aload_n 0, 1) := by decide +kernel
theorem dX2_comes_84 : decode cX2_comes 84 = .ok (.getfield 52, 3) := by decide +kernel
theorem dX2_comes_87 : decode cX2_comes 87 = .ok (.iload_n 2, 1) := by decide +kernel
theorem dX2_comes_88 : decode cX2_comes 88 = .ok (.iaload, 1) := by decide +kernel
theorem dX2_comes_89 : decode cX2_comes 89 = .ok (.aload_n 0, 1) := by decide +kernel
theorem dX2_comes_90 : decode cX2_comes 90 = .ok (.getfield 52, 3) := by decide +kernel
theorem dX2_comes_93 : decode cX2_comes 93 = .ok (.iload_n 2, 1) := by decide +kernel
theorem dX2_comes_94 : decode cX2_comes 94 = .ok (.iconst 1, 1) := by decide +kernel
theorem dX2_comes_95 : decode cX2_comes 95 = .ok (.iadd, 1) := by decide +kernel
theorem dX2_comes_96 : decode cX2_comes 96 = .ok (.iaload, 1) := by decide +kernel
theorem dX2_comes_97 : decode cX2_comes 97 = .ok (.iastore, 1) := by decide +kernel
theorem dX2_comes_98 : decode cX2_comes 98 = .ok (.iconst 1, 1) := by decide +kernel
theorem dX2_comes_99 : decode cX2_comes 99 = .ok (.ireturn, 1) := by decide +kernel
theorem dX2_comes_100 : decode cX2_comes 100 = .ok (.aload_n 0, 1) := by decide +kernel
theorem dX2_comes_101 : decode cX2_comes 101 = .ok (.aload_n 0, 1) := by decide +kernel
theorem dX2_comes_102 : decode cX2_comes 102 = .ok (.getfield 52, 3) := by decide +kernel
theorem dX2_comes_105 : decode cX2_comes 105 = .ok (.iload_n 2, 1) := by decide +kernel
theorem dX2_comes_106 : decode cX2_comes 106 = .ok (.iaload, 1) := by decide +kernel
theorem dX2_comes_107 : decode cX2_comes 107 = .ok (.invokevirtual 142, 3) := by decide +kernel
theorem dX2_comes_110 : decode cX2_comes 110 = .ok (.ireturn, 1) := by decide +kernel
theorem dX2_comes_111 : decode cX2_comes 111 = .ok (.aload_n 0, 1) := by decide +kernel
theorem dX2_comes_112 : decode cX2_comes 112 = .ok (.aload_n 0, 1) := by decide +kernel
theorem dX2_comes_113 : decode cX2_comes 113 = .ok (.getfield 46, 3) := by decide +kernel
theorem dX2_comes_116 : decode cX2_comes 116 = .ok (.iload_n 1, 1) := by decide +kernel
theorem dX2_comes_117 : decode cX2_comes 117 = .ok (.iaload, 1) := by decide +kernel
theorem dX2_comes_118 : decode cX2_comes 118 = .ok (.aload_n 0, 1) := by decide +kernel
theorem dX2_comes_119 : decode cX2_comes 119 = .ok (.getfield 52, 3) := by decide +kernel
theorem dX2_comes_122 : decode cX2_comes 122 = .ok (.iload_n 2, 1) := by decide +kernel
theorem dX2_comes_123 : decode cX2_comes 123 = .ok (.iaload, 1) := by decide +kernel
theorem dX2_comes_124 : decode cX2_comes 124 = .ok (.aload_n 0, 1) := by decide +kernel
theorem dX2_comes_125 : decode cX2_comes 125 = .ok (.getfield 52, 3) := by decide +kernel
theorem dX2_comes_128 : decode cX2_comes 128 = .ok (.iload_n 2, 1) := by decide +kernel
theorem dX2_comes_129 : decode cX2_comes 129 = .ok (.iconst 1, 1) := by decide +kernel
theorem dX2_comes_130 : decode cX2_comes 130 = .ok (.iadd, 1) := by decide +kernel
theorem dX2_comes_131 : decode cX2_comes 131 = .ok (.iaload, 1) := by decide +kernel
theorem dX2_comes_132 : decode cX2_comes 132 = .ok (.invokevirtual 145, 3) := by decide +kernel
theorem dX2_comes_135 : decode cX2_comes 135 = .ok (.ireturn, 1) := by decide +kernel
set_option maxRecDepth 20000 in
theorem ggX2_hall_X2_statement : GoodIn wsX2_hall wsX2_statement := goodIn_r _ [9, 10, 2, 4, 1, 11, 12, 13, 8, 14, 3, 15, 16, 17, 18, 19, 20, 21, 22, 23, 24, 25, 26, 27, 28, 29, 30, 31, 32, 33, 34, 35, 36, 37, 150, 151, 152, 153, 154, 155, 156, 157, 158, 159, 160, 161, 162, 163, 164, 165, 166, 167, 168, 169, 170, 171, 172, 173, 174, 175, 176, 177, 178, 179, 180] (by decide +kernel) (by decide +kernel)
set_option maxRecDepth 20000 in
theorem gX2_hall_X2_statement : GoodIn wsX2_hall (wsV RX2 148 RX2 yX2_statement wsX2_statement) := goodIn_app (goodIn_of _ (by decide +kernel)) ggX2_hall_X2_statement
set_option maxRecDepth 20000 in
theorem ggX2_hall_X2_passesAll : GoodIn wsX2_hall wsX2_passesAll := goodIn_r _ [41, 42, 43, 44, 45, 46, 47, 48, 49, 50, 51, 52, 53, 54, 55, 56, 57, 58, 59, 8, 60, 61, 62, 63, 64, 65, 150, 151, 152, 153, 154, 155, 156, 157, 158, 159, 160, 161, 162, 163, 164, 165, 166, 167, 168, 169, 170, 171, 172, 173, 174, 175, 176, 177, 178, 179, 180] (by decide +kernel) (by decide +kernel)
set_option maxRecDepth 20000 in
theorem gX2_hall_X2_passesAll : GoodIn wsX2_hall (wsV RX2 152 RX2 yX2_passesAll wsX2_passesAll) := goodIn_app (goodIn_of _ (by decide +kernel)) ggX2_hall_X2_passesAll
set_option maxRecDepth 20000 in
theorem ggX2_hall_X2_comes : GoodIn wsX2_hall wsX2_comes := goodIn_r _ [69, 10, 24, 52, 70, 71, 72, 8, 73, 54, 44, 45, 46, 47, 48, 49, 74, 75, 76, 77, 55, 50, 51, 53, 78, 79, 80, 81, 82, 83, 84, 85, 56, 35, 36, 37, 86, 87, 88, 89, 90, 91, 92, 93, 94, 95, 96, 97, 98, 99, 100, 101, 102, 103, 104, 105, 106, 107, 108, 109, 110, 111, 112, 113, 114, 115, 116, 117, 118, 119, 120, 121, 122, 123, 124, 125, 126, 127, 128, 129, 130, 131, 132, 133, 134, 135, 136, 137, 138, 139, 140, 141, 142, 143, 144, 145, 146, 147, 148, 149, 150, 151, 152, 153, 154, 155, 156, 157, 158, 159, 160, 161, 162, 163, 164, 165, 166, 167, 168, 169, 170, 171, 172, 173, 174, 175, 176, 177, 178, 179, 180] (by decide +kernel) (by decide +kernel)
set_option maxRecDepth 20000 in
theorem gX2_hall_X2_comes : GoodIn wsX2_hall (wsV RX2 156 RX2 yX2_comes wsX2_comes) := goodIn_app (goodIn_of _ (by decide +kernel)) ggX2_hall_X2_comes
theorem dX2_hall_0 : decode cX2_hall 0 = .ok (.aload_n 0, 1) := by decide +kernel
theorem dX2_hall_1 : decode cX2_hall 1 = .ok (.iconst 0, 1) := by decide +kernel
theorem dX2_hall_2 : decode cX2_hall 2 = .ok (.putfield 87, 3) := by decide +kernel
theorem dX2_hall_5 : decode cX2_hall 5 = .ok (.aload_n 0, 1) := by decide +kernel
theorem dX2_hall_6 : decode cX2_hall 6 = .ok (.iconst 0, 1) := by decide +kernel
theorem dX2_hall_7 : decode cX2_hall 7 = .ok (.putfield 112, 3) := by decide +kernel
theorem dX2_hall_10 : decode cX2_hall 10 = .ok (.iconst 1, 1) := by decide +kernel
theorem dX2_hall_11 : decode cX2_hall 11 = .ok (.istore_n 1, 1) := by decide +kernel
theorem dX2_hall_12 : decode cX2_hall 12 = .ok (.iload_n 1, 1) := by decide +kernel
theorem dX2_hall_13 : decode cX2_hall 13 = .ok (.ifCond .eq 47, 3) := by decide +kernel
theorem dX2_hall_16 : decode cX2_hall 16 = .ok (.aload_n 0, 1) := by decide +kernel
theorem dX2_hall_17 : decode cX2_hall 17 = .ok (.getfield 87, 3) := by decide +kernel
theorem dX2_hall_20 : decode cX2_hall 20 = .ok (.aload_n 0, 1) := by decide +kernel
theorem dX2_hall_21 : decode cX2_hall 21 = .ok (.getfield 80, 3) := by decide +kernel
theorem dX2_hall_24 : decode cX2_hall 24 = .ok (.if_icmp .lt 10, 3) := by decide +kernel
theorem dX2_hall_27 : decode cX2_hall 27 = .ok (.aload_n 0, 1) := by decide +kernel
theorem dX2_hall_28 : decode cX2_hall 28 = .ok (.getfield 112, 3) := by decide +kernel
theorem dX2_hall_31 : decode cX2_hall 31 = .ok (.ifCond .ne 29, 3) := by decide +kernel
theorem dX2_hall_34 : decode cX2_hall 34 = .ok (.aload_n 0, 1) := by decide +kernel
theorem dX2_hall_35 : decode cX2_hall 35 = .ok (.invokevirtual 148, 3) := by decide +kernel
theorem dX2_hall_38 : decode cX2_hall 38 = .ok (.istore_n 1, 1) := by decide +kernel
theorem dX2_hall_39 : decode cX2_hall 39 = .ok (.aload_n 0, 1) := by decide +kernel
theorem dX2_hall_40 : decode cX2_hall 40 = .ok (.dup, 1) := by decide +kernel
theorem dX2_hall_41 : decode cX2_hall 41 = .ok (.getfield 112, 3) := by decide +kernel
theorem dX2_hall_44 : decode cX2_hall 44 = .ok (.iload_n 1, 1) := by decide +kernel
theorem dX2_hall_45 : decode cX2_hall 45 = .ok (.ifCond .eq 7, 3) := by decide +kernel
theorem dX2_hall_48 : decode cX2_hall 48 = .ok (.iconst 1, 1) := by decide +kernel
theorem dX2_hall_49 : decode cX2_hall 49 = .ok (.goto 4, 3) := by decide +kernel
theorem dX2_hall_52 : decode cX2_hall 52 = .ok (.iconst 0, 1) := by decide +kernel
theorem dX2_hall_53 : decode cX2_hall 53 = .ok (.iadd, 1) := by decide +kernel
theorem dX2_hall_54 : decode cX2_hall 54 = .ok (.putfield 112, 3) := by decide +kernel
theorem dX2_hall_57 : decode cX2_hall 57 = .ok (.goto (-45), 3) := by decide +kernel
theorem dX2_hall_60 : decode cX2_hall 60 = .ok (.aload_n 0, 1) := by decide +kernel
theorem dX2_hall_61 : decode cX2_hall 61 = .ok (.iconst 0, 1) := by decide +kernel
theorem dX2_hall_62 : decode cX2_hall 62 = .ok (.putfield 80, 3) := by decide +kernel
theorem dX2_hall_65 : decode cX2_hall 65 = .ok (.iload_n 1, 1) := by decide +kernel
theorem dX2_hall_66 : decode cX2_hall 66 = .ok (.ifCond .ne 12, 3) := by decide +kernel
theorem dX2_hall_69 : decode cX2_hall 69 = .ok (.sipush (-1000), 3) := by decide +kernel
theorem dX2_hall_72 : decode cX2_hall 72 = .ok (.aload_n 0, 1) := by decide +kernel
theorem dX2_hall_73 : decode cX2_hall 73 = .ok (.getfield 87, 3) := by decide +kernel
theorem dX2_hall_76 : decode cX2_hall 76 = .ok (.isub, 1) := by decide +kernel
theorem dX2_hall_77 : decode cX2_hall 77 = .ok (.ireturn, 1) := by decide +kernel
theorem dX2_hall_78 : decode cX2_hall 78 = .ok (.aload_n 0, 1) := by decide +kernel
theorem dX2_hall_79 : decode cX2_hall 79 = .ok (.iconst 1, 1) := by decide +kernel
theorem dX2_hall_80 : decode cX2_hall 80 = .ok (.iconst 1, 1) := by decide +kernel
theorem dX2_hall_81 : decode cX2_hall 81 = .ok (.invokevirtual 152, 3) := by decide +kernel
theorem dX2_hall_84 : decode cX2_hall 84 = .ok (.iconst 0, 1) := by decide +kernel
theorem dX2_hall_85 : decode cX2_hall 85 = .ok (.istore_n 2, 1) := by decide +kernel
theorem dX2_hall_86 : decode cX2_hall 86 = .ok (.iload_n 2, 1) := by decide +kernel
theorem dX2_hall_87 : decode cX2_hall 87 = .ok (.aload_n 0, 1) := by decide +kernel
theorem dX2_hall_88 : decode cX2_hall 88 = .ok (.getfield 112, 3) := by decide +kernel
theorem dX2_hall_91 : decode cX2_hall 91 = .ok (.if_icmp .ge 37, 3) := by decide +kernel
theorem dX2_hall_94 : decode cX2_hall 94 = .ok (.aload_n 0, 1) := by decide +kernel
theorem dX2_hall_95 : decode cX2_hall 95 = .ok (.iload_n 2, 1) := by decide +kernel
theorem dX2_hall_96 : decode cX2_hall 96 = .ok (.invokevirtual 156, 3) := by decide +kernel
theorem dX2_hall_99 : decode cX2_hall 99 = .ok (.ifCond .eq 6, 3) := by decide +kernel
theorem dX2_hall_102 : decode cX2_hall 102 = .ok (.goto 20, 3) := by decide +kernel
theorem dX2_hall_105 : decode cX2_hall 105 = .ok (.aload_n 0, 1) := by decide +kernel
theorem dX2_hall_106 : decode cX2_hall 106 = .ok (.iconst 1, 1) := by decide +kernel
theorem dX2_hall_107 : decode cX2_hall 107 = .ok (.iconst 0, 1) := by decide +kernel
theorem dX2_hall_108 : decode cX2_hall 108 = .ok (.invokevirtual 152, 3) := by decide +kernel
theorem dX2_hall_111 : decode cX2_hall 111 = .ok (.sipush (-2000), 3) := by decide +kernel
theorem dX2_hall_114 : decode cX2_hall 114 = .ok (.aload_n 0, 1) := by decide +kernel
theorem dX2_hall_115 : decode cX2_hall 115 = .ok (.getfield 49, 3) := by decide +kernel
theorem dX2_hall_118 : decode cX2_hall 118 = .ok (.iload_n 2, 1) := by decide +kernel
theorem dX2_hall_119 : decode cX2_hall 119 = .ok (.iaload, 1) := by decide +kernel
theorem dX2_hall_120 : decode cX2_hall 120 = .ok (.isub, 1) := by decide +kernel
theorem dX2_hall_121 : decode cX2_hall 121 = .ok (.ireturn, 1) := by decide +kernel
theorem dX2_hall_122 : decode cX2_hall 122 = .ok (.iinc 2 1, 3) := by decide +kernel
theorem dX2_hall_125 : decode cX2_hall 125 = .ok (.goto (-39), 3) := by decide +kernel
theorem dX2_hall_128 : decode cX2_hall 128 = .ok (.aload_n 0, 1) := by decide +kernel
theorem dX2_hall_129 : decode cX2_hall 129 = .ok (.getfield 112, 3) := by decide +kernel
theorem dX2_hall_132 : decode cX2_hall 132 = .ok (.ireturn, 1) := by decide +kernel
theorem dX2_passes_0 : decode cX2_passes 0 = .ok (.iconst 0, 1) := by decide +kernel
theorem dX2_passes_1 : decode cX2_passes 1 = .ok (.istore_n 2, 1) := by decide +kernel
theorem dX2_passes_2 : decode cX2_passes 2 = .ok (.iload_n 2, 1) := by decide +kernel
theorem dX2_passes_3 : decode cX2_passes 3 = .ok (.aload_n 1, 1) := by decide +kernel
theorem dX2_passes_4 : decode cX2_passes 4 = .ok (.arraylength, 1) := by decide +kernel
theorem dX2_passes_5 : decode cX2_passes 5 = .ok (.if_icmp .ge 53, 3) := by decide +kernel
theorem dX2_passes_8 : decode cX2_passes 8 = .ok (.aload_n 0, 1) := by decide +kernel
theorem dX2_passes_9 : decode cX2_passes 9 = .ok (.getfield 159, 3) := by decide +kernel
theorem dX2_passes_12 : decode cX2_passes 12 = .ok (.ifCond .eq 18, 3) := by decide +kernel
theorem dX2_passes_15 : decode cX2_passes 15 = .ok (.aload_n 0, 1) := by decide +kernel
theorem dX2_passes_16 : decode cX2_passes 16 = .ok (.getfield 55, 3) := by decide +kernel
theorem dX2_passes_19 : decode cX2_passes 19 = .ok (.aload_n 0, 1) := by decide +kernel
theorem dX2_passes_20 : decode cX2_passes 20 = .ok (.getfield 163, 3) := by decide +kernel
theorem dX2_passes_23 : decode cX2_passes 23 = .ok (.aload_n 1, 1) := by decide +kernel
theorem dX2_passes_24 : decode cX2_passes 24 = .ok (.iload_n 2, 1) := by decide +kernel
theorem dX2_passes_25 : decode cX2_passes 25 = .ok (.iaload, 1) := by decide +kernel
theorem dX2_passes_26 : decode cX2_passes 26 = .ok (.iastore, 1) := by decide +kernel
theorem dX2_passes_27 : decode cX2_passes 27 = .ok (.goto 15, 3) := by decide +kernel
theorem dX2_passes_30 : decode cX2_passes 30 = .ok (.aload_n 1, 1) := by decide +kernel
theorem dX2_passes_31 : decode cX2_passes 31 = .ok (.iload_n 2, 1) := by decide +kernel
theorem dX2_passes_32 : decode cX2_passes 32 = .ok (.aload_n 0, 1) := by decide +kernel
theorem dX2_passes_33 : decode cX2_passes 33 = .ok (.getfield 55, 3) := by decide +kernel
theorem dX2_passes_36 : decode cX2_passes 36 = .ok (.aload_n 0, 1) := by decide +kernel
theorem dX2_passes_37 : decode cX2_passes 37 = .ok (.getfield 163, 3) := by decide +kernel
theorem dX2_passes_40 : decode cX2_passes 40 = .ok (.iaload, 1) := by decide +kernel
theorem dX2_passes_41 : decode cX2_passes 41 = .ok (.iastore, 1) := by decide +kernel
theorem dX2_passes_42 : decode cX2_passes 42 = .ok (.aload_n 0, 1) := by decide +kernel
theorem dX2_passes_43 : decode cX2_passes 43 = .ok (.dup, 1) := by decide +kernel
theorem dX2_passes_44 : decode cX2_passes 44 = .ok (.getfield 163, 3) := by decide +kernel
theorem dX2_passes_47 : decode cX2_passes 47 = .ok (.iconst 1, 1) := by decide +kernel
theorem dX2_passes_48 : decode cX2_passes 48 = .ok (.iadd, 1) := by decide +kernel
theorem dX2_passes_49 : decode cX2_passes 49 = .ok (.putfield 163, 3) := by decide +kernel
theorem dX2_passes_52 : decode cX2_passes 52 = .ok (.iinc 2 1, 3) := by decide +kernel
theorem dX2_passes_55 : decode cX2_passes 55 = .ok (.goto (-53), 3) := by decide +kernel
theorem dX2_passes_58 : decode cX2_passes 58 = .ok (.return_, 1) := by decide +kernel
theorem dX2_passOne_0 : decode cX2_passOne 0 = .ok (.aload_n 0, 1) := by decide +kernel
theorem dX2_passOne_1 : decode cX2_passOne 1 = .ok (.getfield 159, 3) := by decide +kernel
theorem dX2_passOne_4 : decode cX2_passOne 4 = .ok (.ifCond .eq 7, 3) := by decide +kernel
theorem dX2_passOne_7 : decode cX2_passOne 7 = .ok (.iload_n 1, 1) := by decide +kernel
theorem dX2_passOne_8 : decode cX2_passOne 8 = .ok (.goto 12, 3) := by decide +kernel
theorem dX2_passOne_11 : decode cX2_passOne 11 = .ok (.aload_n 0, 1) := by decide +kernel
theorem dX2_passOne_12 : decode cX2_passOne 12 = .ok (.getfield 55, 3) := by decide +kernel
theorem dX2_passOne_15 : decode cX2_passOne 15 = .ok (.aload_n 0, 1) := by decide +kernel
theorem dX2_passOne_16 : decode cX2_passOne 16 = .ok (.getfield 163, 3) := by decide +kernel
theorem dX2_passOne_19 : decode cX2_passOne 19 = .ok (.iaload, 1) := by decide +kernel
theorem dX2_passOne_20 : decode cX2_passOne 20 = .ok (.istore_n 2, 1) := by decide +kernel
theorem dX2_passOne_21 : decode cX2_passOne 21 = .ok (.aload_n 0, 1) := by decide +kernel
theorem dX2_passOne_22 : decode cX2_passOne 22 = .ok (.getfield 159, 3) := by decide +kernel
theorem dX2_passOne_25 : decode cX2_passOne 25 = .ok (.ifCond .eq 13, 3) := by decide +kernel
theorem dX2_passOne_28 : decode cX2_passOne 28 = .ok (.aload_n 0, 1) := by decide +kernel
theorem dX2_passOne_29 : decode cX2_passOne 29 = .ok (.getfield 55, 3) := by decide +kernel
theorem dX2_passOne_32 : decode cX2_passOne 32 = .ok (.aload_n 0, 1) := by decide +kernel
theorem dX2_passOne_33 : decode cX2_passOne 33 = .ok (.getfield 163, 3) := by decide +kernel
theorem dX2_passOne_36 : decode cX2_passOne 36 = .ok (.iload_n 1, 1) := by decide +kernel
theorem dX2_passOne_37 : decode cX2_passOne 37 = .ok (.iastore, 1) := by decide +kernel
theorem dX2_passOne_38 : decode cX2_passOne 38 = .ok (.aload_n 0, 1) := by decide +kernel
theorem dX2_passOne_39 : decode cX2_passOne 39 = .ok (.dup, 1) := by decide +kernel
theorem dX2_passOne_40 : decode cX2_passOne 40 = .ok (.getfield 163, 3) := by decide +kernel
theorem dX2_passOne_43 : decode cX2_passOne 43 = .ok (.iconst 1, 1) := by decide +kernel
theorem dX2_passOne_44 : decode cX2_passOne 44 = .ok (.iadd, 1) := by decide +kernel
theorem dX2_passOne_45 : decode cX2_passOne 45 = .ok (.putfield 163, 3) := by decide +kernel
theorem dX2_passOne_48 : decode cX2_passOne 48 = .ok (.iload_n 2, 1) := by decide +kernel
theorem dX2_passOne_49 : decode cX2_passOne 49 = .ok (.ireturn, 1) := by decide +kernel
set_option maxRecDepth 20000 in
theorem ggX2_passesAll_X2_passes : GoodIn wsX2_passesAll wsX2_passes := goodIn_r _ [20, 2, 21, 1, 26, 27, 28, 29, 30, 31, 32, 33, 34, 35, 36, 37, 38, 39, 40, 41, 42, 43, 44, 45, 46, 47, 48, 49, 50, 51, 52, 53, 54, 55, 56] (by decide +kernel) (by decide +kernel)
set_option maxRecDepth 20000 in
theorem gX2_passesAll_X2_passes : GoodIn wsX2_passesAll (wsV RX2 166 RX2 yX2_passes wsX2_passes) := goodIn_app (goodIn_of _ (by decide +kernel)) ggX2_passesAll_X2_passes
set_option maxRecDepth 20000 in
theorem ggX2_passesAll_X2_passOne : GoodIn wsX2_passesAll wsX2_passOne := goodIn_r _ [25, 2, 21, 1, 26, 27, 28, 29, 30, 31, 32, 33, 34, 35, 36, 37, 38, 39, 40, 41, 42, 43, 44, 45, 46, 47, 48, 49, 50, 51, 52, 53, 54, 55, 56] (by decide +kernel) (by decide +kernel)
set_option maxRecDepth 20000 in
theorem gX2_passesAll_X2_passOne : GoodIn wsX2_passesAll (wsV RX2 170 RX2 yX2_passOne wsX2_passOne) := goodIn_app (goodIn_of _ (by decide +kernel)) ggX2_passesAll_X2_passOne
theorem dX2_passesAll_0 : decode cX2_passesAll 0 = .ok (.aload_n 0, 1) := by decide +kernel
theorem dX2_passesAll_1 : decode cX2_passesAll 1 = .ok (.bipush 75, 2) := by decide +kernel
theorem dX2_passesAll_3 : decode cX2_passesAll 3 = .ok (.iload_n 1, 1) := by decide +kernel
theorem dX2_passesAll_4 : decode cX2_passesAll 4 = .ok (.imul, 1) := by decide +kernel
theorem dX2_passesAll_5 : decode cX2_passesAll 5 = .ok (.putfield 163, 3) := by decide +kernel
theorem dX2_passesAll_8 : decode cX2_passesAll 8 = .ok (.aload_n 0, 1) := by decide +kernel
theorem dX2_passesAll_9 : decode cX2_passesAll 9 = .ok (.iload_n 2, 1) := by decide +kernel
theorem dX2_passesAll_10 : decode cX2_passesAll 10 = .ok (.putfield 159, 3) := by decide +kernel
theorem dX2_passesAll_13 : decode cX2_passesAll 13 = .ok (.aload_n 0, 1) := by decide +kernel
theorem dX2_passesAll_14 : decode cX2_passesAll 14 = .ok (.aload_n 0, 1) := by decide +kernel
theorem dX2_passesAll_15 : decode cX2_passesAll 15 = .ok (.getfield 13, 3) := by decide +kernel
theorem dX2_passesAll_18 : decode cX2_passesAll 18 = .ok (.invokevirtual 166, 3) := by decide +kernel
theorem dX2_passesAll_21 : decode cX2_passesAll 21 = .ok (.aload_n 0, 1) := by decide +kernel
theorem dX2_passesAll_22 : decode cX2_passesAll 22 = .ok (.aload_n 0, 1) := by decide +kernel
theorem dX2_passesAll_23 : decode cX2_passesAll 23 = .ok (.getfield 16, 3) := by decide +kernel
theorem dX2_passesAll_26 : decode cX2_passesAll 26 = .ok (.invokevirtual 166, 3) := by decide +kernel
theorem dX2_passesAll_29 : decode cX2_passesAll 29 = .ok (.aload_n 0, 1) := by decide +kernel
theorem dX2_passesAll_30 : decode cX2_passesAll 30 = .ok (.aload_n 0, 1) := by decide +kernel
theorem dX2_passesAll_31 : decode cX2_passesAll 31 = .ok (.getfield 19, 3) := by decide +kernel
theorem dX2_passesAll_34 : decode cX2_passesAll 34 = .ok (.invokevirtual 166, 3) := by decide +kernel
theorem dX2_passesAll_37 : decode cX2_passesAll 37 = .ok (.aload_n 0, 1) := by decide +kernel
theorem dX2_passesAll_38 : decode cX2_passesAll 38 = .ok (.aload_n 0, 1) := by decide +kernel
theorem dX2_passesAll_39 : decode cX2_passesAll 39 = .ok (.getfield 22, 3) := by decide +kernel
theorem dX2_passesAll_42 : decode cX2_passesAll 42 = .ok (.invokevirtual 166, 3) := by decide +kernel
theorem dX2_passesAll_45 : decode cX2_passesAll 45 = .ok (.aload_n 0, 1) := by decide +kernel
theorem dX2_passesAll_46 : decode cX2_passesAll 46 = .ok (.aload_n 0, 1) := by decide +kernel
theorem dX2_passesAll_47 : decode cX2_passesAll 47 = .ok (.getfield 25, 3) := by decide +kernel
theorem dX2_passesAll_50 : decode cX2_passesAll 50 = .ok (.invokevirtual 166, 3) := by decide +kernel
theorem dX2_passesAll_53 : decode cX2_passesAll 53 = .ok (.aload_n 0, 1) := by decide +kernel
theorem dX2_passesAll_54 : decode cX2_passesAll 54 = .ok (.aload_n 0, 1) := by decide +kernel
theorem dX2_passesAll_55 : decode cX2_passesAll 55 = .ok (.getfield 28, 3) := by decide +kernel
theorem dX2_passesAll_58 : decode cX2_passesAll 58 = .ok (.invokevirtual 166, 3) := by decide +kernel
theorem dX2_passesAll_61 : decode cX2_passesAll 61 = .ok (.aload_n 0, 1) := by decide +kernel
theorem dX2_passesAll_62 : decode cX2_passesAll 62 = .ok (.aload_n 0, 1) := by decide +kernel
theorem dX2_passesAll_63 : decode cX2_passesAll 63 = .ok (.getfield 31, 3) := by decide +kernel
theorem dX2_passesAll_66 : decode cX2_passesAll 66 = .ok (.invokevirtual 166, 3) := by decide +kernel
theorem dX2_passesAll_69 : decode cX2_passesAll 69 = .ok (.aload_n 0, 1) := by decide +kernel
theorem dX2_passesAll_70 : decode cX2_passesAll 70 = .ok (.aload_n 0, 1) := by decide +kernel
theorem dX2_passesAll_71 : decode cX2_passesAll 71 = .ok (.getfield 34, 3) := by decide +kernel
theorem dX2_passesAll_74 : decode cX2_passesAll 74 = .ok (.invokevirtual 166, 3) := by decide +kernel
theorem dX2_passesAll_77 : decode cX2_passesAll 77 = .ok (.aload_n 0, 1) := by decide +kernel
theorem dX2_passesAll_78 : decode cX2_passesAll 78 = .ok (.aload_n 0, 1) := by decide +kernel
theorem dX2_passesAll_79 : decode cX2_passesAll 79 = .ok (.getfield 37, 3) := by decide +kernel
theorem dX2_passesAll_82 : decode cX2_passesAll 82 = .ok (.invokevirtual 166, 3) := by decide +kernel
theorem dX2_passesAll_85 : decode cX2_passesAll 85 = .ok (.aload_n 0, 1) := by decide +kernel
theorem dX2_passesAll_86 : decode cX2_passesAll 86 = .ok (.aload_n 0, 1) := by decide +kernel
theorem dX2_passesAll_87 : decode cX2_passesAll 87 = .ok (.getfield 40, 3) := by decide +kernel
theorem dX2_passesAll_90 : decode cX2_passesAll 90 = .ok (.invokevirtual 166, 3) := by decide +kernel
theorem dX2_passesAll_93 : decode cX2_passesAll 93 = .ok (.aload_n 0, 1) := by decide +kernel
theorem dX2_passesAll_94 : decode cX2_passesAll 94 = .ok (.aload_n 0, 1) := by decide +kernel
theorem dX2_passesAll_95 : decode cX2_passesAll 95 = .ok (.aload_n 0, 1) := by decide +kernel
theorem dX2_passesAll_96 : decode cX2_passesAll 96 = .ok (.getfield 67, 3) := by decide +kernel
theorem dX2_passesAll_99 : decode cX2_passesAll 99 = .ok (.invokevirtual 170, 3) := by decide +kernel
theorem dX2_passesAll_102 : decode cX2_passesAll 102 = .ok (.putfield 67, 3) := by decide +kernel
theorem dX2_passesAll_105 : decode cX2_passesAll 105 = .ok (.aload_n 0, 1) := by decide +kernel
theorem dX2_passesAll_106 : decode cX2_passesAll 106 = .ok (.aload_n 0, 1) := by decide +kernel
theorem dX2_passesAll_107 : decode cX2_passesAll 107 = .ok (.aload_n 0, 1) := by decide +kernel
theorem dX2_passesAll_108 : decode cX2_passesAll 108 = .ok (.getfield 73, 3) := by decide +kernel
theorem dX2_passesAll_111 : decode cX2_passesAll 111 = .ok (.invokevirtual 170, 3) := by decide +kernel
theorem dX2_passesAll_114 : decode cX2_passesAll 114 = .ok (.putfield 73, 3) := by decide +kernel
theorem dX2_passesAll_117 : decode cX2_passesAll 117 = .ok (.aload_n 0, 1) := by decide +kernel
theorem dX2_passesAll_118 : decode cX2_passesAll 118 = .ok (.aload_n 0, 1) := by decide +kernel
theorem dX2_passesAll_119 : decode cX2_passesAll 119 = .ok (.aload_n 0, 1) := by decide +kernel
theorem dX2_passesAll_120 : decode cX2_passesAll 120 = .ok (.getfield 129, 3) := by decide +kernel
theorem dX2_passesAll_123 : decode cX2_passesAll 123 = .ok (.invokevirtual 170, 3) := by decide +kernel
theorem dX2_passesAll_126 : decode cX2_passesAll 126 = .ok (.putfield 129, 3) := by decide +kernel
theorem dX2_passesAll_129 : decode cX2_passesAll 129 = .ok (.return_, 1) := by decide +kernel
set_option maxRecDepth 20000 in
theorem ggX2_thinks_X2_passesAll : GoodIn wsX2_thinks wsX2_passesAll := goodIn_r _ [5, 6, 7, 8, 9, 10, 11, 12, 13, 14, 15, 16, 17, 18, 19, 20, 21, 22, 23, 4, 24, 25, 26, 27, 28, 29, 30, 31, 32, 33, 34, 35, 36, 37, 38, 39, 40, 41, 42, 43, 44, 45, 46, 47, 48, 49, 50, 51, 52, 53, 54, 55, 56, 57, 58, 59, 60] (by decide +kernel) (by decide +kernel)
set_option maxRecDepth 20000 in
theorem gX2_thinks_X2_passesAll : GoodIn wsX2_thinks (wsV RX2 152 RX2 yX2_passesAll wsX2_passesAll) := goodIn_app (goodIn_of _ (by decide +kernel)) ggX2_thinks_X2_passesAll
theorem dX2_thinks_0 : decode cX2_thinks 0 = .ok (.aload_n 0, 1) := by decide +kernel
theorem dX2_thinks_1 : decode cX2_thinks 1 = .ok (.iconst 2, 1) := by decide +kernel
theorem dX2_thinks_2 : decode cX2_thinks 2 = .ok (.iconst 1, 1) := by decide +kernel
theorem dX2_thinks_3 : decode cX2_thinks 3 = .ok (.invokevirtual 152, 3) := by decide +kernel
theorem dX2_thinks_6 : decode cX2_thinks 6 = .ok (.return_, 1) := by decide +kernel
set_option maxRecDepth 20000 in
theorem ggX2_forgets_X2_passesAll : GoodIn wsX2_forgets wsX2_passesAll := goodIn_r _ [5, 6, 7, 8, 9, 10, 11, 12, 13, 14, 15, 16, 17, 18, 19, 20, 21, 22, 23, 4, 24, 25, 26, 27, 28, 29, 30, 31, 32, 33, 34, 35, 36, 37, 38, 39, 40, 41, 42, 43, 44, 45, 46, 47, 48, 49, 50, 51, 52, 53, 54, 55, 56, 57, 58, 59, 60] (by decide +kernel) (by decide +kernel)
set_option maxRecDepth 20000 in
theorem gX2_forgets_X2_passesAll : GoodIn wsX2_forgets (wsV RX2 152 RX2 yX2_passesAll wsX2_passesAll) := goodIn_app (goodIn_of _ (by decide +kernel)) ggX2_forgets_X2_passesAll
theorem dX2_forgets_0 : decode cX2_forgets 0 = .ok (.aload_n 0, 1) := by decide +kernel
theorem dX2_forgets_1 : decode cX2_forgets 1 = .ok (.iconst 2, 1) := by decide +kernel
theorem dX2_forgets_2 : decode cX2_forgets 2 = .ok (.iconst 0, 1) := by decide +kernel
theorem dX2_forgets_3 : decode cX2_forgets 3 = .ok (.invokevirtual 152, 3) := by decide +kernel
theorem dX2_forgets_6 : decode cX2_forgets 6 = .ok (.return_, 1) := by decide +kernel
set_option maxRecDepth 20000 in
theorem ggX2_changes_X2_passesAll : GoodIn wsX2_changes wsX2_passesAll := goodIn_r _ [5, 6, 7, 8, 9, 10, 11, 12, 13, 14, 15, 16, 17, 18, 19, 20, 21, 22, 23, 4, 24, 25, 26, 27, 28, 29, 30, 31, 32, 33, 34, 35, 36, 37, 38, 39, 40, 41, 42, 43, 44, 45, 46, 47, 48, 49, 50, 51, 52, 53, 54, 55, 56, 57, 58, 59, 60] (by decide +kernel) (by decide +kernel)
set_option maxRecDepth 20000 in
theorem gX2_changes_X2_passesAll : GoodIn wsX2_changes (wsV RX2 152 RX2 yX2_passesAll wsX2_passesAll) := goodIn_app (goodIn_of _ (by decide +kernel)) ggX2_changes_X2_passesAll
theorem dX2_changes_0 : decode cX2_changes 0 = .ok (.aload_n 0, 1) := by decide +kernel
theorem dX2_changes_1 : decode cX2_changes 1 = .ok (.iconst 1, 1) := by decide +kernel
theorem dX2_changes_2 : decode cX2_changes 2 = .ok (.iconst 1, 1) := by decide +kernel
theorem dX2_changes_3 : decode cX2_changes 3 = .ok (.invokevirtual 152, 3) := by decide +kernel
theorem dX2_changes_6 : decode cX2_changes 6 = .ok (.return_, 1) := by decide +kernel
set_option maxRecDepth 20000 in
theorem ggX2_changesBack_X2_passesAll : GoodIn wsX2_changesBack wsX2_passesAll := goodIn_r _ [5, 6, 7, 8, 9, 10, 11, 12, 13, 14, 15, 16, 17, 18, 19, 20, 21, 22, 23, 4, 24, 25, 26, 27, 28, 29, 30, 31, 32, 33, 34, 35, 36, 37, 38, 39, 40, 41, 42, 43, 44, 45, 46, 47, 48, 49, 50, 51, 52, 53, 54, 55, 56, 57, 58, 59, 60] (by decide +kernel) (by decide +kernel)
set_option maxRecDepth 20000 in
theorem gX2_changesBack_X2_passesAll : GoodIn wsX2_changesBack (wsV RX2 152 RX2 yX2_passesAll wsX2_passesAll) := goodIn_app (goodIn_of _ (by decide +kernel)) ggX2_changesBack_X2_passesAll
theorem dX2_changesBack_0 : decode cX2_changesBack 0 = .ok (.aload_n 0, 1) := by decide +kernel
theorem dX2_changesBack_1 : decode cX2_changesBack 1 = .ok (.iconst 1, 1) := by decide +kernel
theorem dX2_changesBack_2 : decode cX2_changesBack 2 = .ok (.iconst 0, 1) := by decide +kernel
theorem dX2_changesBack_3 : decode cX2_changesBack 3 = .ok (.invokevirtual 152, 3) := by decide +kernel
theorem dX2_changesBack_6 : decode cX2_changesBack 6 = .ok (.return_, 1) := by decide +kernel
set_option maxRecDepth 20000 in
theorem ggX2_image_X2_passesAll : GoodIn wsX2_image wsX2_passesAll := goodIn_r _ [7, 8, 9, 10, 11, 12, 13, 14, 15, 16, 17, 18, 19, 20, 21, 2, 22, 23, 24, 6, 25, 26, 27, 28, 29, 30, 31, 32, 33, 34, 35, 36, 37, 38, 39, 40, 41, 42, 43, 44, 45, 46, 47, 48, 49, 50, 51, 52, 53, 54, 55, 56, 57, 58, 59, 60, 61] (by decide +kernel) (by decide +kernel)
set_option maxRecDepth 20000 in
theorem gX2_image_X2_passesAll : GoodIn wsX2_image (wsV RX2 152 RX2 yX2_passesAll wsX2_passesAll) := goodIn_app (goodIn_of _ (by decide +kernel)) ggX2_image_X2_passesAll
theorem dX2_image_0 : decode cX2_image 0 = .ok (.aload_n 0, 1) := by decide +kernel
theorem dX2_image_1 : decode cX2_image 1 = .ok (.iconst 1, 1) := by decide +kernel
theorem dX2_image_2 : decode cX2_image 2 = .ok (.putfield 173, 3) := by decide +kernel
theorem dX2_image_5 : decode cX2_image 5 = .ok (.aload_n 0, 1) := by decide +kernel
theorem dX2_image_6 : decode cX2_image 6 = .ok (.iconst 0, 1) := by decide +kernel
theorem dX2_image_7 : decode cX2_image 7 = .ok (.iconst 1, 1) := by decide +kernel
theorem dX2_image_8 : decode cX2_image 8 = .ok (.invokevirtual 152, 3) := by decide +kernel
theorem dX2_image_11 : decode cX2_image 11 = .ok (.aload_n 0, 1) := by decide +kernel
theorem dX2_image_12 : decode cX2_image 12 = .ok (.getfield 129, 3) := by decide +kernel
theorem dX2_image_15 : decode cX2_image 15 = .ok (.ireturn, 1) := by decide +kernel
set_option maxRecDepth 20000 in
theorem ggX2_on_X2_no : GoodIn wsX2_on wsX2_no := goodIn_r _ [7, 8, 36, 37, 38, 39, 40, 41, 42, 43, 44, 45, 46, 47, 48, 49, 50, 51, 52, 53, 54, 55, 56, 57, 58, 59, 60, 61, 62, 63, 64, 65, 66] (by decide +kernel) (by decide +kernel)
set_option maxRecDepth 20000 in
theorem gX2_on_X2_no : GoodIn wsX2_on (wsV RX2 83 RX2 yX2_no wsX2_no) := goodIn_app (goodIn_of _ (by decide +kernel)) ggX2_on_X2_no
set_option maxRecDepth 20000 in
theorem ggX2_on_X2_passesAll : GoodIn wsX2_on wsX2_passesAll := goodIn_r _ [12, 13, 14, 15, 16, 17, 18, 19, 20, 21, 22, 23, 24, 25, 26, 2, 27, 28, 29, 6, 30, 31, 32, 33, 34, 35, 36, 37, 38, 39, 40, 41, 42, 43, 44, 45, 46, 47, 48, 49, 50, 51, 52, 53, 54, 55, 56, 57, 58, 59, 60, 61, 62, 63, 64, 65, 66] (by decide +kernel) (by decide +kernel)
set_option maxRecDepth 20000 in
theorem gX2_on_X2_passesAll : GoodIn wsX2_on (wsV RX2 152 RX2 yX2_passesAll wsX2_passesAll) := goodIn_app (goodIn_of _ (by decide +kernel)) ggX2_on_X2_passesAll
theorem dX2_on_0 : decode cX2_on 0 = .ok (.aload_n 0, 1) := by decide +kernel
theorem dX2_on_1 : decode cX2_on 1 = .ok (.getfield 173, 3) := by decide +kernel
theorem dX2_on_4 : decode cX2_on 4 = .ok (.ifCond .ne 10, 3) := by decide +kernel
theorem dX2_on_7 : decode cX2_on 7 = .ok (.aload_n 0, 1) := by decide +kernel
theorem dX2_on_8 : decode cX2_on 8 = .ok (.bipush (-3), 2) := by decide +kernel
theorem dX2_on_10 : decode cX2_on 10 = .ok (.invokevirtual 83, 3) := by decide +kernel
theorem dX2_on_13 : decode cX2_on 13 = .ok (.ireturn, 1) := by decide +kernel
theorem dX2_on_14 : decode cX2_on 14 = .ok (.aload_n 0, 1) := by decide +kernel
theorem dX2_on_15 : decode cX2_on 15 = .ok (.iconst 0, 1) := by decide +kernel
theorem dX2_on_16 : decode cX2_on 16 = .ok (.iconst 0, 1) := by decide +kernel
theorem dX2_on_17 : decode cX2_on 17 = .ok (.invokevirtual 152, 3) := by decide +kernel
theorem dX2_on_20 : decode cX2_on 20 = .ok (.aload_n 0, 1) := by decide +kernel
theorem dX2_on_21 : decode cX2_on 21 = .ok (.getfield 129, 3) := by decide +kernel
theorem dX2_on_24 : decode cX2_on 24 = .ok (.ireturn, 1) := by decide +kernel
theorem dX2_worth_0 : decode cX2_worth 0 = .ok (.aload_n 0, 1) := by decide +kernel
theorem dX2_worth_1 : decode cX2_worth 1 = .ok (.getfield 16, 3) := by decide +kernel
theorem dX2_worth_4 : decode cX2_worth 4 = .ok (.iload_n 1, 1) := by decide +kernel
theorem dX2_worth_5 : decode cX2_worth 5 = .ok (.iaload, 1) := by decide +kernel
theorem dX2_worth_6 : decode cX2_worth 6 = .ok (.iconst 3, 1) := by decide +kernel
theorem dX2_worth_7 : decode cX2_worth 7 = .ok (.iadd, 1) := by decide +kernel
theorem dX2_worth_8 : decode cX2_worth 8 = .ok (.istore_n 2, 1) := by decide +kernel
theorem dX2_worth_9 : decode cX2_worth 9 = .ok (.iload_n 2, 1) := by decide +kernel
theorem dX2_worth_10 : decode cX2_worth 10 = .ok (.aload_n 0, 1) := by decide +kernel
theorem dX2_worth_11 : decode cX2_worth 11 = .ok (.getfield 22, 3) := by decide +kernel
theorem dX2_worth_14 : decode cX2_worth 14 = .ok (.iload_n 1, 1) := by decide +kernel
theorem dX2_worth_15 : decode cX2_worth 15 = .ok (.iaload, 1) := by decide +kernel
theorem dX2_worth_16 : decode cX2_worth 16 = .ok (.iconst 3, 1) := by decide +kernel
theorem dX2_worth_17 : decode cX2_worth 17 = .ok (.idiv, 1) := by decide +kernel
theorem dX2_worth_18 : decode cX2_worth 18 = .ok (.if_icmp .le 16, 3) := by decide +kernel
theorem dX2_worth_21 : decode cX2_worth 21 = .ok (.iload_n 2, 1) := by decide +kernel
theorem dX2_worth_22 : decode cX2_worth 22 = .ok (.aload_n 0, 1) := by decide +kernel
theorem dX2_worth_23 : decode cX2_worth 23 = .ok (.getfield 22, 3) := by decide +kernel
theorem dX2_worth_26 : decode cX2_worth 26 = .ok (.iload_n 1, 1) := by decide +kernel
theorem dX2_worth_27 : decode cX2_worth 27 = .ok (.iaload, 1) := by decide +kernel
theorem dX2_worth_28 : decode cX2_worth 28 = .ok (.iconst 3, 1) := by decide +kernel
theorem dX2_worth_29 : decode cX2_worth 29 = .ok (.idiv, 1) := by decide +kernel
theorem dX2_worth_30 : decode cX2_worth 30 = .ok (.isub, 1) := by decide +kernel
theorem dX2_worth_31 : decode cX2_worth 31 = .ok (.goto 4, 3) := by decide +kernel
theorem dX2_worth_34 : decode cX2_worth 34 = .ok (.iconst 0, 1) := by decide +kernel
theorem dX2_worth_35 : decode cX2_worth 35 = .ok (.istore_n 3, 1) := by decide +kernel
theorem dX2_worth_36 : decode cX2_worth 36 = .ok (.aload_n 0, 1) := by decide +kernel
theorem dX2_worth_37 : decode cX2_worth 37 = .ok (.getfield 13, 3) := by decide +kernel
theorem dX2_worth_40 : decode cX2_worth 40 = .ok (.iload_n 1, 1) := by decide +kernel
theorem dX2_worth_41 : decode cX2_worth 41 = .ok (.iaload, 1) := by decide +kernel
theorem dX2_worth_42 : decode cX2_worth 42 = .ok (.tableswitch 50 1 5 #[34, 38, 42, 44, 46], 34) := by decide +kernel
theorem dX2_worth_76 : decode cX2_worth 76 = .ok (.iload_n 2, 1) := by decide +kernel
theorem dX2_worth_77 : decode cX2_worth 77 = .ok (.iconst 2, 1) := by decide +kernel
theorem dX2_worth_78 : decode cX2_worth 78 = .ok (.idiv, 1) := by decide +kernel
theorem dX2_worth_79 : decode cX2_worth 79 = .ok (.ireturn, 1) := by decide +kernel
theorem dX2_worth_80 : decode cX2_worth 80 = .ok (.iconst 4, 1) := by decide +kernel
theorem dX2_worth_81 : decode cX2_worth 81 = .ok (.iload_n 2, 1) := by decide +kernel
theorem dX2_worth_82 : decode cX2_worth 82 = .ok (.imul, 1) := by decide +kernel
theorem dX2_worth_83 : decode cX2_worth 83 = .ok (.ireturn, 1) := by decide +kernel
theorem dX2_worth_84 : decode cX2_worth 84 = .ok (.iload_n 3, 1) := by decide +kernel
theorem dX2_worth_85 : decode cX2_worth 85 = .ok (.ireturn, 1) := by decide +kernel
theorem dX2_worth_86 : decode cX2_worth 86 = .ok (.iconst 0, 1) := by decide +kernel
theorem dX2_worth_87 : decode cX2_worth 87 = .ok (.ireturn, 1) := by decide +kernel
theorem dX2_worth_88 : decode cX2_worth 88 = .ok (.iload_n 3, 1) := by decide +kernel
theorem dX2_worth_89 : decode cX2_worth 89 = .ok (.iconst 2, 1) := by decide +kernel
theorem dX2_worth_90 : decode cX2_worth 90 = .ok (.idiv, 1) := by decide +kernel
theorem dX2_worth_91 : decode cX2_worth 91 = .ok (.ireturn, 1) := by decide +kernel
theorem dX2_worth_92 : decode cX2_worth 92 = .ok (.iload_n 2, 1) := by decide +kernel
theorem dX2_worth_93 : decode cX2_worth 93 = .ok (.ireturn, 1) := by decide +kernel
theorem dX2_placeOf_0 : decode cX2_placeOf 0 = .ok (.iconst 0, 1) := by decide +kernel
theorem dX2_placeOf_1 : decode cX2_placeOf 1 = .ok (.istore_n 2, 1) := by decide +kernel
theorem dX2_placeOf_2 : decode cX2_placeOf 2 = .ok (.aload_n 0, 1) := by decide +kernel
theorem dX2_placeOf_3 : decode cX2_placeOf 3 = .ok (.getfield 28, 3) := by decide +kernel
theorem dX2_placeOf_6 : decode cX2_placeOf 6 = .ok (.iload_n 2, 1) := by decide +kernel
theorem dX2_placeOf_7 : decode cX2_placeOf 7 = .ok (.iaload, 1) := by decide +kernel
theorem dX2_placeOf_8 : decode cX2_placeOf 8 = .ok (.iload_n 1, 1) := by decide +kernel
theorem dX2_placeOf_9 : decode cX2_placeOf 9 = .ok (.if_icmp .eq 9, 3) := by decide +kernel
theorem dX2_placeOf_12 : decode cX2_placeOf 12 = .ok (.iinc 2 1, 3) := by decide +kernel
theorem dX2_placeOf_15 : decode cX2_placeOf 15 = .ok (.goto (-13), 3) := by decide +kernel
theorem dX2_placeOf_18 : decode cX2_placeOf 18 = .ok (.iload_n 2, 1) := by decide +kernel
theorem dX2_placeOf_19 : decode cX2_placeOf 19 = .ok (.ireturn, 1) := by decide +kernel
set_option maxRecDepth 20000 in
theorem ggX2_changesPlaces_X2_placeOf : GoodIn wsX2_changesPlaces wsX2_placeOf := goodIn_r _ [6, 1, 7, 8, 9, 10, 11, 12, 13, 14, 15, 16, 17, 18, 19, 20, 21, 22, 23, 24, 25, 26, 27, 28, 29, 30, 31, 32, 33, 34, 35, 36, 37] (by decide +kernel) (by decide +kernel)
set_option maxRecDepth 20000 in
theorem gX2_changesPlaces_X2_placeOf : GoodIn wsX2_changesPlaces (wsV RX2 176 RX2 yX2_placeOf wsX2_placeOf) := goodIn_app (goodIn_of _ (by decide +kernel)) ggX2_changesPlaces_X2_placeOf
theorem dX2_changesPlaces_0 : decode cX2_changesPlaces 0 = .ok (.aload_n 0, 1) := by decide +kernel
theorem dX2_changesPlaces_1 : decode cX2_changesPlaces 1 = .ok (.iload_n 1, 1) := by decide +kernel
theorem dX2_changesPlaces_2 : decode cX2_changesPlaces 2 = .ok (.invokevirtual 176, 3) := by decide +kernel
theorem dX2_changesPlaces_5 : decode cX2_changesPlaces 5 = .ok (.istore_n 3, 1) := by decide +kernel
theorem dX2_changesPlaces_6 : decode cX2_changesPlaces 6 = .ok (.aload_n 0, 1) := by decide +kernel
theorem dX2_changesPlaces_7 : decode cX2_changesPlaces 7 = .ok (.iload_n 2, 1) := by decide +kernel
theorem dX2_changesPlaces_8 : decode cX2_changesPlaces 8 = .ok (.invokevirtual 176, 3) := by decide +kernel
theorem dX2_changesPlaces_11 : decode cX2_changesPlaces 11 = .ok (.istore 4, 2) := by decide +kernel
theorem dX2_changesPlaces_13 : decode cX2_changesPlaces 13 = .ok (.aload_n 0, 1) := by decide +kernel
theorem dX2_changesPlaces_14 : decode cX2_changesPlaces 14 = .ok (.getfield 28, 3) := by decide +kernel
theorem dX2_changesPlaces_17 : decode cX2_changesPlaces 17 = .ok (.iload_n 3, 1) := by decide +kernel
theorem dX2_changesPlaces_18 : decode cX2_changesPlaces 18 = .ok (.iload_n 2, 1) := by decide +kernel
theorem dX2_changesPlaces_19 : decode cX2_changesPlaces 19 = .ok (.iastore, 1) := by decide +kernel
theorem dX2_changesPlaces_20 : decode cX2_changesPlaces 20 = .ok (.aload_n 0, 1) := by decide +kernel
theorem dX2_changesPlaces_21 : decode cX2_changesPlaces 21 = .ok (.getfield 28, 3) := by decide +kernel
theorem dX2_changesPlaces_24 : decode cX2_changesPlaces 24 = .ok (.iload 4, 2) := by decide +kernel
theorem dX2_changesPlaces_26 : decode cX2_changesPlaces 26 = .ok (.iload_n 1, 1) := by decide +kernel
theorem dX2_changesPlaces_27 : decode cX2_changesPlaces 27 = .ok (.iastore, 1) := by decide +kernel
theorem dX2_changesPlaces_28 : decode cX2_changesPlaces 28 = .ok (.return_, 1) := by decide +kernel
set_option maxRecDepth 20000 in
theorem ggX2_putsFirst_X2_placeOf : GoodIn wsX2_putsFirst wsX2_placeOf := goodIn_r _ [6, 1, 7, 8, 9, 10, 11, 12, 13, 14, 15, 16, 17, 18, 19, 20, 21, 22, 23, 24, 25, 26, 27, 28, 29, 30, 31, 32, 33, 34, 35, 36, 37] (by decide +kernel) (by decide +kernel)
set_option maxRecDepth 20000 in
theorem gX2_putsFirst_X2_placeOf : GoodIn wsX2_putsFirst (wsV RX2 176 RX2 yX2_placeOf wsX2_placeOf) := goodIn_app (goodIn_of _ (by decide +kernel)) ggX2_putsFirst_X2_placeOf
theorem dX2_putsFirst_0 : decode cX2_putsFirst 0 = .ok (.aload_n 0, 1) := by decide +kernel
theorem dX2_putsFirst_1 : decode cX2_putsFirst 1 = .ok (.iload_n 1, 1) := by decide +kernel
theorem dX2_putsFirst_2 : decode cX2_putsFirst 2 = .ok (.invokevirtual 176, 3) := by decide +kernel
theorem dX2_putsFirst_5 : decode cX2_putsFirst 5 = .ok (.istore_n 2, 1) := by decide +kernel
theorem dX2_putsFirst_6 : decode cX2_putsFirst 6 = .ok (.iload_n 2, 1) := by decide +kernel
theorem dX2_putsFirst_7 : decode cX2_putsFirst 7 = .ok (.ifCond .le 23, 3) := by decide +kernel
theorem dX2_putsFirst_10 : decode cX2_putsFirst 10 = .ok (.aload_n 0, 1) := by decide +kernel
theorem dX2_putsFirst_11 : decode cX2_putsFirst 11 = .ok (.getfield 28, 3) := by decide +kernel
theorem dX2_putsFirst_14 : decode cX2_putsFirst 14 = .ok (.iload_n 2, 1) := by decide +kernel
theorem dX2_putsFirst_15 : decode cX2_putsFirst 15 = .ok (.aload_n 0, 1) := by decide +kernel
theorem dX2_putsFirst_16 : decode cX2_putsFirst 16 = .ok (.getfield 28, 3) := by decide +kernel
theorem dX2_putsFirst_19 : decode cX2_putsFirst 19 = .ok (.iload_n 2, 1) := by decide +kernel
theorem dX2_putsFirst_20 : decode cX2_putsFirst 20 = .ok (.iconst 1, 1) := by decide +kernel
theorem dX2_putsFirst_21 : decode cX2_putsFirst 21 = .ok (.isub, 1) := by decide +kernel
theorem dX2_putsFirst_22 : decode cX2_putsFirst 22 = .ok (.iaload, 1) := by decide +kernel
theorem dX2_putsFirst_23 : decode cX2_putsFirst 23 = .ok (.iastore, 1) := by decide +kernel
theorem dX2_putsFirst_24 : decode cX2_putsFirst 24 = .ok (.iinc 2 (-1), 3) := by decide +kernel
theorem dX2_putsFirst_27 : decode cX2_putsFirst 27 = .ok (.goto (-21), 3) := by decide +kernel
theorem dX2_putsFirst_30 : decode cX2_putsFirst 30 = .ok (.aload_n 0, 1) := by decide +kernel
theorem dX2_putsFirst_31 : decode cX2_putsFirst 31 = .ok (.getfield 28, 3) := by decide +kernel
theorem dX2_putsFirst_34 : decode cX2_putsFirst 34 = .ok (.iconst 0, 1) := by decide +kernel
theorem dX2_putsFirst_35 : decode cX2_putsFirst 35 = .ok (.iload_n 1, 1) := by decide +kernel
theorem dX2_putsFirst_36 : decode cX2_putsFirst 36 = .ok (.iastore, 1) := by decide +kernel
theorem dX2_putsFirst_37 : decode cX2_putsFirst 37 = .ok (.return_, 1) := by decide +kernel
theorem dX2_pile_0 : decode cX2_pile 0 = .ok (.iconst 0, 1) := by decide +kernel
theorem dX2_pile_1 : decode cX2_pile 1 = .ok (.istore_n 1, 1) := by decide +kernel
theorem dX2_pile_2 : decode cX2_pile 2 = .ok (.iconst 0, 1) := by decide +kernel
theorem dX2_pile_3 : decode cX2_pile 3 = .ok (.istore_n 2, 1) := by decide +kernel
theorem dX2_pile_4 : decode cX2_pile 4 = .ok (.iload_n 2, 1) := by decide +kernel
theorem dX2_pile_5 : decode cX2_pile 5 = .ok (.aload_n 0, 1) := by decide +kernel
theorem dX2_pile_6 : decode cX2_pile 6 = .ok (.getfield 67, 3) := by decide +kernel
theorem dX2_pile_9 : decode cX2_pile 9 = .ok (.if_icmp .ge 28, 3) := by decide +kernel
theorem dX2_pile_12 : decode cX2_pile 12 = .ok (.iload_n 1, 1) := by decide +kernel
theorem dX2_pile_13 : decode cX2_pile 13 = .ok (.aload_n 0, 1) := by decide +kernel
theorem dX2_pile_14 : decode cX2_pile 14 = .ok (.getfield 25, 3) := by decide +kernel
theorem dX2_pile_17 : decode cX2_pile 17 = .ok (.iload_n 2, 1) := by decide +kernel
theorem dX2_pile_18 : decode cX2_pile 18 = .ok (.iaload, 1) := by decide +kernel
theorem dX2_pile_19 : decode cX2_pile 19 = .ok (.ifCond .ne 9, 3) := by decide +kernel
theorem dX2_pile_22 : decode cX2_pile 22 = .ok (.iconst 1, 1) := by decide +kernel
theorem dX2_pile_23 : decode cX2_pile 23 = .ok (.iload_n 2, 1) := by decide +kernel
theorem dX2_pile_24 : decode cX2_pile 24 = .ok (.ishl, 1) := by decide +kernel
theorem dX2_pile_25 : decode cX2_pile 25 = .ok (.goto 4, 3) := by decide +kernel
theorem dX2_pile_28 : decode cX2_pile 28 = .ok (.iconst 0, 1) := by decide +kernel
theorem dX2_pile_29 : decode cX2_pile 29 = .ok (.ior, 1) := by decide +kernel
theorem dX2_pile_30 : decode cX2_pile 30 = .ok (.istore_n 1, 1) := by decide +kernel
theorem dX2_pile_31 : decode cX2_pile 31 = .ok (.iinc 2 1, 3) := by decide +kernel
theorem dX2_pile_34 : decode cX2_pile 34 = .ok (.goto (-30), 3) := by decide +kernel
theorem dX2_pile_37 : decode cX2_pile 37 = .ok (.iload_n 1, 1) := by decide +kernel
theorem dX2_pile_38 : decode cX2_pile 38 = .ok (.ireturn, 1) := by decide +kernel
theorem dX2_heldBy_0 : decode cX2_heldBy 0 = .ok (.iconst 0, 1) := by decide +kernel
theorem dX2_heldBy_1 : decode cX2_heldBy 1 = .ok (.istore_n 2, 1) := by decide +kernel
theorem dX2_heldBy_2 : decode cX2_heldBy 2 = .ok (.iconst 0, 1) := by decide +kernel
theorem dX2_heldBy_3 : decode cX2_heldBy 3 = .ok (.istore_n 3, 1) := by decide +kernel
theorem dX2_heldBy_4 : decode cX2_heldBy 4 = .ok (.iload_n 3, 1) := by decide +kernel
theorem dX2_heldBy_5 : decode cX2_heldBy 5 = .ok (.aload_n 0, 1) := by decide +kernel
theorem dX2_heldBy_6 : decode cX2_heldBy 6 = .ok (.getfield 67, 3) := by decide +kernel
theorem dX2_heldBy_9 : decode cX2_heldBy 9 = .ok (.if_icmp .ge 31, 3) := by decide +kernel
theorem dX2_heldBy_12 : decode cX2_heldBy 12 = .ok (.iload_n 2, 1) := by decide +kernel
theorem dX2_heldBy_13 : decode cX2_heldBy 13 = .ok (.aload_n 0, 1) := by decide +kernel
theorem dX2_heldBy_14 : decode cX2_heldBy 14 = .ok (.getfield 25, 3) := by decide +kernel
theorem dX2_heldBy_17 : decode cX2_heldBy 17 = .ok (.iload_n 3, 1) := by decide +kernel
theorem dX2_heldBy_18 : decode cX2_heldBy 18 = .ok (.iaload, 1) := by decide +kernel
theorem dX2_heldBy_19 : decode cX2_heldBy 19 = .ok (.iload_n 1, 1) := by decide +kernel
theorem dX2_heldBy_20 : decode cX2_heldBy 20 = .ok (.iconst 1, 1) := by decide +kernel
theorem dX2_heldBy_21 : decode cX2_heldBy 21 = .ok (.iadd, 1) := by decide +kernel
theorem dX2_heldBy_22 : decode cX2_heldBy 22 = .ok (.if_icmp .ne 9, 3) := by decide +kernel
theorem dX2_heldBy_25 : decode cX2_heldBy 25 = .ok (.iconst 1, 1) := by decide +kernel
theorem dX2_heldBy_26 : decode cX2_heldBy 26 = .ok (.iload_n 3, 1) := by decide +kernel
theorem dX2_heldBy_27 : decode cX2_heldBy 27 = .ok (.ishl, 1) := by decide +kernel
theorem dX2_heldBy_28 : decode cX2_heldBy 28 = .ok (.goto 4, 3) := by decide +kernel
theorem dX2_heldBy_31 : decode cX2_heldBy 31 = .ok (.iconst 0, 1) := by decide +kernel
theorem dX2_heldBy_32 : decode cX2_heldBy 32 = .ok (.ior, 1) := by decide +kernel
theorem dX2_heldBy_33 : decode cX2_heldBy 33 = .ok (.istore_n 2, 1) := by decide +kernel
theorem dX2_heldBy_34 : decode cX2_heldBy 34 = .ok (.iinc 3 1, 3) := by decide +kernel
theorem dX2_heldBy_37 : decode cX2_heldBy 37 = .ok (.goto (-33), 3) := by decide +kernel
theorem dX2_heldBy_40 : decode cX2_heldBy 40 = .ok (.iload_n 2, 1) := by decide +kernel
theorem dX2_heldBy_41 : decode cX2_heldBy 41 = .ok (.ireturn, 1) := by decide +kernel
set_option maxRecDepth 20000 in
theorem ggX2_isAgainst_X2_isBidder : GoodIn wsX2_isAgainst wsX2_isBidder := goodIn_r _ [7, 8, 9, 10, 11, 12, 13, 14, 15, 16, 17, 18, 19, 20, 21, 22, 23, 24, 25, 26, 27, 28, 29, 30, 31, 32, 33, 34, 35, 36, 37, 38, 39] (by decide +kernel) (by decide +kernel)
set_option maxRecDepth 20000 in
theorem gX2_isAgainst_X2_isBidder : GoodIn wsX2_isAgainst (wsV RX2 122 RX2 yX2_isBidder wsX2_isBidder) := goodIn_app (goodIn_of _ (by decide +kernel)) ggX2_isAgainst_X2_isBidder
theorem dX2_isAgainst_0 : decode cX2_isAgainst 0 = .ok (.aload_n 0, 1) := by decide +kernel
theorem dX2_isAgainst_1 : decode cX2_isAgainst 1 = .ok (.getfield 19, 3) := by decide +kernel
theorem dX2_isAgainst_4 : decode cX2_isAgainst 4 = .ok (.iload_n 2, 1) := by decide +kernel
theorem dX2_isAgainst_5 : decode cX2_isAgainst 5 = .ok (.iaload, 1) := by decide +kernel
theorem dX2_isAgainst_6 : decode cX2_isAgainst 6 = .ok (.istore_n 3, 1) := by decide +kernel
theorem dX2_isAgainst_7 : decode cX2_isAgainst 7 = .ok (.iload_n 3, 1) := by decide +kernel
theorem dX2_isAgainst_8 : decode cX2_isAgainst 8 = .ok (.iload_n 1, 1) := by decide +kernel
theorem dX2_isAgainst_9 : decode cX2_isAgainst 9 = .ok (.if_icmp .eq 30, 3) := by decide +kernel
theorem dX2_isAgainst_12 : decode cX2_isAgainst 12 = .ok (.aload_n 0, 1) := by decide +kernel
theorem dX2_isAgainst_13 : decode cX2_isAgainst 13 = .ok (.iload_n 3, 1) := by decide +kernel
theorem dX2_isAgainst_14 : decode cX2_isAgainst 14 = .ok (.invokevirtual 122, 3) := by decide +kernel
theorem dX2_isAgainst_17 : decode cX2_isAgainst 17 = .ok (.ifCond .eq 22, 3) := by decide +kernel
theorem dX2_isAgainst_20 : decode cX2_isAgainst 20 = .ok (.aload_n 0, 1) := by decide +kernel
theorem dX2_isAgainst_21 : decode cX2_isAgainst 21 = .ok (.getfield 40, 3) := by decide +kernel
theorem dX2_isAgainst_24 : decode cX2_isAgainst 24 = .ok (.iload_n 3, 1) := by decide +kernel
theorem dX2_isAgainst_25 : decode cX2_isAgainst 25 = .ok (.iaload, 1) := by decide +kernel
theorem dX2_isAgainst_26 : decode cX2_isAgainst 26 = .ok (.aload_n 0, 1) := by decide +kernel
theorem dX2_isAgainst_27 : decode cX2_isAgainst 27 = .ok (.getfield 40, 3) := by decide +kernel
theorem dX2_isAgainst_30 : decode cX2_isAgainst 30 = .ok (.iload_n 1, 1) := by decide +kernel
theorem dX2_isAgainst_31 : decode cX2_isAgainst 31 = .ok (.iaload, 1) := by decide +kernel
theorem dX2_isAgainst_32 : decode cX2_isAgainst 32 = .ok (.if_icmp .le 7, 3) := by decide +kernel
theorem dX2_isAgainst_35 : decode cX2_isAgainst 35 = .ok (.iconst 1, 1) := by decide +kernel
theorem dX2_isAgainst_36 : decode cX2_isAgainst 36 = .ok (.goto 4, 3) := by decide +kernel
theorem dX2_isAgainst_39 : decode cX2_isAgainst 39 = .ok (.iconst 0, 1) := by decide +kernel
theorem dX2_isAgainst_40 : decode cX2_isAgainst 40 = .ok (.ireturn, 1) := by decide +kernel
set_option maxRecDepth 20000 in
theorem ggX2_likes_X2_worth : GoodIn wsX2_likes wsX2_worth := goodIn_r _ [8, 9, 10, 11, 22, 23, 24, 25, 26, 27, 28, 29, 30, 31, 32, 33, 34, 35, 36, 37, 38, 39, 40, 41, 42, 43, 44, 45, 46, 47, 48, 49, 50, 51, 52] (by decide +kernel) (by decide +kernel)
set_option maxRecDepth 20000 in
theorem gX2_likes_X2_worth : GoodIn wsX2_likes (wsV RX2 179 RX2 yX2_worth wsX2_worth) := goodIn_app (goodIn_of _ (by decide +kernel)) ggX2_likes_X2_worth
set_option maxRecDepth 20000 in
theorem ggX2_likes_X2_isAgainst : GoodIn wsX2_likes wsX2_isAgainst := goodIn_r _ [15, 1, 16, 17, 18, 19, 7, 20, 21, 22, 23, 24, 25, 26, 27, 28, 29, 30, 31, 32, 33, 34, 35, 36, 37, 38, 39, 40, 41, 42, 43, 44, 45, 46, 47, 48, 49, 50, 51, 52] (by decide +kernel) (by decide +kernel)
set_option maxRecDepth 20000 in
theorem gX2_likes_X2_isAgainst : GoodIn wsX2_likes (wsV RX2 182 RX2 yX2_isAgainst wsX2_isAgainst) := goodIn_app (goodIn_of _ (by decide +kernel)) ggX2_likes_X2_isAgainst
theorem dX2_likes_0 : decode cX2_likes 0 = .ok (.aload_n 0, 1) := by decide +kernel
theorem dX2_likes_1 : decode cX2_likes 1 = .ok (.getfield 19, 3) := by decide +kernel
theorem dX2_likes_4 : decode cX2_likes 4 = .ok (.iload_n 2, 1) := by decide +kernel
theorem dX2_likes_5 : decode cX2_likes 5 = .ok (.iaload, 1) := by decide +kernel
theorem dX2_likes_6 : decode cX2_likes 6 = .ok (.iload_n 1, 1) := by decide +kernel
theorem dX2_likes_7 : decode cX2_likes 7 = .ok (.if_icmp .ne 7, 3) := by decide +kernel
theorem dX2_likes_10 : decode cX2_likes 10 = .ok (.iconst 1, 1) := by decide +kernel
theorem dX2_likes_11 : decode cX2_likes 11 = .ok (.goto 4, 3) := by decide +kernel
theorem dX2_likes_14 : decode cX2_likes 14 = .ok (.iconst 0, 1) := by decide +kernel
theorem dX2_likes_15 : decode cX2_likes 15 = .ok (.istore_n 3, 1) := by decide +kernel
theorem dX2_likes_16 : decode cX2_likes 16 = .ok (.iload_n 3, 1) := by decide +kernel
theorem dX2_likes_17 : decode cX2_likes 17 = .ok (.ifCond .eq 18, 3) := by decide +kernel
theorem dX2_likes_20 : decode cX2_likes 20 = .ok (.aload_n 0, 1) := by decide +kernel
theorem dX2_likes_21 : decode cX2_likes 21 = .ok (.iload_n 2, 1) := by decide +kernel
theorem dX2_likes_22 : decode cX2_likes 22 = .ok (.invokevirtual 179, 3) := by decide +kernel
theorem dX2_likes_25 : decode cX2_likes 25 = .ok (.aload_n 0, 1) := by decide +kernel
theorem dX2_likes_26 : decode cX2_likes 26 = .ok (.getfield 34, 3) := by decide +kernel
theorem dX2_likes_29 : decode cX2_likes 29 = .ok (.iload_n 1, 1) := by decide +kernel
