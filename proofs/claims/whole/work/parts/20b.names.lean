theorem dX1_stutter_95 : decode cX1_stutter 95 = .ok (.lload 6, 2) := by decide +kernel
theorem dX1_stutter_97 : decode cX1_stutter 97 = .ok (.iload 4, 2) := by decide +kernel
theorem dX1_stutter_99 : decode cX1_stutter 99 = .ok (.i2l, 1) := by decide +kernel
theorem dX1_stutter_100 : decode cX1_stutter 100 = .ok (.lmul, 1) := by decide +kernel
theorem dX1_stutter_101 : decode cX1_stutter 101 = .ok (.lstore 6, 2) := by decide +kernel
theorem dX1_stutter_103 : decode cX1_stutter 103 = .ok (.iinc 8 1, 3) := by decide +kernel
theorem dX1_stutter_106 : decode cX1_stutter 106 = .ok (.goto (-17), 3) := by decide +kernel
theorem dX1_stutter_109 : decode cX1_stutter 109 = .ok (.lconst 0, 1) := by decide +kernel
theorem dX1_stutter_110 : decode cX1_stutter 110 = .ok (.lstore 8, 2) := by decide +kernel
theorem dX1_stutter_112 : decode cX1_stutter 112 = .ok (.iconst 0, 1) := by decide +kernel
theorem dX1_stutter_113 : decode cX1_stutter 113 = .ok (.istore 10, 2) := by decide +kernel
theorem dX1_stutter_115 : decode cX1_stutter 115 = .ok (.iload 10, 2) := by decide +kernel
theorem dX1_stutter_117 : decode cX1_stutter 117 = .ok (.iconst 1, 1) := by decide +kernel
theorem dX1_stutter_118 : decode cX1_stutter 118 = .ok (.iload_n 3, 1) := by decide +kernel
theorem dX1_stutter_119 : decode cX1_stutter 119 = .ok (.ishl, 1) := by decide +kernel
theorem dX1_stutter_120 : decode cX1_stutter 120 = .ok (.if_icmp .ge 43, 3) := by decide +kernel
theorem dX1_stutter_123 : decode cX1_stutter 123 = .ok (.aload_n 0, 1) := by decide +kernel
theorem dX1_stutter_124 : decode cX1_stutter 124 = .ok (.iload_n 2, 1) := by decide +kernel
theorem dX1_stutter_125 : decode cX1_stutter 125 = .ok (.iload_n 3, 1) := by decide +kernel
theorem dX1_stutter_126 : decode cX1_stutter 126 = .ok (.iload 4, 2) := by decide +kernel
theorem dX1_stutter_128 : decode cX1_stutter 128 = .ok (.iload 10, 2) := by decide +kernel
theorem dX1_stutter_130 : decode cX1_stutter 130 = .ok (.invokevirtual 186, 3) := by decide +kernel
theorem dX1_stutter_133 : decode cX1_stutter 133 = .ok (.lstore 11, 2) := by decide +kernel
theorem dX1_stutter_135 : decode cX1_stutter 135 = .ok (.aload_n 0, 1) := by decide +kernel
theorem dX1_stutter_136 : decode cX1_stutter 136 = .ok (.getfield 16, 3) := by decide +kernel
theorem dX1_stutter_139 : decode cX1_stutter 139 = .ok (.getfield 75, 3) := by decide +kernel
theorem dX1_stutter_142 : decode cX1_stutter 142 = .ok (.iload_n 2, 1) := by decide +kernel
theorem dX1_stutter_143 : decode cX1_stutter 143 = .ok (.invokestatic 51, 3) := by decide +kernel
theorem dX1_stutter_146 : decode cX1_stutter 146 = .ok (.iload_n 1, 1) := by decide +kernel
theorem dX1_stutter_147 : decode cX1_stutter 147 = .ok (.if_icmp .ne 10, 3) := by decide +kernel
theorem dX1_stutter_150 : decode cX1_stutter 150 = .ok (.lload 8, 2) := by decide +kernel
theorem dX1_stutter_152 : decode cX1_stutter 152 = .ok (.lload 11, 2) := by decide +kernel
theorem dX1_stutter_154 : decode cX1_stutter 154 = .ok (.ladd, 1) := by decide +kernel
theorem dX1_stutter_155 : decode cX1_stutter 155 = .ok (.lstore 8, 2) := by decide +kernel
theorem dX1_stutter_157 : decode cX1_stutter 157 = .ok (.iinc 10 1, 3) := by decide +kernel
theorem dX1_stutter_160 : decode cX1_stutter 160 = .ok (.goto (-45), 3) := by decide +kernel
theorem dX1_stutter_163 : decode cX1_stutter 163 = .ok (.lload 8, 2) := by decide +kernel
theorem dX1_stutter_165 : decode cX1_stutter 165 = .ok (.lload 6, 2) := by decide +kernel
theorem dX1_stutter_167 : decode cX1_stutter 167 = .ok (.iload 5, 2) := by decide +kernel
theorem dX1_stutter_169 : decode cX1_stutter 169 = .ok (.invokestatic 164, 3) := by decide +kernel
theorem dX1_stutter_172 : decode cX1_stutter 172 = .ok (.lreturn, 1) := by decide +kernel
set_option maxRecDepth 20000 in
theorem ggX1_purseFor_X0_hasBidder : GoodIn wsX1_purseFor wsX0_hasBidder := goodIn_r _ [6, 7, 90, 91, 92, 93, 94, 95, 96, 97, 98, 99, 100, 101, 102] (by decide +kernel) (by decide +kernel)
set_option maxRecDepth 20000 in
theorem gX1_purseFor_X0_hasBidder_n59 : GoodIn wsX1_purseFor (wsX0_hasBidder) := ggX1_purseFor_X0_hasBidder
set_option maxRecDepth 20000 in
theorem ggX1_purseFor_X0_hasCard : GoodIn wsX1_purseFor wsX0_hasCard := goodIn_r _ [10, 11, 90, 91, 92, 93, 94, 95, 96, 97, 98, 99, 100, 101, 102] (by decide +kernel) (by decide +kernel)
set_option maxRecDepth 20000 in
theorem gX1_purseFor_X0_hasCard_n69 : GoodIn wsX1_purseFor (wsX0_hasCard) := ggX1_purseFor_X0_hasCard
set_option maxRecDepth 20000 in
theorem ggX1_purseFor_X1_refuse : GoodIn wsX1_purseFor wsX1_refuse := goodIn_r _ [16, 17, 18, 19, 15, 20, 21, 22, 23, 81, 82, 83, 84, 85, 86, 87, 88, 89] (by decide +kernel) (by decide +kernel)
set_option maxRecDepth 20000 in
theorem gX1_purseFor_X1_refuse : GoodIn wsX1_purseFor (wsV RX1 32 RX1 yX1_refuse wsX1_refuse) := goodIn_app (goodIn_of _ (by decide +kernel)) ggX1_purseFor_X1_refuse
set_option maxRecDepth 20000 in
theorem ggX1_purseFor_X0_inPile : GoodIn wsX1_purseFor wsX0_inPile := goodIn_r _ [26, 27, 28, 8, 9, 4, 10, 11, 19, 15, 20, 90, 91, 92, 93, 94, 95, 96, 97, 98, 99, 100, 101, 102] (by decide +kernel) (by decide +kernel)
set_option maxRecDepth 20000 in
theorem gX1_purseFor_X0_inPile_n72 : GoodIn wsX1_purseFor (wsX0_inPile) := ggX1_purseFor_X0_inPile
set_option maxRecDepth 20000 in
theorem ggX1_purseFor_X0_become : GoodIn wsX1_purseFor wsX0_become := goodIn_r _ [31, 11, 7, 32, 33, 34, 35, 36, 27, 37, 38, 39, 40, 41, 42, 15, 43, 44, 45, 46, 47, 48, 49, 50, 51, 90, 91, 92, 93, 94, 95, 96, 97, 98, 99, 100, 101, 102] (by decide +kernel) (by decide +kernel)
set_option maxRecDepth 20000 in
theorem gX1_purseFor_X0_become_n47 : GoodIn wsX1_purseFor (wsX0_become) := ggX1_purseFor_X0_become
set_option maxRecDepth 20000 in
theorem ggX1_purseFor_X1_put : GoodIn wsX1_purseFor wsX1_put := goodIn_r _ [23] (by decide +kernel) (by decide +kernel)
set_option maxRecDepth 20000 in
theorem gX1_purseFor_X1_put : GoodIn wsX1_purseFor (va_wsS RX1 40 yX1_put wsX1_put) := goodIn_app (goodIn_of _ (by decide +kernel)) ggX1_purseFor_X1_put
set_option maxRecDepth 20000 in
theorem ggX1_purseFor_X0_goOn : GoodIn wsX1_purseFor wsX0_goOn := goodIn_r _ [54, 32, 11, 37, 19, 15, 20, 55, 24, 25, 4, 26, 27, 28, 8, 9, 10, 56, 57, 58, 59, 35, 40, 41, 60, 45, 46, 47, 61, 62, 63, 64, 65, 66, 67, 7, 68, 69, 70, 71, 34, 36, 33, 72, 73, 74, 75, 39, 38, 76, 3, 5, 6, 22, 23, 77, 78, 79, 80, 90, 91, 92, 93, 94, 95, 96, 97, 98, 99, 100, 101, 102] (by decide +kernel) (by decide +kernel)
set_option maxRecDepth 20000 in
theorem gX1_purseFor_X0_goOn_n97 : GoodIn wsX1_purseFor (wsX0_goOn) := ggX1_purseFor_X0_goOn
set_option maxRecDepth 20000 in
theorem ggX1_purseFor_X1_at : GoodIn wsX1_purseFor wsX1_at := goodIn_r _ [20] (by decide +kernel) (by decide +kernel)
set_option maxRecDepth 20000 in
theorem gX1_purseFor_X1_at : GoodIn wsX1_purseFor (va_wsS RX1 51 yX1_at wsX1_at) := goodIn_app (goodIn_of _ (by decide +kernel)) ggX1_purseFor_X1_at
theorem dX1_purseFor_0 : decode cX1_purseFor 0 = .ok (.aload_n 0, 1) := by decide +kernel
theorem dX1_purseFor_1 : decode cX1_purseFor 1 = .ok (.getfield 10, 3) := by decide +kernel
theorem dX1_purseFor_4 : decode cX1_purseFor 4 = .ok (.iload_n 1, 1) := by decide +kernel
theorem dX1_purseFor_5 : decode cX1_purseFor 5 = .ok (.invokevirtual 59, 3) := by decide +kernel
theorem dX1_purseFor_8 : decode cX1_purseFor 8 = .ok (.ifCond .eq 14, 3) := by decide +kernel
theorem dX1_purseFor_11 : decode cX1_purseFor 11 = .ok (.aload_n 0, 1) := by decide +kernel
theorem dX1_purseFor_12 : decode cX1_purseFor 12 = .ok (.getfield 10, 3) := by decide +kernel
theorem dX1_purseFor_15 : decode cX1_purseFor 15 = .ok (.iload_n 2, 1) := by decide +kernel
theorem dX1_purseFor_16 : decode cX1_purseFor 16 = .ok (.invokevirtual 69, 3) := by decide +kernel
theorem dX1_purseFor_19 : decode cX1_purseFor 19 = .ok (.ifCond .ne 9, 3) := by decide +kernel
theorem dX1_purseFor_22 : decode cX1_purseFor 22 = .ok (.aload_n 0, 1) := by decide +kernel
theorem dX1_purseFor_23 : decode cX1_purseFor 23 = .ok (.iconst (-1), 1) := by decide +kernel
theorem dX1_purseFor_24 : decode cX1_purseFor 24 = .ok (.invokevirtual 32, 3) := by decide +kernel
theorem dX1_purseFor_27 : decode cX1_purseFor 27 = .ok (.ireturn, 1) := by decide +kernel
theorem dX1_purseFor_28 : decode cX1_purseFor 28 = .ok (.aload_n 0, 1) := by decide +kernel
theorem dX1_purseFor_29 : decode cX1_purseFor 29 = .ok (.getfield 10, 3) := by decide +kernel
theorem dX1_purseFor_32 : decode cX1_purseFor 32 = .ok (.iload_n 2, 1) := by decide +kernel
theorem dX1_purseFor_33 : decode cX1_purseFor 33 = .ok (.invokevirtual 72, 3) := by decide +kernel
theorem dX1_purseFor_36 : decode cX1_purseFor 36 = .ok (.ifCond .ne 10, 3) := by decide +kernel
theorem dX1_purseFor_39 : decode cX1_purseFor 39 = .ok (.aload_n 0, 1) := by decide +kernel
theorem dX1_purseFor_40 : decode cX1_purseFor 40 = .ok (.bipush (-3), 2) := by decide +kernel
theorem dX1_purseFor_42 : decode cX1_purseFor 42 = .ok (.invokevirtual 32, 3) := by decide +kernel
theorem dX1_purseFor_45 : decode cX1_purseFor 45 = .ok (.ireturn, 1) := by decide +kernel
theorem dX1_purseFor_46 : decode cX1_purseFor 46 = .ok (.iconst 0, 1) := by decide +kernel
theorem dX1_purseFor_47 : decode cX1_purseFor 47 = .ok (.istore_n 3, 1) := by decide +kernel
theorem dX1_purseFor_48 : decode cX1_purseFor 48 = .ok (.iload_n 3, 1) := by decide +kernel
theorem dX1_purseFor_49 : decode cX1_purseFor 49 = .ok (.bipush 99, 2) := by decide +kernel
theorem dX1_purseFor_51 : decode cX1_purseFor 51 = .ok (.if_icmp .gt 59, 3) := by decide +kernel
theorem dX1_purseFor_54 : decode cX1_purseFor 54 = .ok (.aload_n 0, 1) := by decide +kernel
theorem dX1_purseFor_55 : decode cX1_purseFor 55 = .ok (.getfield 16, 3) := by decide +kernel
theorem dX1_purseFor_58 : decode cX1_purseFor 58 = .ok (.aload_n 0, 1) := by decide +kernel
theorem dX1_purseFor_59 : decode cX1_purseFor 59 = .ok (.getfield 10, 3) := by decide +kernel
theorem dX1_purseFor_62 : decode cX1_purseFor 62 = .ok (.invokevirtual 47, 3) := by decide +kernel
theorem dX1_purseFor_65 : decode cX1_purseFor 65 = .ok (.aload_n 0, 1) := by decide +kernel
theorem dX1_purseFor_66 : decode cX1_purseFor 66 = .ok (.getfield 16, 3) := by decide +kernel
theorem dX1_purseFor_69 : decode cX1_purseFor 69 = .ok (.getfield 66, 3) := by decide +kernel
theorem dX1_purseFor_72 : decode cX1_purseFor 72 = .ok (.iload_n 1, 1) := by decide +kernel
theorem dX1_purseFor_73 : decode cX1_purseFor 73 = .ok (.iload_n 3, 1) := by decide +kernel
theorem dX1_purseFor_74 : decode cX1_purseFor 74 = .ok (.invokestatic 40, 3) := by decide +kernel
theorem dX1_purseFor_77 : decode cX1_purseFor 77 = .ok (.aload_n 0, 1) := by decide +kernel
theorem dX1_purseFor_78 : decode cX1_purseFor 78 = .ok (.getfield 16, 3) := by decide +kernel
theorem dX1_purseFor_81 : decode cX1_purseFor 81 = .ok (.iconst 1, 1) := by decide +kernel
theorem dX1_purseFor_82 : decode cX1_purseFor 82 = .ok (.iconst 1, 1) := by decide +kernel
theorem dX1_purseFor_83 : decode cX1_purseFor 83 = .ok (.invokevirtual 97, 3) := by decide +kernel
theorem dX1_purseFor_86 : decode cX1_purseFor 86 = .ok (.pop, 1) := by decide +kernel
theorem dX1_purseFor_87 : decode cX1_purseFor 87 = .ok (.aload_n 0, 1) := by decide +kernel
theorem dX1_purseFor_88 : decode cX1_purseFor 88 = .ok (.getfield 16, 3) := by decide +kernel
theorem dX1_purseFor_91 : decode cX1_purseFor 91 = .ok (.getfield 75, 3) := by decide +kernel
theorem dX1_purseFor_94 : decode cX1_purseFor 94 = .ok (.iload_n 2, 1) := by decide +kernel
theorem dX1_purseFor_95 : decode cX1_purseFor 95 = .ok (.invokestatic 51, 3) := by decide +kernel
theorem dX1_purseFor_98 : decode cX1_purseFor 98 = .ok (.iload_n 1, 1) := by decide +kernel
theorem dX1_purseFor_99 : decode cX1_purseFor 99 = .ok (.if_icmp .ne 5, 3) := by decide +kernel
theorem dX1_purseFor_102 : decode cX1_purseFor 102 = .ok (.iload_n 3, 1) := by decide +kernel
theorem dX1_purseFor_103 : decode cX1_purseFor 103 = .ok (.ireturn, 1) := by decide +kernel
theorem dX1_purseFor_104 : decode cX1_purseFor 104 = .ok (.iinc 3 1, 3) := by decide +kernel
theorem dX1_purseFor_107 : decode cX1_purseFor 107 = .ok (.goto (-59), 3) := by decide +kernel
theorem dX1_purseFor_110 : decode cX1_purseFor 110 = .ok (.bipush (-9), 2) := by decide +kernel
theorem dX1_purseFor_112 : decode cX1_purseFor 112 = .ok (.ireturn, 1) := by decide +kernel
set_option maxRecDepth 20000 in
theorem ggX1_first_X0_hasBidder : GoodIn wsX1_first wsX0_hasBidder := goodIn_r _ [6, 7, 114, 115, 116, 117, 118, 119, 120, 121, 122, 123, 124, 125, 126] (by decide +kernel) (by decide +kernel)
set_option maxRecDepth 20000 in
theorem gX1_first_X0_hasBidder_n59 : GoodIn wsX1_first (wsX0_hasBidder) := ggX1_first_X0_hasBidder
set_option maxRecDepth 20000 in
theorem ggX1_first_X1_refuse : GoodIn wsX1_first wsX1_refuse := goodIn_r _ [12, 13, 14, 15, 11, 16, 17, 18, 19, 105, 106, 107, 108, 109, 110, 111, 112, 113] (by decide +kernel) (by decide +kernel)
set_option maxRecDepth 20000 in
theorem gX1_first_X1_refuse : GoodIn wsX1_first (wsV RX1 32 RX1 yX1_refuse wsX1_refuse) := goodIn_app (goodIn_of _ (by decide +kernel)) ggX1_first_X1_refuse
set_option maxRecDepth 20000 in
theorem ggX1_first_X1_beyond : GoodIn wsX1_first wsX1_beyond := goodIn_r _ [22] (by decide +kernel) (by decide +kernel)
set_option maxRecDepth 20000 in
theorem gX1_first_X1_beyond : GoodIn wsX1_first (va_wsS RX1 62 yX1_beyond wsX1_beyond) := goodIn_app (goodIn_of _ (by decide +kernel)) ggX1_first_X1_beyond
set_option maxRecDepth 20000 in
theorem ggX1_first_X0_become : GoodIn wsX1_first wsX0_become := goodIn_r _ [25, 26, 7, 27, 28, 29, 30, 31, 32, 33, 34, 35, 36, 37, 38, 11, 39, 40, 41, 42, 43, 44, 45, 46, 47, 114, 115, 116, 117, 118, 119, 120, 121, 122, 123, 124, 125, 126] (by decide +kernel) (by decide +kernel)
set_option maxRecDepth 20000 in
theorem gX1_first_X0_become_n47 : GoodIn wsX1_first (wsX0_become) := ggX1_first_X0_become
set_option maxRecDepth 20000 in
theorem ggX1_first_X0_goOn : GoodIn wsX1_first wsX0_goOn := goodIn_r _ [50, 27, 26, 33, 15, 11, 16, 51, 52, 53, 4, 54, 32, 55, 56, 57, 58, 59, 60, 61, 62, 30, 36, 37, 63, 41, 42, 43, 64, 65, 66, 67, 68, 69, 70, 7, 71, 72, 73, 74, 29, 31, 28, 75, 76, 77, 78, 35, 34, 79, 3, 5, 6, 18, 19, 80, 81, 82, 83, 114, 115, 116, 117, 118, 119, 120, 121, 122, 123, 124, 125, 126] (by decide +kernel) (by decide +kernel)
set_option maxRecDepth 20000 in
theorem gX1_first_X0_goOn_n97 : GoodIn wsX1_first (wsX0_goOn) := ggX1_first_X0_goOn
set_option maxRecDepth 20000 in
theorem ggX1_first_X0_heldBy : GoodIn wsX1_first wsX0_heldBy := goodIn_r _ [86, 87, 88, 89, 4, 90, 26, 32, 15, 11, 16, 91, 92, 93, 94, 95, 96, 97, 114, 115, 116, 117, 118, 119, 120, 121, 122, 123, 124, 125, 126] (by decide +kernel) (by decide +kernel)
set_option maxRecDepth 20000 in
theorem gX1_first_X0_heldBy_n190 : GoodIn wsX1_first (wsX0_heldBy) := ggX1_first_X0_heldBy
set_option maxRecDepth 20000 in
theorem ggX1_first_X0_inPile : GoodIn wsX1_first wsX0_inPile := goodIn_r _ [54, 32, 55, 56, 57, 4, 58, 26, 15, 11, 16, 114, 115, 116, 117, 118, 119, 120, 121, 122, 123, 124, 125, 126] (by decide +kernel) (by decide +kernel)
set_option maxRecDepth 20000 in
theorem gX1_first_X0_inPile_n72 : GoodIn wsX1_first (wsX0_inPile) := ggX1_first_X0_inPile
set_option maxRecDepth 20000 in
theorem ggX1_first_X0_toFront : GoodIn wsX1_first wsX0_toFront := goodIn_r _ [100, 33, 101, 102, 103, 4, 104, 26, 15, 11, 16, 18, 19, 114, 115, 116, 117, 118, 119, 120, 121, 122, 123, 124, 125, 126] (by decide +kernel) (by decide +kernel)
set_option maxRecDepth 20000 in
theorem gX1_first_X0_toFront_n193 : GoodIn wsX1_first (wsX0_toFront) := ggX1_first_X0_toFront
theorem dX1_first_0 : decode cX1_first 0 = .ok (.aload_n 0, 1) := by decide +kernel
theorem dX1_first_1 : decode cX1_first 1 = .ok (.getfield 10, 3) := by decide +kernel
theorem dX1_first_4 : decode cX1_first 4 = .ok (.iload_n 1, 1) := by decide +kernel
theorem dX1_first_5 : decode cX1_first 5 = .ok (.invokevirtual 59, 3) := by decide +kernel
theorem dX1_first_8 : decode cX1_first 8 = .ok (.ifCond .ne 9, 3) := by decide +kernel
theorem dX1_first_11 : decode cX1_first 11 = .ok (.aload_n 0, 1) := by decide +kernel
theorem dX1_first_12 : decode cX1_first 12 = .ok (.iconst (-1), 1) := by decide +kernel
theorem dX1_first_13 : decode cX1_first 13 = .ok (.invokevirtual 32, 3) := by decide +kernel
theorem dX1_first_16 : decode cX1_first 16 = .ok (.ireturn, 1) := by decide +kernel
theorem dX1_first_17 : decode cX1_first 17 = .ok (.iload_n 2, 1) := by decide +kernel
theorem dX1_first_18 : decode cX1_first 18 = .ok (.iconst 0, 1) := by decide +kernel
theorem dX1_first_19 : decode cX1_first 19 = .ok (.bipush 20, 2) := by decide +kernel
theorem dX1_first_21 : decode cX1_first 21 = .ok (.invokestatic 62, 3) := by decide +kernel
theorem dX1_first_24 : decode cX1_first 24 = .ok (.istore_n 3, 1) := by decide +kernel
theorem dX1_first_25 : decode cX1_first 25 = .ok (.iload_n 3, 1) := by decide +kernel
theorem dX1_first_26 : decode cX1_first 26 = .ok (.ifCond .eq 9, 3) := by decide +kernel
theorem dX1_first_29 : decode cX1_first 29 = .ok (.aload_n 0, 1) := by decide +kernel
theorem dX1_first_30 : decode cX1_first 30 = .ok (.iload_n 3, 1) := by decide +kernel
theorem dX1_first_31 : decode cX1_first 31 = .ok (.invokevirtual 32, 3) := by decide +kernel
theorem dX1_first_34 : decode cX1_first 34 = .ok (.ireturn, 1) := by decide +kernel
theorem dX1_first_35 : decode cX1_first 35 = .ok (.aload_n 0, 1) := by decide +kernel
theorem dX1_first_36 : decode cX1_first 36 = .ok (.getfield 16, 3) := by decide +kernel
theorem dX1_first_39 : decode cX1_first 39 = .ok (.aload_n 0, 1) := by decide +kernel
theorem dX1_first_40 : decode cX1_first 40 = .ok (.getfield 10, 3) := by decide +kernel
theorem dX1_first_43 : decode cX1_first 43 = .ok (.invokevirtual 47, 3) := by decide +kernel
theorem dX1_first_46 : decode cX1_first 46 = .ok (.aload_n 0, 1) := by decide +kernel
theorem dX1_first_47 : decode cX1_first 47 = .ok (.getfield 16, 3) := by decide +kernel
theorem dX1_first_50 : decode cX1_first 50 = .ok (.iload_n 2, 1) := by decide +kernel
theorem dX1_first_51 : decode cX1_first 51 = .ok (.iconst 1, 1) := by decide +kernel
theorem dX1_first_52 : decode cX1_first 52 = .ok (.invokevirtual 97, 3) := by decide +kernel
theorem dX1_first_55 : decode cX1_first 55 = .ok (.pop, 1) := by decide +kernel
theorem dX1_first_56 : decode cX1_first 56 = .ok (.aload_n 0, 1) := by decide +kernel
theorem dX1_first_57 : decode cX1_first 57 = .ok (.getfield 16, 3) := by decide +kernel
theorem dX1_first_60 : decode cX1_first 60 = .ok (.iload_n 1, 1) := by decide +kernel
theorem dX1_first_61 : decode cX1_first 61 = .ok (.invokevirtual 190, 3) := by decide +kernel
theorem dX1_first_64 : decode cX1_first 64 = .ok (.istore 4, 2) := by decide +kernel
theorem dX1_first_66 : decode cX1_first 66 = .ok (.bipush (-9), 2) := by decide +kernel
theorem dX1_first_68 : decode cX1_first 68 = .ok (.istore 5, 2) := by decide +kernel
theorem dX1_first_70 : decode cX1_first 70 = .ok (.iconst 0, 1) := by decide +kernel
theorem dX1_first_71 : decode cX1_first 71 = .ok (.istore 6, 2) := by decide +kernel
theorem dX1_first_73 : decode cX1_first 73 = .ok (.iload 6, 2) := by decide +kernel
theorem dX1_first_75 : decode cX1_first 75 = .ok (.aload_n 0, 1) := by decide +kernel
theorem dX1_first_76 : decode cX1_first 76 = .ok (.getfield 10, 3) := by decide +kernel
theorem dX1_first_79 : decode cX1_first 79 = .ok (.getfield 136, 3) := by decide +kernel
theorem dX1_first_82 : decode cX1_first 82 = .ok (.if_icmp .ge 76, 3) := by decide +kernel
theorem dX1_first_85 : decode cX1_first 85 = .ok (.aload_n 0, 1) := by decide +kernel
theorem dX1_first_86 : decode cX1_first 86 = .ok (.getfield 10, 3) := by decide +kernel
theorem dX1_first_89 : decode cX1_first 89 = .ok (.iload 6, 2) := by decide +kernel
theorem dX1_first_91 : decode cX1_first 91 = .ok (.invokevirtual 72, 3) := by decide +kernel
theorem dX1_first_94 : decode cX1_first 94 = .ok (.ifCond .eq 58, 3) := by decide +kernel
theorem dX1_first_97 : decode cX1_first 97 = .ok (.aload_n 0, 1) := by decide +kernel
theorem dX1_first_98 : decode cX1_first 98 = .ok (.getfield 16, 3) := by decide +kernel
theorem dX1_first_101 : decode cX1_first 101 = .ok (.aload_n 0, 1) := by decide +kernel
theorem dX1_first_102 : decode cX1_first 102 = .ok (.getfield 10, 3) := by decide +kernel
theorem dX1_first_105 : decode cX1_first 105 = .ok (.invokevirtual 47, 3) := by decide +kernel
theorem dX1_first_108 : decode cX1_first 108 = .ok (.aload_n 0, 1) := by decide +kernel
theorem dX1_first_109 : decode cX1_first 109 = .ok (.getfield 16, 3) := by decide +kernel
theorem dX1_first_112 : decode cX1_first 112 = .ok (.iload 6, 2) := by decide +kernel
theorem dX1_first_114 : decode cX1_first 114 = .ok (.invokevirtual 193, 3) := by decide +kernel
theorem dX1_first_117 : decode cX1_first 117 = .ok (.aload_n 0, 1) := by decide +kernel
theorem dX1_first_118 : decode cX1_first 118 = .ok (.getfield 16, 3) := by decide +kernel
theorem dX1_first_121 : decode cX1_first 121 = .ok (.iload_n 2, 1) := by decide +kernel
theorem dX1_first_122 : decode cX1_first 122 = .ok (.iconst 1, 1) := by decide +kernel
theorem dX1_first_123 : decode cX1_first 123 = .ok (.invokevirtual 97, 3) := by decide +kernel
theorem dX1_first_126 : decode cX1_first 126 = .ok (.pop, 1) := by decide +kernel
theorem dX1_first_127 : decode cX1_first 127 = .ok (.aload_n 0, 1) := by decide +kernel
theorem dX1_first_128 : decode cX1_first 128 = .ok (.getfield 16, 3) := by decide +kernel
theorem dX1_first_131 : decode cX1_first 131 = .ok (.iload_n 1, 1) := by decide +kernel
theorem dX1_first_132 : decode cX1_first 132 = .ok (.invokevirtual 190, 3) := by decide +kernel
theorem dX1_first_135 : decode cX1_first 135 = .ok (.istore 7, 2) := by decide +kernel
theorem dX1_first_137 : decode cX1_first 137 = .ok (.iload 7, 2) := by decide +kernel
theorem dX1_first_139 : decode cX1_first 139 = .ok (.iload 4, 2) := by decide +kernel
theorem dX1_first_141 : decode cX1_first 141 = .ok (.if_icmp .le 11, 3) := by decide +kernel
theorem dX1_first_144 : decode cX1_first 144 = .ok (.iload 7, 2) := by decide +kernel
theorem dX1_first_146 : decode cX1_first 146 = .ok (.istore 4, 2) := by decide +kernel
theorem dX1_first_148 : decode cX1_first 148 = .ok (.iload 6, 2) := by decide +kernel
theorem dX1_first_150 : decode cX1_first 150 = .ok (.istore 5, 2) := by decide +kernel
theorem dX1_first_152 : decode cX1_first 152 = .ok (.iinc 6 1, 3) := by decide +kernel
theorem dX1_first_155 : decode cX1_first 155 = .ok (.goto (-82), 3) := by decide +kernel
theorem dX1_first_158 : decode cX1_first 158 = .ok (.iload 5, 2) := by decide +kernel
theorem dX1_first_160 : decode cX1_first 160 = .ok (.ireturn, 1) := by decide +kernel
set_option maxRecDepth 20000 in
theorem ggX1_give_X1_beyond : GoodIn wsX1_give wsX1_beyond := goodIn_r _ [6] (by decide +kernel) (by decide +kernel)
set_option maxRecDepth 20000 in
theorem gX1_give_X1_beyond : GoodIn wsX1_give (va_wsS RX1 62 yX1_beyond wsX1_beyond) := goodIn_app (goodIn_of _ (by decide +kernel)) ggX1_give_X1_beyond
set_option maxRecDepth 20000 in
theorem ggX1_give_X1_refuse : GoodIn wsX1_give wsX1_refuse := goodIn_r _ [10, 11, 12, 13, 5, 14, 15, 16, 17, 87, 88, 89, 90, 91, 92, 93, 94, 95] (by decide +kernel) (by decide +kernel)
set_option maxRecDepth 20000 in
theorem gX1_give_X1_refuse : GoodIn wsX1_give (wsV RX1 32 RX1 yX1_refuse wsX1_refuse) := goodIn_app (goodIn_of _ (by decide +kernel)) ggX1_give_X1_refuse
set_option maxRecDepth 20000 in
theorem ggX1_give_X0_become : GoodIn wsX1_give wsX0_become := goodIn_r _ [21, 22, 23, 24, 25, 26, 27, 28, 29, 30, 31, 32, 33, 34, 35, 5, 36, 37, 38, 39, 40, 41, 42, 43, 44, 96, 97, 98, 99, 100, 101, 102, 103, 104, 105, 106, 107, 108] (by decide +kernel) (by decide +kernel)
set_option maxRecDepth 20000 in
theorem gX1_give_X0_become_n47 : GoodIn wsX1_give (wsX0_become) := ggX1_give_X0_become
set_option maxRecDepth 20000 in
theorem ggX1_give_X0_goOn : GoodIn wsX1_give wsX0_goOn := goodIn_r _ [47, 24, 22, 30, 13, 5, 14, 48, 49, 50, 19, 51, 29, 52, 53, 54, 55, 56, 57, 58, 59, 27, 33, 34, 60, 38, 39, 40, 61, 62, 63, 64, 65, 66, 67, 23, 68, 69, 70, 71, 26, 28, 25, 72, 73, 74, 75, 32, 31, 76, 77, 78, 79, 16, 17, 80, 81, 82, 83, 96, 97, 98, 99, 100, 101, 102, 103, 104, 105, 106, 107, 108] (by decide +kernel) (by decide +kernel)
set_option maxRecDepth 20000 in
theorem gX1_give_X0_goOn_n97 : GoodIn wsX1_give (wsX0_goOn) := ggX1_give_X0_goOn
set_option maxRecDepth 20000 in
theorem ggX1_give_X0_allBelieved : GoodIn wsX1_give wsX0_allBelieved := goodIn_r _ [86, 23, 34, 13, 5, 14, 96, 97, 98, 99, 100, 101, 102, 103, 104, 105, 106, 107, 108] (by decide +kernel) (by decide +kernel)
set_option maxRecDepth 20000 in
theorem gX1_give_X0_allBelieved_n174 : GoodIn wsX1_give (wsX0_allBelieved) := ggX1_give_X0_allBelieved
set_option maxRecDepth 20000 in
theorem ggX1_give_X1_at : GoodIn wsX1_give wsX1_at := goodIn_r _ [14] (by decide +kernel) (by decide +kernel)
set_option maxRecDepth 20000 in
theorem gX1_give_X1_at : GoodIn wsX1_give (va_wsS RX1 51 yX1_at wsX1_at) := goodIn_app (goodIn_of _ (by decide +kernel)) ggX1_give_X1_at
set_option maxRecDepth 20000 in
theorem ggX1_give_X0_inPile : GoodIn wsX1_give wsX0_inPile := goodIn_r _ [51, 29, 52, 53, 54, 19, 55, 22, 13, 5, 14, 96, 97, 98, 99, 100, 101, 102, 103, 104, 105, 106, 107, 108] (by decide +kernel) (by decide +kernel)
set_option maxRecDepth 20000 in
theorem gX1_give_X0_inPile_n72 : GoodIn wsX1_give (wsX0_inPile) := ggX1_give_X0_inPile
set_option maxRecDepth 20000 in
theorem ggX1_give_X0_hasBidder : GoodIn wsX1_give wsX0_hasBidder := goodIn_r _ [79, 23, 96, 97, 98, 99, 100, 101, 102, 103, 104, 105, 106, 107, 108] (by decide +kernel) (by decide +kernel)
set_option maxRecDepth 20000 in
theorem gX1_give_X0_hasBidder_n59 : GoodIn wsX1_give (wsX0_hasBidder) := ggX1_give_X0_hasBidder
set_option maxRecDepth 20000 in
theorem ggX1_give_X1_put : GoodIn wsX1_give wsX1_put := goodIn_r _ [17] (by decide +kernel) (by decide +kernel)
set_option maxRecDepth 20000 in
theorem gX1_give_X1_put : GoodIn wsX1_give (va_wsS RX1 40 yX1_put wsX1_put) := goodIn_app (goodIn_of _ (by decide +kernel)) ggX1_give_X1_put
theorem dX1_give_0 : decode cX1_give 0 = .ok (.iload_n 1, 1) := by decide +kernel
theorem dX1_give_1 : decode cX1_give 1 = .ok (.iconst 0, 1) := by decide +kernel
theorem dX1_give_2 : decode cX1_give 2 = .ok (.bipush 20, 2) := by decide +kernel
theorem dX1_give_4 : decode cX1_give 4 = .ok (.invokestatic 62, 3) := by decide +kernel
theorem dX1_give_7 : decode cX1_give 7 = .ok (.istore_n 2, 1) := by decide +kernel
theorem dX1_give_8 : decode cX1_give 8 = .ok (.iload_n 2, 1) := by decide +kernel
theorem dX1_give_9 : decode cX1_give 9 = .ok (.ifCond .eq 9, 3) := by decide +kernel
theorem dX1_give_12 : decode cX1_give 12 = .ok (.aload_n 0, 1) := by decide +kernel
theorem dX1_give_13 : decode cX1_give 13 = .ok (.iload_n 2, 1) := by decide +kernel
theorem dX1_give_14 : decode cX1_give 14 = .ok (.invokevirtual 32, 3) := by decide +kernel
theorem dX1_give_17 : decode cX1_give 17 = .ok (.ireturn, 1) := by decide +kernel
theorem dX1_give_18 : decode cX1_give 18 = .ok (.aload_n 0, 1) := by decide +kernel
theorem dX1_give_19 : decode cX1_give 19 = .ok (.getfield 16, 3) := by decide +kernel
theorem dX1_give_22 : decode cX1_give 22 = .ok (.aload_n 0, 1) := by decide +kernel
theorem dX1_give_23 : decode cX1_give 23 = .ok (.getfield 10, 3) := by decide +kernel
theorem dX1_give_26 : decode cX1_give 26 = .ok (.invokevirtual 47, 3) := by decide +kernel
theorem dX1_give_29 : decode cX1_give 29 = .ok (.aload_n 0, 1) := by decide +kernel
theorem dX1_give_30 : decode cX1_give 30 = .ok (.getfield 16, 3) := by decide +kernel
theorem dX1_give_33 : decode cX1_give 33 = .ok (.iload_n 1, 1) := by decide +kernel
theorem dX1_give_34 : decode cX1_give 34 = .ok (.iconst 1, 1) := by decide +kernel
theorem dX1_give_35 : decode cX1_give 35 = .ok (.invokevirtual 97, 3) := by decide +kernel
theorem dX1_give_38 : decode cX1_give 38 = .ok (.pop, 1) := by decide +kernel
theorem dX1_give_39 : decode cX1_give 39 = .ok (.aload_n 0, 1) := by decide +kernel
theorem dX1_give_40 : decode cX1_give 40 = .ok (.getfield 16, 3) := by decide +kernel
theorem dX1_give_43 : decode cX1_give 43 = .ok (.invokevirtual 174, 3) := by decide +kernel
theorem dX1_give_46 : decode cX1_give 46 = .ok (.istore_n 3, 1) := by decide +kernel
theorem dX1_give_47 : decode cX1_give 47 = .ok (.bipush (-9), 2) := by decide +kernel
theorem dX1_give_49 : decode cX1_give 49 = .ok (.istore 4, 2) := by decide +kernel
theorem dX1_give_51 : decode cX1_give 51 = .ok (.iconst 0, 1) := by decide +kernel
theorem dX1_give_52 : decode cX1_give 52 = .ok (.istore 5, 2) := by decide +kernel
theorem dX1_give_54 : decode cX1_give 54 = .ok (.iload 5, 2) := by decide +kernel
theorem dX1_give_56 : decode cX1_give 56 = .ok (.aload_n 0, 1) := by decide +kernel
theorem dX1_give_57 : decode cX1_give 57 = .ok (.getfield 10, 3) := by decide +kernel
theorem dX1_give_60 : decode cX1_give 60 = .ok (.getfield 136, 3) := by decide +kernel
theorem dX1_give_63 : decode cX1_give 63 = .ok (.if_icmp .ge 104, 3) := by decide +kernel
theorem dX1_give_66 : decode cX1_give 66 = .ok (.aload_n 0, 1) := by decide +kernel
theorem dX1_give_67 : decode cX1_give 67 = .ok (.getfield 10, 3) := by decide +kernel
theorem dX1_give_70 : decode cX1_give 70 = .ok (.getfield 111, 3) := by decide +kernel
theorem dX1_give_73 : decode cX1_give 73 = .ok (.iload 5, 2) := by decide +kernel
theorem dX1_give_75 : decode cX1_give 75 = .ok (.invokestatic 51, 3) := by decide +kernel
theorem dX1_give_78 : decode cX1_give 78 = .ok (.istore 6, 2) := by decide +kernel
theorem dX1_give_80 : decode cX1_give 80 = .ok (.aload_n 0, 1) := by decide +kernel
theorem dX1_give_81 : decode cX1_give 81 = .ok (.getfield 10, 3) := by decide +kernel
theorem dX1_give_84 : decode cX1_give 84 = .ok (.iload 5, 2) := by decide +kernel
theorem dX1_give_86 : decode cX1_give 86 = .ok (.invokevirtual 72, 3) := by decide +kernel
theorem dX1_give_89 : decode cX1_give 89 = .ok (.ifCond .eq 72, 3) := by decide +kernel
theorem dX1_give_92 : decode cX1_give 92 = .ok (.aload_n 0, 1) := by decide +kernel
theorem dX1_give_93 : decode cX1_give 93 = .ok (.getfield 10, 3) := by decide +kernel
theorem dX1_give_96 : decode cX1_give 96 = .ok (.iload 6, 2) := by decide +kernel
theorem dX1_give_98 : decode cX1_give 98 = .ok (.invokevirtual 59, 3) := by decide +kernel
theorem dX1_give_101 : decode cX1_give 101 = .ok (.ifCond .eq 60, 3) := by decide +kernel
theorem dX1_give_104 : decode cX1_give 104 = .ok (.aload_n 0, 1) := by decide +kernel
theorem dX1_give_105 : decode cX1_give 105 = .ok (.getfield 16, 3) := by decide +kernel
theorem dX1_give_108 : decode cX1_give 108 = .ok (.aload_n 0, 1) := by decide +kernel
theorem dX1_give_109 : decode cX1_give 109 = .ok (.getfield 10, 3) := by decide +kernel
theorem dX1_give_112 : decode cX1_give 112 = .ok (.invokevirtual 47, 3) := by decide +kernel
theorem dX1_give_115 : decode cX1_give 115 = .ok (.aload_n 0, 1) := by decide +kernel
theorem dX1_give_116 : decode cX1_give 116 = .ok (.getfield 16, 3) := by decide +kernel
theorem dX1_give_119 : decode cX1_give 119 = .ok (.getfield 75, 3) := by decide +kernel
theorem dX1_give_122 : decode cX1_give 122 = .ok (.iload 5, 2) := by decide +kernel
theorem dX1_give_124 : decode cX1_give 124 = .ok (.iload 6, 2) := by decide +kernel
theorem dX1_give_126 : decode cX1_give 126 = .ok (.invokestatic 40, 3) := by decide +kernel
theorem dX1_give_129 : decode cX1_give 129 = .ok (.aload_n 0, 1) := by decide +kernel
theorem dX1_give_130 : decode cX1_give 130 = .ok (.getfield 16, 3) := by decide +kernel
theorem dX1_give_133 : decode cX1_give 133 = .ok (.iload_n 1, 1) := by decide +kernel
theorem dX1_give_134 : decode cX1_give 134 = .ok (.iconst 1, 1) := by decide +kernel
theorem dX1_give_135 : decode cX1_give 135 = .ok (.invokevirtual 97, 3) := by decide +kernel
theorem dX1_give_138 : decode cX1_give 138 = .ok (.pop, 1) := by decide +kernel
theorem dX1_give_139 : decode cX1_give 139 = .ok (.aload_n 0, 1) := by decide +kernel
theorem dX1_give_140 : decode cX1_give 140 = .ok (.getfield 16, 3) := by decide +kernel
theorem dX1_give_143 : decode cX1_give 143 = .ok (.invokevirtual 174, 3) := by decide +kernel
theorem dX1_give_146 : decode cX1_give 146 = .ok (.istore 7, 2) := by decide +kernel
theorem dX1_give_148 : decode cX1_give 148 = .ok (.iload 7, 2) := by decide +kernel
theorem dX1_give_150 : decode cX1_give 150 = .ok (.iload_n 3, 1) := by decide +kernel
theorem dX1_give_151 : decode cX1_give 151 = .ok (.if_icmp .le 10, 3) := by decide +kernel
theorem dX1_give_154 : decode cX1_give 154 = .ok (.iload 7, 2) := by decide +kernel
theorem dX1_give_156 : decode cX1_give 156 = .ok (.istore_n 3, 1) := by decide +kernel
theorem dX1_give_157 : decode cX1_give 157 = .ok (.iload 5, 2) := by decide +kernel
theorem dX1_give_159 : decode cX1_give 159 = .ok (.istore 4, 2) := by decide +kernel
theorem dX1_give_161 : decode cX1_give 161 = .ok (.iinc 5 1, 3) := by decide +kernel
theorem dX1_give_164 : decode cX1_give 164 = .ok (.goto (-110), 3) := by decide +kernel
theorem dX1_give_167 : decode cX1_give 167 = .ok (.iload 4, 2) := by decide +kernel
theorem dX1_give_169 : decode cX1_give 169 = .ok (.ireturn, 1) := by decide +kernel
set_option maxRecDepth 20000 in
theorem ggX1_pool_X0_hasBidder : GoodIn wsX1_pool wsX0_hasBidder := goodIn_r _ [6, 7, 110, 111, 112, 113, 114, 115, 116, 117, 118, 119, 120, 121, 122] (by decide +kernel) (by decide +kernel)
set_option maxRecDepth 20000 in
theorem gX1_pool_X0_hasBidder_n59 : GoodIn wsX1_pool (wsX0_hasBidder) := ggX1_pool_X0_hasBidder
set_option maxRecDepth 20000 in
theorem ggX1_pool_X1_refuse : GoodIn wsX1_pool wsX1_refuse := goodIn_r _ [12, 13, 14, 15, 11, 16, 17, 18, 19, 101, 102, 103, 104, 105, 106, 107, 108, 109] (by decide +kernel) (by decide +kernel)
set_option maxRecDepth 20000 in
theorem gX1_pool_X1_refuse : GoodIn wsX1_pool (wsV RX1 32 RX1 yX1_refuse wsX1_refuse) := goodIn_app (goodIn_of _ (by decide +kernel)) ggX1_pool_X1_refuse
set_option maxRecDepth 20000 in
theorem ggX1_pool_X1_beyond : GoodIn wsX1_pool wsX1_beyond := goodIn_r _ [22] (by decide +kernel) (by decide +kernel)
set_option maxRecDepth 20000 in
theorem gX1_pool_X1_beyond : GoodIn wsX1_pool (va_wsS RX1 62 yX1_beyond wsX1_beyond) := goodIn_app (goodIn_of _ (by decide +kernel)) ggX1_pool_X1_beyond
set_option maxRecDepth 20000 in
theorem ggX1_pool_X0_become : GoodIn wsX1_pool wsX0_become := goodIn_r _ [25, 26, 7, 27, 28, 29, 30, 31, 32, 33, 34, 35, 36, 37, 38, 11, 39, 40, 41, 42, 43, 44, 45, 46, 47, 110, 111, 112, 113, 114, 115, 116, 117, 118, 119, 120, 121, 122] (by decide +kernel) (by decide +kernel)
set_option maxRecDepth 20000 in
theorem gX1_pool_X0_become_n47 : GoodIn wsX1_pool (wsX0_become) := ggX1_pool_X0_become
set_option maxRecDepth 20000 in
theorem ggX1_pool_X0_goOn : GoodIn wsX1_pool wsX0_goOn := goodIn_r _ [50, 27, 26, 33, 15, 11, 16, 51, 52, 53, 4, 54, 32, 55, 56, 57, 58, 59, 60, 61, 62, 30, 36, 37, 63, 41, 42, 43, 64, 65, 66, 67, 68, 69, 70, 7, 71, 72, 73, 74, 29, 31, 28, 75, 76, 77, 78, 35, 34, 79, 3, 5, 6, 18, 19, 80, 81, 82, 83, 110, 111, 112, 113, 114, 115, 116, 117, 118, 119, 120, 121, 122] (by decide +kernel) (by decide +kernel)
set_option maxRecDepth 20000 in
theorem gX1_pool_X0_goOn_n97 : GoodIn wsX1_pool (wsX0_goOn) := ggX1_pool_X0_goOn
set_option maxRecDepth 20000 in
theorem ggX1_pool_X0_heldBy : GoodIn wsX1_pool wsX0_heldBy := goodIn_r _ [86, 87, 88, 89, 4, 90, 26, 32, 15, 11, 16, 91, 92, 93, 94, 95, 96, 97, 110, 111, 112, 113, 114, 115, 116, 117, 118, 119, 120, 121, 122] (by decide +kernel) (by decide +kernel)
set_option maxRecDepth 20000 in
theorem gX1_pool_X0_heldBy_n190 : GoodIn wsX1_pool (wsX0_heldBy) := ggX1_pool_X0_heldBy
set_option maxRecDepth 20000 in
theorem ggX1_pool_X0_pourPurse : GoodIn wsX1_pool wsX0_pourPurse := goodIn_r _ [100, 36, 63, 41, 42, 43, 15, 11, 16, 18, 19, 110, 111, 112, 113, 114, 115, 116, 117, 118, 119, 120, 121, 122] (by decide +kernel) (by decide +kernel)
set_option maxRecDepth 20000 in
theorem gX1_pool_X0_pourPurse_n197 : GoodIn wsX1_pool (wsX0_pourPurse) := ggX1_pool_X0_pourPurse
theorem dX1_pool_0 : decode cX1_pool 0 = .ok (.aload_n 0, 1) := by decide +kernel
theorem dX1_pool_1 : decode cX1_pool 1 = .ok (.getfield 10, 3) := by decide +kernel
theorem dX1_pool_4 : decode cX1_pool 4 = .ok (.iload_n 1, 1) := by decide +kernel
theorem dX1_pool_5 : decode cX1_pool 5 = .ok (.invokevirtual 59, 3) := by decide +kernel
theorem dX1_pool_8 : decode cX1_pool 8 = .ok (.ifCond .ne 9, 3) := by decide +kernel
theorem dX1_pool_11 : decode cX1_pool 11 = .ok (.aload_n 0, 1) := by decide +kernel
theorem dX1_pool_12 : decode cX1_pool 12 = .ok (.iconst (-1), 1) := by decide +kernel
theorem dX1_pool_13 : decode cX1_pool 13 = .ok (.invokevirtual 32, 3) := by decide +kernel
theorem dX1_pool_16 : decode cX1_pool 16 = .ok (.ireturn, 1) := by decide +kernel
theorem dX1_pool_17 : decode cX1_pool 17 = .ok (.iload_n 2, 1) := by decide +kernel
theorem dX1_pool_18 : decode cX1_pool 18 = .ok (.iconst 0, 1) := by decide +kernel
theorem dX1_pool_19 : decode cX1_pool 19 = .ok (.bipush 20, 2) := by decide +kernel
theorem dX1_pool_21 : decode cX1_pool 21 = .ok (.invokestatic 62, 3) := by decide +kernel
theorem dX1_pool_24 : decode cX1_pool 24 = .ok (.istore_n 3, 1) := by decide +kernel
theorem dX1_pool_25 : decode cX1_pool 25 = .ok (.iload_n 3, 1) := by decide +kernel
theorem dX1_pool_26 : decode cX1_pool 26 = .ok (.ifCond .eq 9, 3) := by decide +kernel
theorem dX1_pool_29 : decode cX1_pool 29 = .ok (.aload_n 0, 1) := by decide +kernel
theorem dX1_pool_30 : decode cX1_pool 30 = .ok (.iload_n 3, 1) := by decide +kernel
theorem dX1_pool_31 : decode cX1_pool 31 = .ok (.invokevirtual 32, 3) := by decide +kernel
theorem dX1_pool_34 : decode cX1_pool 34 = .ok (.ireturn, 1) := by decide +kernel
theorem dX1_pool_35 : decode cX1_pool 35 = .ok (.aload_n 0, 1) := by decide +kernel
theorem dX1_pool_36 : decode cX1_pool 36 = .ok (.getfield 16, 3) := by decide +kernel
theorem dX1_pool_39 : decode cX1_pool 39 = .ok (.aload_n 0, 1) := by decide +kernel
theorem dX1_pool_40 : decode cX1_pool 40 = .ok (.getfield 10, 3) := by decide +kernel
theorem dX1_pool_43 : decode cX1_pool 43 = .ok (.invokevirtual 47, 3) := by decide +kernel
theorem dX1_pool_46 : decode cX1_pool 46 = .ok (.aload_n 0, 1) := by decide +kernel
theorem dX1_pool_47 : decode cX1_pool 47 = .ok (.getfield 16, 3) := by decide +kernel
theorem dX1_pool_50 : decode cX1_pool 50 = .ok (.iload_n 2, 1) := by decide +kernel
theorem dX1_pool_51 : decode cX1_pool 51 = .ok (.iconst 1, 1) := by decide +kernel
theorem dX1_pool_52 : decode cX1_pool 52 = .ok (.invokevirtual 97, 3) := by decide +kernel
theorem dX1_pool_55 : decode cX1_pool 55 = .ok (.pop, 1) := by decide +kernel
theorem dX1_pool_56 : decode cX1_pool 56 = .ok (.aload_n 0, 1) := by decide +kernel
theorem dX1_pool_57 : decode cX1_pool 57 = .ok (.getfield 16, 3) := by decide +kernel
theorem dX1_pool_60 : decode cX1_pool 60 = .ok (.iload_n 1, 1) := by decide +kernel
theorem dX1_pool_61 : decode cX1_pool 61 = .ok (.invokevirtual 190, 3) := by decide +kernel
theorem dX1_pool_64 : decode cX1_pool 64 = .ok (.istore 4, 2) := by decide +kernel
theorem dX1_pool_66 : decode cX1_pool 66 = .ok (.bipush (-9), 2) := by decide +kernel
theorem dX1_pool_68 : decode cX1_pool 68 = .ok (.istore 5, 2) := by decide +kernel
theorem dX1_pool_70 : decode cX1_pool 70 = .ok (.iconst 0, 1) := by decide +kernel
theorem dX1_pool_71 : decode cX1_pool 71 = .ok (.istore 6, 2) := by decide +kernel
theorem dX1_pool_73 : decode cX1_pool 73 = .ok (.iload 6, 2) := by decide +kernel
theorem dX1_pool_75 : decode cX1_pool 75 = .ok (.aload_n 0, 1) := by decide +kernel
theorem dX1_pool_76 : decode cX1_pool 76 = .ok (.getfield 10, 3) := by decide +kernel
theorem dX1_pool_79 : decode cX1_pool 79 = .ok (.getfield 139, 3) := by decide +kernel
theorem dX1_pool_82 : decode cX1_pool 82 = .ok (.if_icmp .ge 71, 3) := by decide +kernel
theorem dX1_pool_85 : decode cX1_pool 85 = .ok (.iload 6, 2) := by decide +kernel
theorem dX1_pool_87 : decode cX1_pool 87 = .ok (.iload_n 1, 1) := by decide +kernel
theorem dX1_pool_88 : decode cX1_pool 88 = .ok (.if_icmp .eq 59, 3) := by decide +kernel
theorem dX1_pool_91 : decode cX1_pool 91 = .ok (.aload_n 0, 1) := by decide +kernel
theorem dX1_pool_92 : decode cX1_pool 92 = .ok (.getfield 16, 3) := by decide +kernel
theorem dX1_pool_95 : decode cX1_pool 95 = .ok (.aload_n 0, 1) := by decide +kernel
theorem dX1_pool_96 : decode cX1_pool 96 = .ok (.getfield 10, 3) := by decide +kernel
theorem dX1_pool_99 : decode cX1_pool 99 = .ok (.invokevirtual 47, 3) := by decide +kernel
theorem dX1_pool_102 : decode cX1_pool 102 = .ok (.aload_n 0, 1) := by decide +kernel
theorem dX1_pool_103 : decode cX1_pool 103 = .ok (.getfield 16, 3) := by decide +kernel
theorem dX1_pool_106 : decode cX1_pool 106 = .ok (.iload 6, 2) := by decide +kernel
theorem dX1_pool_108 : decode cX1_pool 108 = .ok (.iload_n 1, 1) := by decide +kernel
theorem dX1_pool_109 : decode cX1_pool 109 = .ok (.invokevirtual 197, 3) := by decide +kernel
theorem dX1_pool_112 : decode cX1_pool 112 = .ok (.aload_n 0, 1) := by decide +kernel
theorem dX1_pool_113 : decode cX1_pool 113 = .ok (.getfield 16, 3) := by decide +kernel
theorem dX1_pool_116 : decode cX1_pool 116 = .ok (.iload_n 2, 1) := by decide +kernel
theorem dX1_pool_117 : decode cX1_pool 117 = .ok (.iconst 1, 1) := by decide +kernel
theorem dX1_pool_118 : decode cX1_pool 118 = .ok (.invokevirtual 97, 3) := by decide +kernel
theorem dX1_pool_121 : decode cX1_pool 121 = .ok (.pop, 1) := by decide +kernel
theorem dX1_pool_122 : decode cX1_pool 122 = .ok (.aload_n 0, 1) := by decide +kernel
theorem dX1_pool_123 : decode cX1_pool 123 = .ok (.getfield 16, 3) := by decide +kernel
theorem dX1_pool_126 : decode cX1_pool 126 = .ok (.iload_n 1, 1) := by decide +kernel
theorem dX1_pool_127 : decode cX1_pool 127 = .ok (.invokevirtual 190, 3) := by decide +kernel
theorem dX1_pool_130 : decode cX1_pool 130 = .ok (.istore 7, 2) := by decide +kernel
theorem dX1_pool_132 : decode cX1_pool 132 = .ok (.iload 7, 2) := by decide +kernel
theorem dX1_pool_134 : decode cX1_pool 134 = .ok (.iload 4, 2) := by decide +kernel
theorem dX1_pool_136 : decode cX1_pool 136 = .ok (.if_icmp .le 11, 3) := by decide +kernel
theorem dX1_pool_139 : decode cX1_pool 139 = .ok (.iload 7, 2) := by decide +kernel
theorem dX1_pool_141 : decode cX1_pool 141 = .ok (.istore 4, 2) := by decide +kernel
theorem dX1_pool_143 : decode cX1_pool 143 = .ok (.iload 6, 2) := by decide +kernel
theorem dX1_pool_145 : decode cX1_pool 145 = .ok (.istore 5, 2) := by decide +kernel
theorem dX1_pool_147 : decode cX1_pool 147 = .ok (.iinc 6 1, 3) := by decide +kernel
theorem dX1_pool_150 : decode cX1_pool 150 = .ok (.goto (-77), 3) := by decide +kernel
theorem dX1_pool_153 : decode cX1_pool 153 = .ok (.iload 5, 2) := by decide +kernel
theorem dX1_pool_155 : decode cX1_pool 155 = .ok (.ireturn, 1) := by decide +kernel
set_option maxRecDepth 20000 in
theorem ggX1_stay_X1_refuse : GoodIn wsX1_stay wsX1_refuse := goodIn_r _ [7, 8, 9, 10, 6, 11, 12, 13, 14, 81, 82, 83, 84, 85, 86, 87, 88, 89] (by decide +kernel) (by decide +kernel)
set_option maxRecDepth 20000 in
theorem gX1_stay_X1_refuse : GoodIn wsX1_stay (wsV RX1 32 RX1 yX1_refuse wsX1_refuse) := goodIn_app (goodIn_of _ (by decide +kernel)) ggX1_stay_X1_refuse
set_option maxRecDepth 20000 in
theorem ggX1_stay_X0_become : GoodIn wsX1_stay wsX0_become := goodIn_r _ [18, 19, 20, 21, 22, 23, 24, 25, 26, 27, 28, 29, 30, 31, 32, 6, 33, 34, 35, 36, 37, 38, 39, 40, 41, 90, 91, 92, 93, 94, 95, 96, 97, 98, 99, 100, 101, 102] (by decide +kernel) (by decide +kernel)
set_option maxRecDepth 20000 in
theorem gX1_stay_X0_become_n47 : GoodIn wsX1_stay (wsX0_become) := ggX1_stay_X0_become
set_option maxRecDepth 20000 in
theorem ggX1_stay_X1_put : GoodIn wsX1_stay wsX1_put := goodIn_r _ [14] (by decide +kernel) (by decide +kernel)
set_option maxRecDepth 20000 in
theorem gX1_stay_X1_put : GoodIn wsX1_stay (va_wsS RX1 40 yX1_put wsX1_put) := goodIn_app (goodIn_of _ (by decide +kernel)) ggX1_stay_X1_put
set_option maxRecDepth 20000 in
theorem ggX1_stay_X0_goOn : GoodIn wsX1_stay wsX0_goOn := goodIn_r _ [44, 21, 19, 27, 10, 6, 11, 45, 46, 47, 16, 48, 26, 49, 50, 51, 52, 53, 54, 55, 56, 24, 30, 31, 57, 35, 36, 37, 58, 59, 60, 61, 62, 63, 64, 20, 65, 66, 67, 68, 23, 25, 22, 69, 70, 71, 72, 29, 28, 73, 74, 75, 76, 13, 14, 77, 78, 79, 80, 90, 91, 92, 93, 94, 95, 96, 97, 98, 99, 100, 101, 102] (by decide +kernel) (by decide +kernel)
set_option maxRecDepth 20000 in
theorem gX1_stay_X0_goOn_n97 : GoodIn wsX1_stay (wsX0_goOn) := ggX1_stay_X0_goOn
theorem dX1_stay_0 : decode cX1_stay 0 = .ok (.iload_n 1, 1) := by decide +kernel
theorem dX1_stay_1 : decode cX1_stay 1 = .ok (.ifCond .lt 8, 3) := by decide +kernel
theorem dX1_stay_4 : decode cX1_stay 4 = .ok (.iload_n 1, 1) := by decide +kernel
theorem dX1_stay_5 : decode cX1_stay 5 = .ok (.iconst 1, 1) := by decide +kernel
theorem dX1_stay_6 : decode cX1_stay 6 = .ok (.if_icmp .le 10, 3) := by decide +kernel
theorem dX1_stay_9 : decode cX1_stay 9 = .ok (.aload_n 0, 1) := by decide +kernel
theorem dX1_stay_10 : decode cX1_stay 10 = .ok (.bipush (-2), 2) := by decide +kernel
theorem dX1_stay_12 : decode cX1_stay 12 = .ok (.invokevirtual 32, 3) := by decide +kernel
theorem dX1_stay_15 : decode cX1_stay 15 = .ok (.ireturn, 1) := by decide +kernel
theorem dX1_stay_16 : decode cX1_stay 16 = .ok (.bipush (-9), 2) := by decide +kernel
theorem dX1_stay_18 : decode cX1_stay 18 = .ok (.istore_n 2, 1) := by decide +kernel
theorem dX1_stay_19 : decode cX1_stay 19 = .ok (.bipush (-9), 2) := by decide +kernel
theorem dX1_stay_21 : decode cX1_stay 21 = .ok (.istore_n 3, 1) := by decide +kernel
theorem dX1_stay_22 : decode cX1_stay 22 = .ok (.iconst 0, 1) := by decide +kernel
theorem dX1_stay_23 : decode cX1_stay 23 = .ok (.istore 4, 2) := by decide +kernel
theorem dX1_stay_25 : decode cX1_stay 25 = .ok (.iload 4, 2) := by decide +kernel
theorem dX1_stay_27 : decode cX1_stay 27 = .ok (.aload_n 0, 1) := by decide +kernel
theorem dX1_stay_28 : decode cX1_stay 28 = .ok (.getfield 10, 3) := by decide +kernel
theorem dX1_stay_31 : decode cX1_stay 31 = .ok (.getfield 139, 3) := by decide +kernel
theorem dX1_stay_34 : decode cX1_stay 34 = .ok (.if_icmp .ge 62, 3) := by decide +kernel
theorem dX1_stay_37 : decode cX1_stay 37 = .ok (.aload_n 0, 1) := by decide +kernel
theorem dX1_stay_38 : decode cX1_stay 38 = .ok (.getfield 16, 3) := by decide +kernel
theorem dX1_stay_41 : decode cX1_stay 41 = .ok (.aload_n 0, 1) := by decide +kernel
theorem dX1_stay_42 : decode cX1_stay 42 = .ok (.getfield 10, 3) := by decide +kernel
theorem dX1_stay_45 : decode cX1_stay 45 = .ok (.invokevirtual 47, 3) := by decide +kernel
theorem dX1_stay_48 : decode cX1_stay 48 = .ok (.aload_n 0, 1) := by decide +kernel
theorem dX1_stay_49 : decode cX1_stay 49 = .ok (.getfield 16, 3) := by decide +kernel
theorem dX1_stay_52 : decode cX1_stay 52 = .ok (.getfield 66, 3) := by decide +kernel
theorem dX1_stay_55 : decode cX1_stay 55 = .ok (.iload 4, 2) := by decide +kernel
theorem dX1_stay_57 : decode cX1_stay 57 = .ok (.iconst 0, 1) := by decide +kernel
theorem dX1_stay_58 : decode cX1_stay 58 = .ok (.invokestatic 40, 3) := by decide +kernel
theorem dX1_stay_61 : decode cX1_stay 61 = .ok (.aload_n 0, 1) := by decide +kernel
theorem dX1_stay_62 : decode cX1_stay 62 = .ok (.getfield 16, 3) := by decide +kernel
theorem dX1_stay_65 : decode cX1_stay 65 = .ok (.iconst 1, 1) := by decide +kernel
theorem dX1_stay_66 : decode cX1_stay 66 = .ok (.iconst 1, 1) := by decide +kernel
theorem dX1_stay_67 : decode cX1_stay 67 = .ok (.invokevirtual 97, 3) := by decide +kernel
theorem dX1_stay_70 : decode cX1_stay 70 = .ok (.istore 5, 2) := by decide +kernel
theorem dX1_stay_72 : decode cX1_stay 72 = .ok (.iload_n 2, 1) := by decide +kernel
theorem dX1_stay_73 : decode cX1_stay 73 = .ok (.bipush (-9), 2) := by decide +kernel
theorem dX1_stay_75 : decode cX1_stay 75 = .ok (.if_icmp .eq 9, 3) := by decide +kernel
theorem dX1_stay_78 : decode cX1_stay 78 = .ok (.iload 5, 2) := by decide +kernel
theorem dX1_stay_80 : decode cX1_stay 80 = .ok (.iload_n 3, 1) := by decide +kernel
theorem dX1_stay_81 : decode cX1_stay 81 = .ok (.if_icmp .ge 9, 3) := by decide +kernel
theorem dX1_stay_84 : decode cX1_stay 84 = .ok (.iload 4, 2) := by decide +kernel
theorem dX1_stay_86 : decode cX1_stay 86 = .ok (.istore_n 2, 1) := by decide +kernel
theorem dX1_stay_87 : decode cX1_stay 87 = .ok (.iload 5, 2) := by decide +kernel
theorem dX1_stay_89 : decode cX1_stay 89 = .ok (.istore_n 3, 1) := by decide +kernel
theorem dX1_stay_90 : decode cX1_stay 90 = .ok (.iinc 4 1, 3) := by decide +kernel
theorem dX1_stay_93 : decode cX1_stay 93 = .ok (.goto (-68), 3) := by decide +kernel
theorem dX1_stay_96 : decode cX1_stay 96 = .ok (.iload_n 1, 1) := by decide +kernel
theorem dX1_stay_97 : decode cX1_stay 97 = .ok (.ifCond .ne 7, 3) := by decide +kernel
theorem dX1_stay_100 : decode cX1_stay 100 = .ok (.iload_n 2, 1) := by decide +kernel
theorem dX1_stay_101 : decode cX1_stay 101 = .ok (.goto 4, 3) := by decide +kernel
theorem dX1_stay_104 : decode cX1_stay 104 = .ok (.iload_n 3, 1) := by decide +kernel
theorem dX1_stay_105 : decode cX1_stay 105 = .ok (.ireturn, 1) := by decide +kernel
set_option maxRecDepth 20000 in
theorem ggX1_two_X0_hasBidder : GoodIn wsX1_two wsX0_hasBidder := goodIn_r _ [5, 6, 71, 72, 73, 74, 75, 76, 77, 78, 79, 80, 81, 82, 83] (by decide +kernel) (by decide +kernel)
set_option maxRecDepth 20000 in
theorem gX1_two_X0_hasBidder_n59 : GoodIn wsX1_two (wsX0_hasBidder) := ggX1_two_X0_hasBidder
set_option maxRecDepth 20000 in
theorem ggX1_two_X0_hasCard : GoodIn wsX1_two wsX0_hasCard := goodIn_r _ [9, 10, 71, 72, 73, 74, 75, 76, 77, 78, 79, 80, 81, 82, 83] (by decide +kernel) (by decide +kernel)
set_option maxRecDepth 20000 in
theorem gX1_two_X0_hasCard_n69 : GoodIn wsX1_two (wsX0_hasCard) := ggX1_two_X0_hasCard
set_option maxRecDepth 20000 in
theorem ggX1_two_X1_refuse : GoodIn wsX1_two wsX1_refuse := goodIn_r _ [15, 16, 17, 18, 14, 19, 20, 21, 22, 62, 63, 64, 65, 66, 67, 68, 69, 70] (by decide +kernel) (by decide +kernel)
set_option maxRecDepth 20000 in
theorem gX1_two_X1_refuse : GoodIn wsX1_two (wsV RX1 32 RX1 yX1_refuse wsX1_refuse) := goodIn_app (goodIn_of _ (by decide +kernel)) ggX1_two_X1_refuse
set_option maxRecDepth 20000 in
theorem ggX1_two_X0_inPile : GoodIn wsX1_two wsX0_inPile := goodIn_r _ [25, 26, 27, 7, 8, 3, 9, 10, 18, 14, 19, 71, 72, 73, 74, 75, 76, 77, 78, 79, 80, 81, 82, 83] (by decide +kernel) (by decide +kernel)
set_option maxRecDepth 20000 in
theorem gX1_two_X0_inPile_n72 : GoodIn wsX1_two (wsX0_inPile) := ggX1_two_X0_inPile
set_option maxRecDepth 20000 in
theorem ggX1_two_X1_away : GoodIn wsX1_two wsX1_away := goodIn_r _ [30] (by decide +kernel) (by decide +kernel)
set_option maxRecDepth 20000 in
theorem gX1_two_X1_away : GoodIn wsX1_two (va_wsS RX1 201 yX1_away wsX1_away) := goodIn_app (goodIn_of _ (by decide +kernel)) ggX1_two_X1_away
set_option maxRecDepth 20000 in
theorem ggX1_two_X0_gain : GoodIn wsX1_two wsX0_gain := goodIn_r _ [33, 34, 35, 36, 37, 3, 38, 6, 39, 40, 41, 42, 43, 44, 45, 46, 47, 48, 49, 50, 51, 52, 18, 14, 19, 53, 54, 55, 56, 57, 58, 59, 60, 61, 2, 4, 5, 71, 72, 73, 74, 75, 76, 77, 78, 79, 80, 81, 82, 83] (by decide +kernel) (by decide +kernel)
set_option maxRecDepth 20000 in
theorem gX1_two_X0_gain_n204 : GoodIn wsX1_two (wsX0_gain) := ggX1_two_X0_gain
theorem dX1_two_0 : decode cX1_two 0 = .ok (.aload_n 0, 1) := by decide +kernel
theorem dX1_two_1 : decode cX1_two 1 = .ok (.getfield 10, 3) := by decide +kernel
theorem dX1_two_4 : decode cX1_two 4 = .ok (.iload_n 1, 1) := by decide +kernel
theorem dX1_two_5 : decode cX1_two 5 = .ok (.invokevirtual 59, 3) := by decide +kernel
theorem dX1_two_8 : decode cX1_two 8 = .ok (.ifCond .eq 30, 3) := by decide +kernel
theorem dX1_two_11 : decode cX1_two 11 = .ok (.aload_n 0, 1) := by decide +kernel
theorem dX1_two_12 : decode cX1_two 12 = .ok (.getfield 10, 3) := by decide +kernel
theorem dX1_two_15 : decode cX1_two 15 = .ok (.iload_n 2, 1) := by decide +kernel
theorem dX1_two_16 : decode cX1_two 16 = .ok (.invokevirtual 59, 3) := by decide +kernel
theorem dX1_two_19 : decode cX1_two 19 = .ok (.ifCond .eq 19, 3) := by decide +kernel
theorem dX1_two_22 : decode cX1_two 22 = .ok (.iload_n 1, 1) := by decide +kernel
theorem dX1_two_23 : decode cX1_two 23 = .ok (.iload_n 2, 1) := by decide +kernel
theorem dX1_two_24 : decode cX1_two 24 = .ok (.if_icmp .eq 14, 3) := by decide +kernel
theorem dX1_two_27 : decode cX1_two 27 = .ok (.aload_n 0, 1) := by decide +kernel
theorem dX1_two_28 : decode cX1_two 28 = .ok (.getfield 10, 3) := by decide +kernel
theorem dX1_two_31 : decode cX1_two 31 = .ok (.iload_n 3, 1) := by decide +kernel
theorem dX1_two_32 : decode cX1_two 32 = .ok (.invokevirtual 69, 3) := by decide +kernel
theorem dX1_two_35 : decode cX1_two 35 = .ok (.ifCond .ne 9, 3) := by decide +kernel
theorem dX1_two_38 : decode cX1_two 38 = .ok (.aload_n 0, 1) := by decide +kernel
theorem dX1_two_39 : decode cX1_two 39 = .ok (.iconst (-1), 1) := by decide +kernel
theorem dX1_two_40 : decode cX1_two 40 = .ok (.invokevirtual 32, 3) := by decide +kernel
theorem dX1_two_43 : decode cX1_two 43 = .ok (.ireturn, 1) := by decide +kernel
theorem dX1_two_44 : decode cX1_two 44 = .ok (.aload_n 0, 1) := by decide +kernel
theorem dX1_two_45 : decode cX1_two 45 = .ok (.getfield 10, 3) := by decide +kernel
theorem dX1_two_48 : decode cX1_two 48 = .ok (.iload_n 3, 1) := by decide +kernel
theorem dX1_two_49 : decode cX1_two 49 = .ok (.invokevirtual 72, 3) := by decide +kernel
theorem dX1_two_52 : decode cX1_two 52 = .ok (.ifCond .ne 10, 3) := by decide +kernel
theorem dX1_two_55 : decode cX1_two 55 = .ok (.aload_n 0, 1) := by decide +kernel
theorem dX1_two_56 : decode cX1_two 56 = .ok (.bipush (-3), 2) := by decide +kernel
theorem dX1_two_58 : decode cX1_two 58 = .ok (.invokevirtual 32, 3) := by decide +kernel
theorem dX1_two_61 : decode cX1_two 61 = .ok (.ireturn, 1) := by decide +kernel
theorem dX1_two_62 : decode cX1_two 62 = .ok (.iconst 0, 1) := by decide +kernel
theorem dX1_two_63 : decode cX1_two 63 = .ok (.istore 4, 2) := by decide +kernel
theorem dX1_two_65 : decode cX1_two 65 = .ok (.iload 4, 2) := by decide +kernel
theorem dX1_two_67 : decode cX1_two 67 = .ok (.iconst 1, 1) := by decide +kernel
theorem dX1_two_68 : decode cX1_two 68 = .ok (.if_icmp .gt 118, 3) := by decide +kernel
theorem dX1_two_71 : decode cX1_two 71 = .ok (.iconst 0, 1) := by decide +kernel
theorem dX1_two_72 : decode cX1_two 72 = .ok (.istore 5, 2) := by decide +kernel
theorem dX1_two_74 : decode cX1_two 74 = .ok (.iload 5, 2) := by decide +kernel
theorem dX1_two_76 : decode cX1_two 76 = .ok (.iconst 1, 1) := by decide +kernel
theorem dX1_two_77 : decode cX1_two 77 = .ok (.if_icmp .gt 103, 3) := by decide +kernel
theorem dX1_two_80 : decode cX1_two 80 = .ok (.iload_n 1, 1) := by decide +kernel
theorem dX1_two_81 : decode cX1_two 81 = .ok (.iload 4, 2) := by decide +kernel
theorem dX1_two_83 : decode cX1_two 83 = .ok (.invokestatic 201, 3) := by decide +kernel
theorem dX1_two_86 : decode cX1_two 86 = .ok (.iload_n 2, 1) := by decide +kernel
theorem dX1_two_87 : decode cX1_two 87 = .ok (.iload 5, 2) := by decide +kernel
theorem dX1_two_89 : decode cX1_two 89 = .ok (.invokestatic 201, 3) := by decide +kernel
theorem dX1_two_92 : decode cX1_two 92 = .ok (.ior, 1) := by decide +kernel
theorem dX1_two_93 : decode cX1_two 93 = .ok (.istore 6, 2) := by decide +kernel
theorem dX1_two_95 : decode cX1_two 95 = .ok (.aload_n 0, 1) := by decide +kernel
theorem dX1_two_96 : decode cX1_two 96 = .ok (.getfield 10, 3) := by decide +kernel
theorem dX1_two_99 : decode cX1_two 99 = .ok (.iload_n 1, 1) := by decide +kernel
theorem dX1_two_100 : decode cX1_two 100 = .ok (.iload_n 3, 1) := by decide +kernel
theorem dX1_two_101 : decode cX1_two 101 = .ok (.iload 6, 2) := by decide +kernel
theorem dX1_two_103 : decode cX1_two 103 = .ok (.invokevirtual 204, 3) := by decide +kernel
theorem dX1_two_106 : decode cX1_two 106 = .ok (.aload_n 0, 1) := by decide +kernel
theorem dX1_two_107 : decode cX1_two 107 = .ok (.getfield 10, 3) := by decide +kernel
theorem dX1_two_110 : decode cX1_two 110 = .ok (.iload_n 1, 1) := by decide +kernel
theorem dX1_two_111 : decode cX1_two 111 = .ok (.iload_n 3, 1) := by decide +kernel
theorem dX1_two_112 : decode cX1_two 112 = .ok (.iload 6, 2) := by decide +kernel
theorem dX1_two_114 : decode cX1_two 114 = .ok (.iconst 1, 1) := by decide +kernel
theorem dX1_two_115 : decode cX1_two 115 = .ok (.iload_n 1, 1) := by decide +kernel
theorem dX1_two_116 : decode cX1_two 116 = .ok (.ishl, 1) := by decide +kernel
theorem dX1_two_117 : decode cX1_two 117 = .ok (.ixor, 1) := by decide +kernel
theorem dX1_two_118 : decode cX1_two 118 = .ok (.invokevirtual 204, 3) := by decide +kernel
theorem dX1_two_121 : decode cX1_two 121 = .ok (.if_icmp .lt 36, 3) := by decide +kernel
theorem dX1_two_124 : decode cX1_two 124 = .ok (.aload_n 0, 1) := by decide +kernel
theorem dX1_two_125 : decode cX1_two 125 = .ok (.getfield 10, 3) := by decide +kernel
theorem dX1_two_128 : decode cX1_two 128 = .ok (.iload_n 2, 1) := by decide +kernel
theorem dX1_two_129 : decode cX1_two 129 = .ok (.iload_n 3, 1) := by decide +kernel
theorem dX1_two_130 : decode cX1_two 130 = .ok (.iload 6, 2) := by decide +kernel
theorem dX1_two_132 : decode cX1_two 132 = .ok (.invokevirtual 204, 3) := by decide +kernel
theorem dX1_two_135 : decode cX1_two 135 = .ok (.aload_n 0, 1) := by decide +kernel
theorem dX1_two_136 : decode cX1_two 136 = .ok (.getfield 10, 3) := by decide +kernel
theorem dX1_two_139 : decode cX1_two 139 = .ok (.iload_n 2, 1) := by decide +kernel
theorem dX1_two_140 : decode cX1_two 140 = .ok (.iload_n 3, 1) := by decide +kernel
theorem dX1_two_141 : decode cX1_two 141 = .ok (.iload 6, 2) := by decide +kernel
theorem dX1_two_143 : decode cX1_two 143 = .ok (.iconst 1, 1) := by decide +kernel
theorem dX1_two_144 : decode cX1_two 144 = .ok (.iload_n 2, 1) := by decide +kernel
theorem dX1_two_145 : decode cX1_two 145 = .ok (.ishl, 1) := by decide +kernel
theorem dX1_two_146 : decode cX1_two 146 = .ok (.ixor, 1) := by decide +kernel
theorem dX1_two_147 : decode cX1_two 147 = .ok (.invokevirtual 204, 3) := by decide +kernel
theorem dX1_two_150 : decode cX1_two 150 = .ok (.if_icmp .lt 7, 3) := by decide +kernel
theorem dX1_two_153 : decode cX1_two 153 = .ok (.iconst 1, 1) := by decide +kernel
theorem dX1_two_154 : decode cX1_two 154 = .ok (.goto 4, 3) := by decide +kernel
theorem dX1_two_157 : decode cX1_two 157 = .ok (.iconst 0, 1) := by decide +kernel
theorem dX1_two_158 : decode cX1_two 158 = .ok (.istore 7, 2) := by decide +kernel
theorem dX1_two_160 : decode cX1_two 160 = .ok (.iload 7, 2) := by decide +kernel
theorem dX1_two_162 : decode cX1_two 162 = .ok (.ifCond .eq 12, 3) := by decide +kernel
theorem dX1_two_165 : decode cX1_two 165 = .ok (.bipush 10, 2) := by decide +kernel
theorem dX1_two_167 : decode cX1_two 167 = .ok (.iload 4, 2) := by decide +kernel
theorem dX1_two_169 : decode cX1_two 169 = .ok (.imul, 1) := by decide +kernel
theorem dX1_two_170 : decode cX1_two 170 = .ok (.iload 5, 2) := by decide +kernel
theorem dX1_two_172 : decode cX1_two 172 = .ok (.iadd, 1) := by decide +kernel
theorem dX1_two_173 : decode cX1_two 173 = .ok (.ireturn, 1) := by decide +kernel
theorem dX1_two_174 : decode cX1_two 174 = .ok (.iinc 5 1, 3) := by decide +kernel
theorem dX1_two_177 : decode cX1_two 177 = .ok (.goto (-103), 3) := by decide +kernel
theorem dX1_two_180 : decode cX1_two 180 = .ok (.iinc 4 1, 3) := by decide +kernel
theorem dX1_two_183 : decode cX1_two 183 = .ok (.goto (-118), 3) := by decide +kernel
theorem dX1_two_186 : decode cX1_two 186 = .ok (.bipush (-9), 2) := by decide +kernel
theorem dX1_two_188 : decode cX1_two 188 = .ok (.ireturn, 1) := by decide +kernel
set_option maxRecDepth 20000 in
theorem ggX1_row_X1_refuse : GoodIn wsX1_row wsX1_refuse := goodIn_r _ [7, 8, 9, 10, 6, 11, 12, 13, 14, 15, 16, 17, 18, 19, 20, 21, 22, 23] (by decide +kernel) (by decide +kernel)
set_option maxRecDepth 20000 in
theorem gX1_row_X1_refuse : GoodIn wsX1_row (wsV RX1 32 RX1 yX1_refuse wsX1_refuse) := goodIn_app (goodIn_of _ (by decide +kernel)) ggX1_row_X1_refuse
set_option maxRecDepth 20000 in
theorem ggX1_row_X1_put : GoodIn wsX1_row wsX1_put := goodIn_r _ [14] (by decide +kernel) (by decide +kernel)
set_option maxRecDepth 20000 in
theorem gX1_row_X1_put : GoodIn wsX1_row (va_wsS RX1 40 yX1_put wsX1_put) := goodIn_app (goodIn_of _ (by decide +kernel)) ggX1_row_X1_put
theorem dX1_row_0 : decode cX1_row 0 = .ok (.iload_n 1, 1) := by decide +kernel
theorem dX1_row_1 : decode cX1_row 1 = .ok (.ifCond .ge 10, 3) := by decide +kernel
theorem dX1_row_4 : decode cX1_row 4 = .ok (.aload_n 0, 1) := by decide +kernel
theorem dX1_row_5 : decode cX1_row 5 = .ok (.bipush (-4), 2) := by decide +kernel
theorem dX1_row_7 : decode cX1_row 7 = .ok (.invokevirtual 32, 3) := by decide +kernel
theorem dX1_row_10 : decode cX1_row 10 = .ok (.ireturn, 1) := by decide +kernel
theorem dX1_row_11 : decode cX1_row 11 = .ok (.iload_n 1, 1) := by decide +kernel
theorem dX1_row_12 : decode cX1_row 12 = .ok (.bipush 99, 2) := by decide +kernel
theorem dX1_row_14 : decode cX1_row 14 = .ok (.if_icmp .gt 12, 3) := by decide +kernel
theorem dX1_row_17 : decode cX1_row 17 = .ok (.aload_n 0, 1) := by decide +kernel
theorem dX1_row_18 : decode cX1_row 18 = .ok (.getfield 177, 3) := by decide +kernel
theorem dX1_row_21 : decode cX1_row 21 = .ok (.bipush 16, 2) := by decide +kernel
theorem dX1_row_23 : decode cX1_row 23 = .ok (.if_icmp .lt 10, 3) := by decide +kernel
theorem dX1_row_26 : decode cX1_row 26 = .ok (.aload_n 0, 1) := by decide +kernel
theorem dX1_row_27 : decode cX1_row 27 = .ok (.bipush (-6), 2) := by decide +kernel
theorem dX1_row_29 : decode cX1_row 29 = .ok (.invokevirtual 32, 3) := by decide +kernel
theorem dX1_row_32 : decode cX1_row 32 = .ok (.ireturn, 1) := by decide +kernel
theorem dX1_row_33 : decode cX1_row 33 = .ok (.aload_n 0, 1) := by decide +kernel
theorem dX1_row_34 : decode cX1_row 34 = .ok (.getfield 26, 3) := by decide +kernel
theorem dX1_row_37 : decode cX1_row 37 = .ok (.aload_n 0, 1) := by decide +kernel
theorem dX1_row_38 : decode cX1_row 38 = .ok (.getfield 177, 3) := by decide +kernel
theorem dX1_row_41 : decode cX1_row 41 = .ok (.iload_n 1, 1) := by decide +kernel
theorem dX1_row_42 : decode cX1_row 42 = .ok (.invokestatic 40, 3) := by decide +kernel
theorem dX1_row_45 : decode cX1_row 45 = .ok (.aload_n 0, 1) := by decide +kernel
theorem dX1_row_46 : decode cX1_row 46 = .ok (.dup, 1) := by decide +kernel
theorem dX1_row_47 : decode cX1_row 47 = .ok (.getfield 177, 3) := by decide +kernel
theorem dX1_row_50 : decode cX1_row 50 = .ok (.iconst 1, 1) := by decide +kernel
theorem dX1_row_51 : decode cX1_row 51 = .ok (.iadd, 1) := by decide +kernel
theorem dX1_row_52 : decode cX1_row 52 = .ok (.putfield 177, 3) := by decide +kernel
theorem dX1_row_55 : decode cX1_row 55 = .ok (.aload_n 0, 1) := by decide +kernel
theorem dX1_row_56 : decode cX1_row 56 = .ok (.getfield 177, 3) := by decide +kernel
theorem dX1_row_59 : decode cX1_row 59 = .ok (.ireturn, 1) := by decide +kernel
theorem dX1_clear_0 : decode cX1_clear 0 = .ok (.aload_n 0, 1) := by decide +kernel
theorem dX1_clear_1 : decode cX1_clear 1 = .ok (.getfield 177, 3) := by decide +kernel
theorem dX1_clear_4 : decode cX1_clear 4 = .ok (.istore_n 1, 1) := by decide +kernel
theorem dX1_clear_5 : decode cX1_clear 5 = .ok (.aload_n 0, 1) := by decide +kernel
theorem dX1_clear_6 : decode cX1_clear 6 = .ok (.iconst 0, 1) := by decide +kernel
theorem dX1_clear_7 : decode cX1_clear 7 = .ok (.putfield 177, 3) := by decide +kernel
theorem dX1_clear_10 : decode cX1_clear 10 = .ok (.iload_n 1, 1) := by decide +kernel
theorem dX1_clear_11 : decode cX1_clear 11 = .ok (.ireturn, 1) := by decide +kernel
set_option maxRecDepth 20000 in
theorem ggX1_judge_X0_hasCard : GoodIn wsX1_judge wsX0_hasCard := goodIn_r _ [7, 8, 32, 33, 34, 35, 36, 37, 38, 39, 40, 41, 42, 43, 44] (by decide +kernel) (by decide +kernel)
set_option maxRecDepth 20000 in
theorem gX1_judge_X0_hasCard_n69 : GoodIn wsX1_judge (wsX0_hasCard) := ggX1_judge_X0_hasCard
set_option maxRecDepth 20000 in
theorem ggX1_judge_X0_worth : GoodIn wsX1_judge wsX0_worth := goodIn_r _ [11, 12, 13, 14, 15, 16, 17, 18, 19, 20, 21, 32, 33, 34, 35, 36, 37, 38, 39, 40, 41, 42, 43, 44] (by decide +kernel) (by decide +kernel)
set_option maxRecDepth 20000 in
theorem gX1_judge_X0_worth_n117 : GoodIn wsX1_judge (wsX0_worth) := ggX1_judge_X0_worth
set_option maxRecDepth 20000 in
theorem ggX1_judge_X1_at : GoodIn wsX1_judge wsX1_at := goodIn_r _ [21] (by decide +kernel) (by decide +kernel)
set_option maxRecDepth 20000 in
theorem gX1_judge_X1_at : GoodIn wsX1_judge (va_wsS RX1 51 yX1_at wsX1_at) := goodIn_app (goodIn_of _ (by decide +kernel)) ggX1_judge_X1_at
theorem dX1_judge_0 : decode cX1_judge 0 = .ok (.bipush (-9), 2) := by decide +kernel
theorem dX1_judge_2 : decode cX1_judge 2 = .ok (.istore_n 1, 1) := by decide +kernel
theorem dX1_judge_3 : decode cX1_judge 3 = .ok (.iconst 0, 1) := by decide +kernel
theorem dX1_judge_4 : decode cX1_judge 4 = .ok (.istore_n 2, 1) := by decide +kernel
theorem dX1_judge_5 : decode cX1_judge 5 = .ok (.iload_n 2, 1) := by decide +kernel
theorem dX1_judge_6 : decode cX1_judge 6 = .ok (.aload_n 0, 1) := by decide +kernel
theorem dX1_judge_7 : decode cX1_judge 7 = .ok (.getfield 177, 3) := by decide +kernel
theorem dX1_judge_10 : decode cX1_judge 10 = .ok (.if_icmp .ge 47, 3) := by decide +kernel
theorem dX1_judge_13 : decode cX1_judge 13 = .ok (.iload_n 1, 1) := by decide +kernel
theorem dX1_judge_14 : decode cX1_judge 14 = .ok (.bipush (-9), 2) := by decide +kernel
theorem dX1_judge_16 : decode cX1_judge 16 = .ok (.if_icmp .ne 41, 3) := by decide +kernel
theorem dX1_judge_19 : decode cX1_judge 19 = .ok (.aload_n 0, 1) := by decide +kernel
theorem dX1_judge_20 : decode cX1_judge 20 = .ok (.getfield 10, 3) := by decide +kernel
theorem dX1_judge_23 : decode cX1_judge 23 = .ok (.iload_n 2, 1) := by decide +kernel
theorem dX1_judge_24 : decode cX1_judge 24 = .ok (.invokevirtual 69, 3) := by decide +kernel
theorem dX1_judge_27 : decode cX1_judge 27 = .ok (.ifCond .eq 22, 3) := by decide +kernel
theorem dX1_judge_30 : decode cX1_judge 30 = .ok (.aload_n 0, 1) := by decide +kernel
theorem dX1_judge_31 : decode cX1_judge 31 = .ok (.getfield 10, 3) := by decide +kernel
theorem dX1_judge_34 : decode cX1_judge 34 = .ok (.iload_n 2, 1) := by decide +kernel
theorem dX1_judge_35 : decode cX1_judge 35 = .ok (.invokevirtual 117, 3) := by decide +kernel
theorem dX1_judge_38 : decode cX1_judge 38 = .ok (.aload_n 0, 1) := by decide +kernel
theorem dX1_judge_39 : decode cX1_judge 39 = .ok (.getfield 26, 3) := by decide +kernel
theorem dX1_judge_42 : decode cX1_judge 42 = .ok (.iload_n 2, 1) := by decide +kernel
theorem dX1_judge_43 : decode cX1_judge 43 = .ok (.invokestatic 51, 3) := by decide +kernel
theorem dX1_judge_46 : decode cX1_judge 46 = .ok (.if_icmp .eq 5, 3) := by decide +kernel
theorem dX1_judge_49 : decode cX1_judge 49 = .ok (.iload_n 2, 1) := by decide +kernel
theorem dX1_judge_50 : decode cX1_judge 50 = .ok (.istore_n 1, 1) := by decide +kernel
theorem dX1_judge_51 : decode cX1_judge 51 = .ok (.iinc 2 1, 3) := by decide +kernel
theorem dX1_judge_54 : decode cX1_judge 54 = .ok (.goto (-49), 3) := by decide +kernel
theorem dX1_judge_57 : decode cX1_judge 57 = .ok (.aload_n 0, 1) := by decide +kernel
theorem dX1_judge_58 : decode cX1_judge 58 = .ok (.iconst 0, 1) := by decide +kernel
theorem dX1_judge_59 : decode cX1_judge 59 = .ok (.putfield 177, 3) := by decide +kernel
theorem dX1_judge_62 : decode cX1_judge 62 = .ok (.iload_n 1, 1) := by decide +kernel
theorem dX1_judge_63 : decode cX1_judge 63 = .ok (.ireturn, 1) := by decide +kernel
set_option maxRecDepth 20000 in
theorem ggX1_whoTold_X0_hasCard : GoodIn wsX1_whoTold wsX0_hasCard := goodIn_r _ [6, 7, 96, 97, 98, 99, 100, 101, 102, 103, 104, 105, 106, 107, 108] (by decide +kernel) (by decide +kernel)
set_option maxRecDepth 20000 in
theorem gX1_whoTold_X0_hasCard_n69 : GoodIn wsX1_whoTold (wsX0_hasCard) := ggX1_whoTold_X0_hasCard
set_option maxRecDepth 20000 in
theorem ggX1_whoTold_X1_refuse : GoodIn wsX1_whoTold wsX1_refuse := goodIn_r _ [12, 13, 14, 15, 11, 16, 17, 18, 19, 87, 88, 89, 90, 91, 92, 93, 94, 95] (by decide +kernel) (by decide +kernel)
set_option maxRecDepth 20000 in
theorem gX1_whoTold_X1_refuse : GoodIn wsX1_whoTold (wsV RX1 32 RX1 yX1_refuse wsX1_refuse) := goodIn_app (goodIn_of _ (by decide +kernel)) ggX1_whoTold_X1_refuse
set_option maxRecDepth 20000 in
theorem ggX1_whoTold_X0_become : GoodIn wsX1_whoTold wsX0_become := goodIn_r _ [22, 7, 23, 24, 25, 26, 27, 28, 29, 30, 31, 32, 33, 34, 35, 11, 36, 37, 38, 39, 40, 41, 42, 43, 44, 96, 97, 98, 99, 100, 101, 102, 103, 104, 105, 106, 107, 108] (by decide +kernel) (by decide +kernel)
set_option maxRecDepth 20000 in
theorem gX1_whoTold_X0_become_n47 : GoodIn wsX1_whoTold (wsX0_become) := ggX1_whoTold_X0_become
set_option maxRecDepth 20000 in
theorem ggX1_whoTold_X1_put : GoodIn wsX1_whoTold wsX1_put := goodIn_r _ [19] (by decide +kernel) (by decide +kernel)
set_option maxRecDepth 20000 in
theorem gX1_whoTold_X1_put : GoodIn wsX1_whoTold (va_wsS RX1 40 yX1_put wsX1_put) := goodIn_app (goodIn_of _ (by decide +kernel)) ggX1_whoTold_X1_put
set_option maxRecDepth 20000 in
theorem ggX1_whoTold_X0_goOn : GoodIn wsX1_whoTold wsX0_goOn := goodIn_r _ [47, 24, 7, 30, 15, 11, 16, 48, 49, 50, 4, 51, 29, 52, 3, 5, 6, 53, 54, 55, 56, 27, 33, 34, 57, 38, 39, 40, 58, 59, 60, 61, 62, 63, 64, 23, 65, 66, 67, 68, 26, 28, 25, 69, 70, 71, 72, 32, 31, 73, 74, 75, 76, 18, 19, 77, 78, 79, 80, 96, 97, 98, 99, 100, 101, 102, 103, 104, 105, 106, 107, 108] (by decide +kernel) (by decide +kernel)
set_option maxRecDepth 20000 in
theorem gX1_whoTold_X0_goOn_n97 : GoodIn wsX1_whoTold (wsX0_goOn) := ggX1_whoTold_X0_goOn
set_option maxRecDepth 20000 in
theorem ggX1_whoTold_X1_rowTellsHolders : GoodIn wsX1_whoTold wsX1_rowTellsHolders := goodIn_r _ [84, 85, 2, 86, 49, 4, 50, 51, 29, 52, 3, 5, 6, 7, 15, 11, 16, 14, 87, 88, 89, 90, 91, 92, 93, 94, 95, 96, 97, 98, 99, 100, 101, 102, 103, 104, 105, 106, 107, 108] (by decide +kernel) (by decide +kernel)
set_option maxRecDepth 20000 in
theorem gX1_whoTold_X1_rowTellsHolders : GoodIn wsX1_whoTold (wsV RX1 207 RX1 yX1_rowTellsHolders wsX1_rowTellsHolders) := goodIn_app (goodIn_of _ (by decide +kernel)) ggX1_whoTold_X1_rowTellsHolders
theorem dX1_whoTold_0 : decode cX1_whoTold 0 = .ok (.aload_n 0, 1) := by decide +kernel
theorem dX1_whoTold_1 : decode cX1_whoTold 1 = .ok (.getfield 10, 3) := by decide +kernel
theorem dX1_whoTold_4 : decode cX1_whoTold 4 = .ok (.iload_n 1, 1) := by decide +kernel
theorem dX1_whoTold_5 : decode cX1_whoTold 5 = .ok (.invokevirtual 69, 3) := by decide +kernel
theorem dX1_whoTold_8 : decode cX1_whoTold 8 = .ok (.ifCond .ne 9, 3) := by decide +kernel
theorem dX1_whoTold_11 : decode cX1_whoTold 11 = .ok (.aload_n 0, 1) := by decide +kernel
theorem dX1_whoTold_12 : decode cX1_whoTold 12 = .ok (.iconst (-1), 1) := by decide +kernel
theorem dX1_whoTold_13 : decode cX1_whoTold 13 = .ok (.invokevirtual 32, 3) := by decide +kernel
theorem dX1_whoTold_16 : decode cX1_whoTold 16 = .ok (.ireturn, 1) := by decide +kernel
theorem dX1_whoTold_17 : decode cX1_whoTold 17 = .ok (.iload_n 2, 1) := by decide +kernel
theorem dX1_whoTold_18 : decode cX1_whoTold 18 = .ok (.ifCond .lt 8, 3) := by decide +kernel
theorem dX1_whoTold_21 : decode cX1_whoTold 21 = .ok (.iload_n 2, 1) := by decide +kernel
theorem dX1_whoTold_22 : decode cX1_whoTold 22 = .ok (.iconst 1, 1) := by decide +kernel
theorem dX1_whoTold_23 : decode cX1_whoTold 23 = .ok (.if_icmp .le 10, 3) := by decide +kernel
theorem dX1_whoTold_26 : decode cX1_whoTold 26 = .ok (.aload_n 0, 1) := by decide +kernel
theorem dX1_whoTold_27 : decode cX1_whoTold 27 = .ok (.bipush (-2), 2) := by decide +kernel
theorem dX1_whoTold_29 : decode cX1_whoTold 29 = .ok (.invokevirtual 32, 3) := by decide +kernel
theorem dX1_whoTold_32 : decode cX1_whoTold 32 = .ok (.ireturn, 1) := by decide +kernel
theorem dX1_whoTold_33 : decode cX1_whoTold 33 = .ok (.iconst 0, 1) := by decide +kernel
theorem dX1_whoTold_34 : decode cX1_whoTold 34 = .ok (.istore_n 3, 1) := by decide +kernel
theorem dX1_whoTold_35 : decode cX1_whoTold 35 = .ok (.iconst 0, 1) := by decide +kernel
theorem dX1_whoTold_36 : decode cX1_whoTold 36 = .ok (.istore 4, 2) := by decide +kernel
theorem dX1_whoTold_38 : decode cX1_whoTold 38 = .ok (.iload 4, 2) := by decide +kernel
theorem dX1_whoTold_40 : decode cX1_whoTold 40 = .ok (.bipush 6, 2) := by decide +kernel
theorem dX1_whoTold_42 : decode cX1_whoTold 42 = .ok (.if_icmp .ge 71, 3) := by decide +kernel
theorem dX1_whoTold_45 : decode cX1_whoTold 45 = .ok (.aload_n 0, 1) := by decide +kernel
theorem dX1_whoTold_46 : decode cX1_whoTold 46 = .ok (.getfield 16, 3) := by decide +kernel
theorem dX1_whoTold_49 : decode cX1_whoTold 49 = .ok (.aload_n 0, 1) := by decide +kernel
theorem dX1_whoTold_50 : decode cX1_whoTold 50 = .ok (.getfield 10, 3) := by decide +kernel
theorem dX1_whoTold_53 : decode cX1_whoTold 53 = .ok (.invokevirtual 47, 3) := by decide +kernel
theorem dX1_whoTold_56 : decode cX1_whoTold 56 = .ok (.iload_n 2, 1) := by decide +kernel
theorem dX1_whoTold_57 : decode cX1_whoTold 57 = .ok (.ifCond .ne 13, 3) := by decide +kernel
theorem dX1_whoTold_60 : decode cX1_whoTold 60 = .ok (.aload_n 0, 1) := by decide +kernel
theorem dX1_whoTold_61 : decode cX1_whoTold 61 = .ok (.getfield 16, 3) := by decide +kernel
theorem dX1_whoTold_64 : decode cX1_whoTold 64 = .ok (.getfield 111, 3) := by decide +kernel
theorem dX1_whoTold_67 : decode cX1_whoTold 67 = .ok (.goto 10, 3) := by decide +kernel
theorem dX1_whoTold_70 : decode cX1_whoTold 70 = .ok (.aload_n 0, 1) := by decide +kernel
theorem dX1_whoTold_71 : decode cX1_whoTold 71 = .ok (.getfield 16, 3) := by decide +kernel
theorem dX1_whoTold_74 : decode cX1_whoTold 74 = .ok (.getfield 105, 3) := by decide +kernel
theorem dX1_whoTold_77 : decode cX1_whoTold 77 = .ok (.iload_n 1, 1) := by decide +kernel
theorem dX1_whoTold_78 : decode cX1_whoTold 78 = .ok (.iload 4, 2) := by decide +kernel
theorem dX1_whoTold_80 : decode cX1_whoTold 80 = .ok (.invokestatic 40, 3) := by decide +kernel
theorem dX1_whoTold_83 : decode cX1_whoTold 83 = .ok (.aload_n 0, 1) := by decide +kernel
theorem dX1_whoTold_84 : decode cX1_whoTold 84 = .ok (.getfield 16, 3) := by decide +kernel
theorem dX1_whoTold_87 : decode cX1_whoTold 87 = .ok (.iconst 1, 1) := by decide +kernel
theorem dX1_whoTold_88 : decode cX1_whoTold 88 = .ok (.iconst 1, 1) := by decide +kernel
theorem dX1_whoTold_89 : decode cX1_whoTold 89 = .ok (.invokevirtual 97, 3) := by decide +kernel
theorem dX1_whoTold_92 : decode cX1_whoTold 92 = .ok (.pop, 1) := by decide +kernel
theorem dX1_whoTold_93 : decode cX1_whoTold 93 = .ok (.aload_n 0, 1) := by decide +kernel
theorem dX1_whoTold_94 : decode cX1_whoTold 94 = .ok (.invokevirtual 207, 3) := by decide +kernel
theorem dX1_whoTold_97 : decode cX1_whoTold 97 = .ok (.ifCond .eq 10, 3) := by decide +kernel
theorem dX1_whoTold_100 : decode cX1_whoTold 100 = .ok (.iload_n 3, 1) := by decide +kernel
theorem dX1_whoTold_101 : decode cX1_whoTold 101 = .ok (.iconst 1, 1) := by decide +kernel
theorem dX1_whoTold_102 : decode cX1_whoTold 102 = .ok (.iload 4, 2) := by decide +kernel
theorem dX1_whoTold_104 : decode cX1_whoTold 104 = .ok (.ishl, 1) := by decide +kernel
theorem dX1_whoTold_105 : decode cX1_whoTold 105 = .ok (.ior, 1) := by decide +kernel
theorem dX1_whoTold_106 : decode cX1_whoTold 106 = .ok (.istore_n 3, 1) := by decide +kernel
theorem dX1_whoTold_107 : decode cX1_whoTold 107 = .ok (.iinc 4 1, 3) := by decide +kernel
theorem dX1_whoTold_110 : decode cX1_whoTold 110 = .ok (.goto (-72), 3) := by decide +kernel
theorem dX1_whoTold_113 : decode cX1_whoTold 113 = .ok (.iload_n 3, 1) := by decide +kernel
theorem dX1_whoTold_114 : decode cX1_whoTold 114 = .ok (.ireturn, 1) := by decide +kernel
set_option maxRecDepth 20000 in
theorem ggX1_image_X0_become : GoodIn wsX1_image wsX0_become := goodIn_r _ [7, 8, 9, 10, 11, 12, 13, 14, 15, 16, 17, 18, 19, 20, 21, 22, 23, 24, 25, 26, 27, 28, 29, 30, 31, 41, 42, 43, 44, 45, 46, 47, 48, 49, 50, 51, 52, 53] (by decide +kernel) (by decide +kernel)
set_option maxRecDepth 20000 in
theorem gX1_image_X0_become_n47 : GoodIn wsX1_image (wsX0_become) := ggX1_image_X0_become
theorem dX1_image_0 : decode cX1_image 0 = .ok (.aload_n 0, 1) := by decide +kernel
theorem dX1_image_1 : decode cX1_image 1 = .ok (.getfield 19, 3) := by decide +kernel
theorem dX1_image_4 : decode cX1_image 4 = .ok (.aload_n 0, 1) := by decide +kernel
theorem dX1_image_5 : decode cX1_image 5 = .ok (.getfield 10, 3) := by decide +kernel
theorem dX1_image_8 : decode cX1_image 8 = .ok (.invokevirtual 47, 3) := by decide +kernel
theorem dX1_image_11 : decode cX1_image 11 = .ok (.aload_n 0, 1) := by decide +kernel
theorem dX1_image_12 : decode cX1_image 12 = .ok (.iconst 1, 1) := by decide +kernel
theorem dX1_image_13 : decode cX1_image 13 = .ok (.putfield 211, 3) := by decide +kernel
theorem dX1_image_16 : decode cX1_image 16 = .ok (.aload_n 0, 1) := by decide +kernel
theorem dX1_image_17 : decode cX1_image 17 = .ok (.getfield 10, 3) := by decide +kernel
theorem dX1_image_20 : decode cX1_image 20 = .ok (.getfield 168, 3) := by decide +kernel
theorem dX1_image_23 : decode cX1_image 23 = .ok (.ireturn, 1) := by decide +kernel
set_option maxRecDepth 20000 in
theorem ggX1_on_X1_refuse : GoodIn wsX1_on wsX1_refuse := goodIn_r _ [8, 9, 10, 11, 7, 12, 13, 14, 15, 43, 44, 45, 46, 47, 48, 49, 50, 51] (by decide +kernel) (by decide +kernel)
set_option maxRecDepth 20000 in
theorem gX1_on_X1_refuse : GoodIn wsX1_on (wsV RX1 32 RX1 yX1_refuse wsX1_refuse) := goodIn_app (goodIn_of _ (by decide +kernel)) ggX1_on_X1_refuse
set_option maxRecDepth 20000 in
theorem ggX1_on_X0_become : GoodIn wsX1_on wsX0_become := goodIn_r _ [19, 20, 21, 22, 23, 24, 25, 26, 27, 28, 29, 30, 31, 32, 33, 7, 34, 35, 36, 37, 38, 39, 40, 41, 42, 52, 53, 54, 55, 56, 57, 58, 59, 60, 61, 62, 63, 64] (by decide +kernel) (by decide +kernel)
set_option maxRecDepth 20000 in
theorem gX1_on_X0_become_n47 : GoodIn wsX1_on (wsX0_become) := ggX1_on_X0_become
theorem dX1_on_0 : decode cX1_on 0 = .ok (.aload_n 0, 1) := by decide +kernel
theorem dX1_on_1 : decode cX1_on 1 = .ok (.getfield 211, 3) := by decide +kernel
theorem dX1_on_4 : decode cX1_on 4 = .ok (.ifCond .ne 10, 3) := by decide +kernel
theorem dX1_on_7 : decode cX1_on 7 = .ok (.aload_n 0, 1) := by decide +kernel
theorem dX1_on_8 : decode cX1_on 8 = .ok (.bipush (-3), 2) := by decide +kernel
theorem dX1_on_10 : decode cX1_on 10 = .ok (.invokevirtual 32, 3) := by decide +kernel
theorem dX1_on_13 : decode cX1_on 13 = .ok (.ireturn, 1) := by decide +kernel
theorem dX1_on_14 : decode cX1_on 14 = .ok (.aload_n 0, 1) := by decide +kernel
theorem dX1_on_15 : decode cX1_on 15 = .ok (.getfield 10, 3) := by decide +kernel
theorem dX1_on_18 : decode cX1_on 18 = .ok (.aload_n 0, 1) := by decide +kernel
theorem dX1_on_19 : decode cX1_on 19 = .ok (.getfield 19, 3) := by decide +kernel
theorem dX1_on_22 : decode cX1_on 22 = .ok (.invokevirtual 47, 3) := by decide +kernel
theorem dX1_on_25 : decode cX1_on 25 = .ok (.aload_n 0, 1) := by decide +kernel
theorem dX1_on_26 : decode cX1_on 26 = .ok (.getfield 10, 3) := by decide +kernel
theorem dX1_on_29 : decode cX1_on 29 = .ok (.getfield 168, 3) := by decide +kernel
theorem dX1_on_32 : decode cX1_on 32 = .ok (.ireturn, 1) := by decide +kernel
set_option maxRecDepth 20000 in
theorem ggX1_refuse_X1_at : GoodIn wsX1_refuse wsX1_at := goodIn_r _ [5] (by decide +kernel) (by decide +kernel)
set_option maxRecDepth 20000 in
theorem gX1_refuse_X1_at : GoodIn wsX1_refuse (va_wsS RX1 51 yX1_at wsX1_at) := goodIn_app (goodIn_of _ (by decide +kernel)) ggX1_refuse_X1_at
set_option maxRecDepth 20000 in
theorem ggX1_refuse_X1_put : GoodIn wsX1_refuse wsX1_put := goodIn_r _ [8] (by decide +kernel) (by decide +kernel)
set_option maxRecDepth 20000 in
theorem gX1_refuse_X1_put : GoodIn wsX1_refuse (va_wsS RX1 40 yX1_put wsX1_put) := goodIn_app (goodIn_of _ (by decide +kernel)) ggX1_refuse_X1_put
theorem dX1_refuse_0 : decode cX1_refuse 0 = .ok (.aload_n 0, 1) := by decide +kernel
theorem dX1_refuse_1 : decode cX1_refuse 1 = .ok (.getfield 29, 3) := by decide +kernel
theorem dX1_refuse_4 : decode cX1_refuse 4 = .ok (.iload_n 1, 1) := by decide +kernel
theorem dX1_refuse_5 : decode cX1_refuse 5 = .ok (.ineg, 1) := by decide +kernel
theorem dX1_refuse_6 : decode cX1_refuse 6 = .ok (.aload_n 0, 1) := by decide +kernel
theorem dX1_refuse_7 : decode cX1_refuse 7 = .ok (.getfield 29, 3) := by decide +kernel
theorem dX1_refuse_10 : decode cX1_refuse 10 = .ok (.iload_n 1, 1) := by decide +kernel
theorem dX1_refuse_11 : decode cX1_refuse 11 = .ok (.ineg, 1) := by decide +kernel
theorem dX1_refuse_12 : decode cX1_refuse 12 = .ok (.invokestatic 51, 3) := by decide +kernel
theorem dX1_refuse_15 : decode cX1_refuse 15 = .ok (.iconst 1, 1) := by decide +kernel
theorem dX1_refuse_16 : decode cX1_refuse 16 = .ok (.iadd, 1) := by decide +kernel
theorem dX1_refuse_17 : decode cX1_refuse 17 = .ok (.invokestatic 40, 3) := by decide +kernel
theorem dX1_refuse_20 : decode cX1_refuse 20 = .ok (.iload_n 1, 1) := by decide +kernel
theorem dX1_refuse_21 : decode cX1_refuse 21 = .ok (.ireturn, 1) := by decide +kernel
theorem dX1_beyond_0 : decode cX1_beyond 0 = .ok (.iload_n 0, 1) := by decide +kernel
theorem dX1_beyond_1 : decode cX1_beyond 1 = .ok (.iload_n 1, 1) := by decide +kernel
theorem dX1_beyond_2 : decode cX1_beyond 2 = .ok (.if_icmp .ge 6, 3) := by decide +kernel
theorem dX1_beyond_5 : decode cX1_beyond 5 = .ok (.bipush (-4), 2) := by decide +kernel
theorem dX1_beyond_7 : decode cX1_beyond 7 = .ok (.ireturn, 1) := by decide +kernel
theorem dX1_beyond_8 : decode cX1_beyond 8 = .ok (.iload_n 0, 1) := by decide +kernel
theorem dX1_beyond_9 : decode cX1_beyond 9 = .ok (.iload_n 2, 1) := by decide +kernel
theorem dX1_beyond_10 : decode cX1_beyond 10 = .ok (.if_icmp .le 8, 3) := by decide +kernel
theorem dX1_beyond_13 : decode cX1_beyond 13 = .ok (.bipush (-6), 2) := by decide +kernel
theorem dX1_beyond_15 : decode cX1_beyond 15 = .ok (.goto 4, 3) := by decide +kernel
theorem dX1_beyond_18 : decode cX1_beyond 18 = .ok (.iconst 0, 1) := by decide +kernel
theorem dX1_beyond_19 : decode cX1_beyond 19 = .ok (.ireturn, 1) := by decide +kernel
set_option maxRecDepth 20000 in
theorem ggX1_refuseFar_X1_refuse : GoodIn wsX1_refuseFar wsX1_refuse := goodIn_r _ [6, 7, 8, 9, 5, 10, 11, 12, 13, 14, 15, 16, 17, 18, 19, 20, 21, 22] (by decide +kernel) (by decide +kernel)
set_option maxRecDepth 20000 in
theorem gX1_refuseFar_X1_refuse : GoodIn wsX1_refuseFar (wsV RX1 32 RX1 yX1_refuse wsX1_refuse) := goodIn_app (goodIn_of _ (by decide +kernel)) ggX1_refuseFar_X1_refuse
theorem dX1_refuseFar_0 : decode cX1_refuseFar 0 = .ok (.ldc2_w 215, 3) := by decide +kernel
theorem dX1_refuseFar_3 : decode cX1_refuseFar 3 = .ok (.aload_n 0, 1) := by decide +kernel
theorem dX1_refuseFar_4 : decode cX1_refuseFar 4 = .ok (.iload_n 1, 1) := by decide +kernel
theorem dX1_refuseFar_5 : decode cX1_refuseFar 5 = .ok (.invokevirtual 32, 3) := by decide +kernel
theorem dX1_refuseFar_8 : decode cX1_refuseFar 8 = .ok (.i2l, 1) := by decide +kernel
theorem dX1_refuseFar_9 : decode cX1_refuseFar 9 = .ok (.lsub, 1) := by decide +kernel
theorem dX1_refuseFar_10 : decode cX1_refuseFar 10 = .ok (.lreturn, 1) := by decide +kernel
set_option maxRecDepth 20000 in
theorem ggX1_wrongLetter_X1_at : GoodIn wsX1_wrongLetter wsX1_at := goodIn_r _ [5] (by decide +kernel) (by decide +kernel)
set_option maxRecDepth 20000 in
theorem gX1_wrongLetter_X1_at : GoodIn wsX1_wrongLetter (va_wsS RX1 51 yX1_at wsX1_at) := goodIn_app (goodIn_of _ (by decide +kernel)) ggX1_wrongLetter_X1_at
set_option maxRecDepth 20000 in
theorem ggX1_wrongLetter_J0_length_8abf5 : GoodIn wsX1_wrongLetter wsJ0_length_8abf5 := goodIn_r _ [10, 11, 12, 13, 14, 9, 15, 16, 17] (by decide +kernel) (by decide +kernel)
set_option maxRecDepth 20000 in
theorem gX1_wrongLetter_J0_length_8abf5 : GoodIn wsX1_wrongLetter (wsV RX1 219 RJ0 yJ0_length_8abf5 wsJ0_length_8abf5) := goodIn_app (goodIn_of _ (by decide +kernel)) ggX1_wrongLetter_J0_length_8abf5
set_option maxRecDepth 20000 in
theorem ggX1_wrongLetter_X1_shapeBehind : GoodIn wsX1_wrongLetter wsX1_shapeBehind := goodIn_r _ [20] (by decide +kernel) (by decide +kernel)
set_option maxRecDepth 20000 in
theorem gX1_wrongLetter_X1_shapeBehind : GoodIn wsX1_wrongLetter (va_wsS RX1 224 yX1_shapeBehind wsX1_shapeBehind) := goodIn_app (goodIn_of _ (by decide +kernel)) ggX1_wrongLetter_X1_shapeBehind
set_option maxRecDepth 20000 in
theorem ggX1_wrongLetter_J0_isEmpty_aae02 : GoodIn wsX1_wrongLetter wsJ0_isEmpty_aae02 := goodIn_r _ [24, 11] (by decide +kernel) (by decide +kernel)
set_option maxRecDepth 20000 in
theorem gX1_wrongLetter_J0_isEmpty_aae02 : GoodIn wsX1_wrongLetter (wsV RX1 228 RJ0 yJ0_isEmpty_aae02 wsJ0_isEmpty_aae02) := goodIn_app (goodIn_of _ (by decide +kernel)) ggX1_wrongLetter_J0_isEmpty_aae02
set_option maxRecDepth 20000 in
theorem ggX1_wrongLetter_J0_charAt_5068e : GoodIn wsX1_wrongLetter wsJ0_charAt_5068e := goodIn_r _ [28, 11, 29, 30, 31, 9, 32, 16, 17, 33, 34, 35, 36, 37, 38, 39, 40, 41, 42, 43, 44, 45, 46, 47, 48, 49, 50, 51, 52, 53, 54, 55, 56, 57, 58, 59, 60, 61] (by decide +kernel) (by decide +kernel)
set_option maxRecDepth 20000 in
theorem gX1_wrongLetter_J0_charAt_5068e : GoodIn wsX1_wrongLetter (wsV RX1 231 RJ0 yJ0_charAt_5068e wsJ0_charAt_5068e) := goodIn_app (goodIn_of _ (by decide +kernel)) ggX1_wrongLetter_J0_charAt_5068e
set_option maxRecDepth 20000 in
theorem ggX1_wrongLetter_X1_fits : GoodIn wsX1_wrongLetter wsX1_fits := goodIn_r _ [64, 65, 66, 67, 9, 68, 69, 70, 71, 72, 11, 29, 30, 31, 32, 16, 17, 73, 7, 8, 10, 12, 13, 14, 15, 74, 75, 35, 76, 77, 78, 79, 80, 81, 82, 83, 84, 85, 86, 87, 88, 89, 90, 91, 47, 92, 93, 94, 95, 96, 97, 98, 99, 100, 101, 52, 53, 54, 102, 103, 104, 40, 105, 106, 43, 107, 108, 109, 110, 56, 57, 58, 59, 60, 61, 111, 112, 113, 114, 115, 116, 117, 118, 119, 120, 121, 122, 123, 124, 125] (by decide +kernel) (by decide +kernel)
set_option maxRecDepth 20000 in
theorem gX1_wrongLetter_X1_fits : GoodIn wsX1_wrongLetter (va_wsS RX1 235 yX1_fits wsX1_fits) := goodIn_app (goodIn_of _ (by decide +kernel)) ggX1_wrongLetter_X1_fits
theorem dX1_wrongLetter_0 : decode cX1_wrongLetter 0 = .ok (.ldc 217, 2) := by decide +kernel
theorem dX1_wrongLetter_2 : decode cX1_wrongLetter 2 = .ok (.astore_n 2, 1) := by decide +kernel
theorem dX1_wrongLetter_3 : decode cX1_wrongLetter 3 = .ok (.iconst 0, 1) := by decide +kernel
theorem dX1_wrongLetter_4 : decode cX1_wrongLetter 4 = .ok (.istore_n 3, 1) := by decide +kernel
theorem dX1_wrongLetter_5 : decode cX1_wrongLetter 5 = .ok (.iconst 0, 1) := by decide +kernel
theorem dX1_wrongLetter_6 : decode cX1_wrongLetter 6 = .ok (.istore 4, 2) := by decide +kernel
theorem dX1_wrongLetter_8 : decode cX1_wrongLetter 8 = .ok (.iload 4, 2) := by decide +kernel
theorem dX1_wrongLetter_10 : decode cX1_wrongLetter 10 = .ok (.iload_n 1, 1) := by decide +kernel
theorem dX1_wrongLetter_11 : decode cX1_wrongLetter 11 = .ok (.if_icmp .ge 65, 3) := by decide +kernel
theorem dX1_wrongLetter_14 : decode cX1_wrongLetter 14 = .ok (.aload_n 0, 1) := by decide +kernel
theorem dX1_wrongLetter_15 : decode cX1_wrongLetter 15 = .ok (.getfield 22, 3) := by decide +kernel
theorem dX1_wrongLetter_18 : decode cX1_wrongLetter 18 = .ok (.iload 4, 2) := by decide +kernel
theorem dX1_wrongLetter_20 : decode cX1_wrongLetter 20 = .ok (.invokestatic 51, 3) := by decide +kernel
theorem dX1_wrongLetter_23 : decode cX1_wrongLetter 23 = .ok (.istore 5, 2) := by decide +kernel
theorem dX1_wrongLetter_25 : decode cX1_wrongLetter 25 = .ok (.iload_n 3, 1) := by decide +kernel
theorem dX1_wrongLetter_26 : decode cX1_wrongLetter 26 = .ok (.aload_n 2, 1) := by decide +kernel
theorem dX1_wrongLetter_27 : decode cX1_wrongLetter 27 = .ok (.invokevirtual 219, 3) := by decide +kernel
theorem dX1_wrongLetter_30 : decode cX1_wrongLetter 30 = .ok (.if_icmp .lt 21, 3) := by decide +kernel
theorem dX1_wrongLetter_33 : decode cX1_wrongLetter 33 = .ok (.iload 5, 2) := by decide +kernel
theorem dX1_wrongLetter_35 : decode cX1_wrongLetter 35 = .ok (.invokestatic 224, 3) := by decide +kernel
theorem dX1_wrongLetter_38 : decode cX1_wrongLetter 38 = .ok (.astore_n 2, 1) := by decide +kernel
theorem dX1_wrongLetter_39 : decode cX1_wrongLetter 39 = .ok (.iconst 0, 1) := by decide +kernel
theorem dX1_wrongLetter_40 : decode cX1_wrongLetter 40 = .ok (.istore_n 3, 1) := by decide +kernel
theorem dX1_wrongLetter_41 : decode cX1_wrongLetter 41 = .ok (.aload_n 2, 1) := by decide +kernel
theorem dX1_wrongLetter_42 : decode cX1_wrongLetter 42 = .ok (.invokevirtual 228, 3) := by decide +kernel
theorem dX1_wrongLetter_45 : decode cX1_wrongLetter 45 = .ok (.ifCond .eq 25, 3) := by decide +kernel
theorem dX1_wrongLetter_48 : decode cX1_wrongLetter 48 = .ok (.iload 4, 2) := by decide +kernel
theorem dX1_wrongLetter_50 : decode cX1_wrongLetter 50 = .ok (.ireturn, 1) := by decide +kernel
theorem dX1_wrongLetter_51 : decode cX1_wrongLetter 51 = .ok (.iload 5, 2) := by decide +kernel
theorem dX1_wrongLetter_53 : decode cX1_wrongLetter 53 = .ok (.aload_n 2, 1) := by decide +kernel
theorem dX1_wrongLetter_54 : decode cX1_wrongLetter 54 = .ok (.iload_n 3, 1) := by decide +kernel
theorem dX1_wrongLetter_55 : decode cX1_wrongLetter 55 = .ok (.invokevirtual 231, 3) := by decide +kernel
theorem dX1_wrongLetter_58 : decode cX1_wrongLetter 58 = .ok (.invokestatic 235, 3) := by decide +kernel
theorem dX1_wrongLetter_61 : decode cX1_wrongLetter 61 = .ok (.ifCond .ne 6, 3) := by decide +kernel
theorem dX1_wrongLetter_64 : decode cX1_wrongLetter 64 = .ok (.iload 4, 2) := by decide +kernel
theorem dX1_wrongLetter_66 : decode cX1_wrongLetter 66 = .ok (.ireturn, 1) := by decide +kernel
theorem dX1_wrongLetter_67 : decode cX1_wrongLetter 67 = .ok (.iinc 3 1, 3) := by decide +kernel
theorem dX1_wrongLetter_70 : decode cX1_wrongLetter 70 = .ok (.iinc 4 1, 3) := by decide +kernel
theorem dX1_wrongLetter_73 : decode cX1_wrongLetter 73 = .ok (.goto (-65), 3) := by decide +kernel
theorem dX1_wrongLetter_76 : decode cX1_wrongLetter 76 = .ok (.iload_n 1, 1) := by decide +kernel
theorem dX1_wrongLetter_77 : decode cX1_wrongLetter 77 = .ok (.ifCond .eq 11, 3) := by decide +kernel
theorem dX1_wrongLetter_80 : decode cX1_wrongLetter 80 = .ok (.iload_n 3, 1) := by decide +kernel
theorem dX1_wrongLetter_81 : decode cX1_wrongLetter 81 = .ok (.aload_n 2, 1) := by decide +kernel
theorem dX1_wrongLetter_82 : decode cX1_wrongLetter 82 = .ok (.invokevirtual 219, 3) := by decide +kernel
theorem dX1_wrongLetter_85 : decode cX1_wrongLetter 85 = .ok (.if_icmp .ge 7, 3) := by decide +kernel
theorem dX1_wrongLetter_88 : decode cX1_wrongLetter 88 = .ok (.iload_n 1, 1) := by decide +kernel
theorem dX1_wrongLetter_89 : decode cX1_wrongLetter 89 = .ok (.goto 4, 3) := by decide +kernel
theorem dX1_wrongLetter_92 : decode cX1_wrongLetter 92 = .ok (.iconst (-1), 1) := by decide +kernel
theorem dX1_wrongLetter_93 : decode cX1_wrongLetter 93 = .ok (.ireturn, 1) := by decide +kernel
theorem dX1_shapeBehind_0 : decode cX1_shapeBehind 0 = .ok (.iload_n 0, 1) := by decide +kernel
theorem dX1_shapeBehind_1 : decode cX1_shapeBehind 1 = .ok (.tableswitch 122 98 120 #[110, 107, 122, 122, 122, 116, 122, 122, 122, 122, 122, 116, 122, 122, 113, 122, 119, 122, 122, 122, 122, 122, 116], 107) := by decide +kernel
theorem dX1_shapeBehind_108 : decode cX1_shapeBehind 108 = .ok (.ldc 239, 2) := by decide +kernel
theorem dX1_shapeBehind_110 : decode cX1_shapeBehind 110 = .ok (.areturn, 1) := by decide +kernel
theorem dX1_shapeBehind_111 : decode cX1_shapeBehind 111 = .ok (.ldc 241, 2) := by decide +kernel
theorem dX1_shapeBehind_113 : decode cX1_shapeBehind 113 = .ok (.areturn, 1) := by decide +kernel
theorem dX1_shapeBehind_114 : decode cX1_shapeBehind 114 = .ok (.ldc 243, 2) := by decide +kernel
theorem dX1_shapeBehind_116 : decode cX1_shapeBehind 116 = .ok (.areturn, 1) := by decide +kernel
theorem dX1_shapeBehind_117 : decode cX1_shapeBehind 117 = .ok (.ldc 245, 2) := by decide +kernel
theorem dX1_shapeBehind_119 : decode cX1_shapeBehind 119 = .ok (.areturn, 1) := by decide +kernel
theorem dX1_shapeBehind_120 : decode cX1_shapeBehind 120 = .ok (.ldc 247, 2) := by decide +kernel
theorem dX1_shapeBehind_122 : decode cX1_shapeBehind 122 = .ok (.areturn, 1) := by decide +kernel
theorem dX1_shapeBehind_123 : decode cX1_shapeBehind 123 = .ok (.ldc 217, 2) := by decide +kernel
theorem dX1_shapeBehind_125 : decode cX1_shapeBehind 125 = .ok (.areturn, 1) := by decide +kernel
set_option maxRecDepth 20000 in
theorem ggX1_fits_J0_indexOf_0f7a4 : GoodIn wsX1_fits wsJ0_indexOf_0f7a4 := goodIn_r _ [5, 6, 7, 8, 4, 9, 10, 11, 12, 13, 14, 15, 16, 17, 18, 19, 20, 21, 22, 23, 24, 25, 26, 27, 28, 29, 30, 31, 32, 33, 34, 35, 36, 37, 38, 39, 40, 41, 42, 43, 44, 45, 46, 47, 48, 49, 50, 51, 52, 53, 54, 55, 56, 57, 58, 59, 60, 61, 62, 63, 64, 65, 66, 67, 68, 69, 70, 71, 72, 73, 74, 75, 76, 77, 78, 79, 80, 81, 82, 83, 84, 85, 86, 87, 88, 89] (by decide +kernel) (by decide +kernel)
set_option maxRecDepth 20000 in
theorem gX1_fits_J0_indexOf_0f7a4 : GoodIn wsX1_fits (wsV RX1 251 RJ0 yJ0_indexOf_0f7a4 wsJ0_indexOf_0f7a4) := goodIn_app (goodIn_of _ (by decide +kernel)) ggX1_fits_J0_indexOf_0f7a4
theorem dX1_fits_0 : decode cX1_fits 0 = .ok (.iload_n 1, 1) := by decide +kernel
theorem dX1_fits_1 : decode cX1_fits 1 = .ok (.lookupswitch 85 #[(48, 67), (98, 51), (99, 35)], 35) := by decide +kernel
theorem dX1_fits_36 : decode cX1_fits 36 = .ok (.ldc 249, 2) := by decide +kernel
theorem dX1_fits_38 : decode cX1_fits 38 = .ok (.iload_n 0, 1) := by decide +kernel
theorem dX1_fits_39 : decode cX1_fits 39 = .ok (.i2c, 1) := by decide +kernel
theorem dX1_fits_40 : decode cX1_fits 40 = .ok (.invokevirtual 251, 3) := by decide +kernel
theorem dX1_fits_43 : decode cX1_fits 43 = .ok (.ifCond .lt 7, 3) := by decide +kernel
theorem dX1_fits_46 : decode cX1_fits 46 = .ok (.iconst 1, 1) := by decide +kernel
theorem dX1_fits_47 : decode cX1_fits 47 = .ok (.goto 4, 3) := by decide +kernel
theorem dX1_fits_50 : decode cX1_fits 50 = .ok (.iconst 0, 1) := by decide +kernel
theorem dX1_fits_51 : decode cX1_fits 51 = .ok (.ireturn, 1) := by decide +kernel
theorem dX1_fits_52 : decode cX1_fits 52 = .ok (.ldc 254, 2) := by decide +kernel
theorem dX1_fits_54 : decode cX1_fits 54 = .ok (.iload_n 0, 1) := by decide +kernel
theorem dX1_fits_55 : decode cX1_fits 55 = .ok (.i2c, 1) := by decide +kernel
theorem dX1_fits_56 : decode cX1_fits 56 = .ok (.invokevirtual 251, 3) := by decide +kernel
theorem dX1_fits_59 : decode cX1_fits 59 = .ok (.ifCond .lt 7, 3) := by decide +kernel
theorem dX1_fits_62 : decode cX1_fits 62 = .ok (.iconst 1, 1) := by decide +kernel
theorem dX1_fits_63 : decode cX1_fits 63 = .ok (.goto 4, 3) := by decide +kernel
theorem dX1_fits_66 : decode cX1_fits 66 = .ok (.iconst 0, 1) := by decide +kernel
theorem dX1_fits_67 : decode cX1_fits 67 = .ok (.ireturn, 1) := by decide +kernel
theorem dX1_fits_68 : decode cX1_fits 68 = .ok (.iload_n 0, 1) := by decide +kernel
theorem dX1_fits_69 : decode cX1_fits 69 = .ok (.bipush 48, 2) := by decide +kernel
theorem dX1_fits_71 : decode cX1_fits 71 = .ok (.if_icmp .lt 13, 3) := by decide +kernel
theorem dX1_fits_74 : decode cX1_fits 74 = .ok (.iload_n 0, 1) := by decide +kernel
theorem dX1_fits_75 : decode cX1_fits 75 = .ok (.bipush 57, 2) := by decide +kernel
theorem dX1_fits_77 : decode cX1_fits 77 = .ok (.if_icmp .gt 7, 3) := by decide +kernel
theorem dX1_fits_80 : decode cX1_fits 80 = .ok (.iconst 1, 1) := by decide +kernel
theorem dX1_fits_81 : decode cX1_fits 81 = .ok (.goto 4, 3) := by decide +kernel
theorem dX1_fits_84 : decode cX1_fits 84 = .ok (.iconst 0, 1) := by decide +kernel
theorem dX1_fits_85 : decode cX1_fits 85 = .ok (.ireturn, 1) := by decide +kernel
theorem dX1_fits_86 : decode cX1_fits 86 = .ok (.iload_n 0, 1) := by decide +kernel
theorem dX1_fits_87 : decode cX1_fits 87 = .ok (.iload_n 1, 1) := by decide +kernel
theorem dX1_fits_88 : decode cX1_fits 88 = .ok (.if_icmp .ne 7, 3) := by decide +kernel
theorem dX1_fits_91 : decode cX1_fits 91 = .ok (.iconst 1, 1) := by decide +kernel
theorem dX1_fits_92 : decode cX1_fits 92 = .ok (.goto 4, 3) := by decide +kernel
theorem dX1_fits_95 : decode cX1_fits 95 = .ok (.iconst 0, 1) := by decide +kernel
theorem dX1_fits_96 : decode cX1_fits 96 = .ok (.ireturn, 1) := by decide +kernel
set_option maxRecDepth 20000 in
theorem ggX1_comes_X1_number : GoodIn wsX1_comes wsX1_number := goodIn_r _ [7, 1, 8, 9, 6, 10, 178, 179, 180, 181, 182, 183, 184, 185, 186] (by decide +kernel) (by decide +kernel)
set_option maxRecDepth 20000 in
theorem gX1_comes_X1_number : GoodIn wsX1_comes (wsV RX1 256 RX1 yX1_number wsX1_number) := goodIn_app (goodIn_of _ (by decide +kernel)) ggX1_comes_X1_number
set_option maxRecDepth 20000 in
theorem ggX1_comes_X1_at : GoodIn wsX1_comes wsX1_at := goodIn_r _ [10] (by decide +kernel) (by decide +kernel)
set_option maxRecDepth 20000 in
theorem gX1_comes_X1_at : GoodIn wsX1_comes (va_wsS RX1 51 yX1_at wsX1_at) := goodIn_app (goodIn_of _ (by decide +kernel)) ggX1_comes_X1_at
set_option maxRecDepth 20000 in
theorem ggX1_comes_J0_indexOf_0f7a4 : GoodIn wsX1_comes wsJ0_indexOf_0f7a4 := goodIn_r _ [15, 16, 17, 18, 14, 19, 20, 21, 22, 23, 24, 25, 26, 27, 28, 29, 30, 31, 32, 33, 34, 35, 36, 37, 38, 39, 40, 41, 42, 43, 44, 45, 46, 47, 48, 49, 50, 51, 52, 53, 54, 55, 56, 57, 58, 59, 60, 61, 62, 63, 64, 65, 66, 67, 68, 69, 70, 71, 72, 73, 74, 75, 76, 77, 78, 79, 80, 81, 82, 83, 84, 85, 86, 87, 88, 89, 90, 91, 92, 93, 94, 95, 96, 97, 98, 99] (by decide +kernel) (by decide +kernel)
set_option maxRecDepth 20000 in
theorem gX1_comes_J0_indexOf_0f7a4 : GoodIn wsX1_comes (wsV RX1 251 RJ0 yJ0_indexOf_0f7a4 wsJ0_indexOf_0f7a4) := goodIn_app (goodIn_of _ (by decide +kernel)) ggX1_comes_J0_indexOf_0f7a4
set_option maxRecDepth 20000 in
theorem ggX1_comes_X0_addCard : GoodIn wsX1_comes wsX0_addCard := goodIn_r _ [103, 104, 105, 106, 107, 108, 109, 110, 111, 6, 112, 187, 188, 189, 190, 191, 192, 193, 194, 195, 196, 197, 198, 199] (by decide +kernel) (by decide +kernel)
set_option maxRecDepth 20000 in
theorem gX1_comes_X0_addCard_n259 : GoodIn wsX1_comes (wsX0_addCard) := ggX1_comes_X0_addCard
set_option maxRecDepth 20000 in
theorem ggX1_comes_X0_addBidder : GoodIn wsX1_comes wsX0_addBidder := goodIn_r _ [115, 116, 117, 118, 119, 120, 111, 6, 112, 187, 188, 189, 190, 191, 192, 193, 194, 195, 196, 197, 198, 199] (by decide +kernel) (by decide +kernel)
set_option maxRecDepth 20000 in
theorem gX1_comes_X0_addBidder_n263 : GoodIn wsX1_comes (wsX0_addBidder) := ggX1_comes_X0_addBidder
set_option maxRecDepth 20000 in
theorem ggX1_comes_X0_fillPurse : GoodIn wsX1_comes wsX0_fillPurse := goodIn_r _ [123, 119, 124, 125, 126, 101, 127, 116, 111, 6, 112, 187, 188, 189, 190, 191, 192, 193, 194, 195, 196, 197, 198, 199] (by decide +kernel) (by decide +kernel)
set_option maxRecDepth 20000 in
theorem gX1_comes_X0_fillPurse_n266 : GoodIn wsX1_comes (wsX0_fillPurse) := ggX1_comes_X0_fillPurse
set_option maxRecDepth 20000 in
theorem ggX1_comes_X0_changePlaces : GoodIn wsX1_comes wsX0_changePlaces := goodIn_r _ [130, 110, 131, 132, 133, 101, 134, 104, 135, 136, 137, 138, 9, 6, 10, 111, 112, 187, 188, 189, 190, 191, 192, 193, 194, 195, 196, 197, 198, 199] (by decide +kernel) (by decide +kernel)
set_option maxRecDepth 20000 in
theorem gX1_comes_X0_changePlaces_n78 : GoodIn wsX1_comes (wsX0_changePlaces) := ggX1_comes_X0_changePlaces
set_option maxRecDepth 20000 in
theorem ggX1_comes_X0_layInPile : GoodIn wsX1_comes wsX0_layInPile := goodIn_r _ [141, 109, 131, 132, 133, 101, 134, 104, 111, 6, 112, 187, 188, 189, 190, 191, 192, 193, 194, 195, 196, 197, 198, 199] (by decide +kernel) (by decide +kernel)
set_option maxRecDepth 20000 in
theorem gX1_comes_X0_layInPile_n269 : GoodIn wsX1_comes (wsX0_layInPile) := ggX1_comes_X0_layInPile
set_option maxRecDepth 20000 in
theorem ggX1_comes_X0_handTo : GoodIn wsX1_comes wsX0_handTo := goodIn_r _ [144, 109, 131, 132, 133, 101, 134, 104, 124, 125, 126, 127, 116, 111, 6, 112, 187, 188, 189, 190, 191, 192, 193, 194, 195, 196, 197, 198, 199] (by decide +kernel) (by decide +kernel)
set_option maxRecDepth 20000 in
theorem gX1_comes_X0_handTo_n272 : GoodIn wsX1_comes (wsX0_handTo) := ggX1_comes_X0_handTo
set_option maxRecDepth 20000 in
theorem ggX1_comes_X0_hasTimeFor : GoodIn wsX1_comes wsX0_hasTimeFor := goodIn_r _ [147, 148, 187, 188, 189, 190, 191, 192, 193, 194, 195, 196, 197, 198, 199] (by decide +kernel) (by decide +kernel)
set_option maxRecDepth 20000 in
theorem gX1_comes_X0_hasTimeFor_n94 : GoodIn wsX1_comes (wsX0_hasTimeFor) := ggX1_comes_X0_hasTimeFor
set_option maxRecDepth 20000 in
theorem ggX1_comes_X0_goOn : GoodIn wsX1_comes wsX0_goOn := goodIn_r _ [151, 148, 104, 110, 9, 6, 10, 152, 153, 154, 101, 155, 109, 131, 132, 133, 134, 156, 157, 158, 159, 107, 119, 120, 160, 44, 41, 45, 161, 40, 42, 162, 163, 164, 165, 116, 166, 167, 168, 169, 106, 108, 105, 170, 171, 172, 173, 118, 117, 124, 125, 126, 127, 111, 112, 174, 175, 176, 177, 187, 188, 189, 190, 191, 192, 193, 194, 195, 196, 197, 198, 199] (by decide +kernel) (by decide +kernel)
set_option maxRecDepth 20000 in
theorem gX1_comes_X0_goOn_n97 : GoodIn wsX1_comes (wsX0_goOn) := ggX1_comes_X0_goOn
theorem dX1_comes_0 : decode cX1_comes 0 = .ok (.aload_n 0, 1) := by decide +kernel
theorem dX1_comes_1 : decode cX1_comes 1 = .ok (.iload_n 1, 1) := by decide +kernel
theorem dX1_comes_2 : decode cX1_comes 2 = .ok (.iconst 1, 1) := by decide +kernel
theorem dX1_comes_3 : decode cX1_comes 3 = .ok (.iadd, 1) := by decide +kernel
theorem dX1_comes_4 : decode cX1_comes 4 = .ok (.iconst 1, 1) := by decide +kernel
theorem dX1_comes_5 : decode cX1_comes 5 = .ok (.invokevirtual 256, 3) := by decide +kernel
theorem dX1_comes_8 : decode cX1_comes 8 = .ok (.istore_n 2, 1) := by decide +kernel
theorem dX1_comes_9 : decode cX1_comes 9 = .ok (.aload_n 0, 1) := by decide +kernel
theorem dX1_comes_10 : decode cX1_comes 10 = .ok (.iload_n 1, 1) := by decide +kernel
theorem dX1_comes_11 : decode cX1_comes 11 = .ok (.iconst 2, 1) := by decide +kernel
theorem dX1_comes_12 : decode cX1_comes 12 = .ok (.iadd, 1) := by decide +kernel
theorem dX1_comes_13 : decode cX1_comes 13 = .ok (.iconst 1, 1) := by decide +kernel
theorem dX1_comes_14 : decode cX1_comes 14 = .ok (.invokevirtual 256, 3) := by decide +kernel
theorem dX1_comes_17 : decode cX1_comes 17 = .ok (.istore_n 3, 1) := by decide +kernel
theorem dX1_comes_18 : decode cX1_comes 18 = .ok (.aload_n 0, 1) := by decide +kernel
theorem dX1_comes_19 : decode cX1_comes 19 = .ok (.getfield 22, 3) := by decide +kernel
theorem dX1_comes_22 : decode cX1_comes 22 = .ok (.iload_n 1, 1) := by decide +kernel
theorem dX1_comes_23 : decode cX1_comes 23 = .ok (.iconst 1, 1) := by decide +kernel
theorem dX1_comes_24 : decode cX1_comes 24 = .ok (.iadd, 1) := by decide +kernel
theorem dX1_comes_25 : decode cX1_comes 25 = .ok (.invokestatic 51, 3) := by decide +kernel
theorem dX1_comes_28 : decode cX1_comes 28 = .ok (.istore 4, 2) := by decide +kernel
theorem dX1_comes_30 : decode cX1_comes 30 = .ok (.aload_n 0, 1) := by decide +kernel
theorem dX1_comes_31 : decode cX1_comes 31 = .ok (.getfield 22, 3) := by decide +kernel
theorem dX1_comes_34 : decode cX1_comes 34 = .ok (.iload_n 1, 1) := by decide +kernel
theorem dX1_comes_35 : decode cX1_comes 35 = .ok (.invokestatic 51, 3) := by decide +kernel
theorem dX1_comes_38 : decode cX1_comes 38 = .ok (.tableswitch 244 98 120 #[131, 106, 244, 244, 244, 192, 244, 244, 244, 244, 244, 202, 244, 244, 156, 244, 183, 244, 244, 244, 244, 244, 173], 106) := by decide +kernel
theorem dX1_comes_144 : decode cX1_comes 144 = .ok (.aload_n 0, 1) := by decide +kernel
theorem dX1_comes_145 : decode cX1_comes 145 = .ok (.getfield 16, 3) := by decide +kernel
theorem dX1_comes_148 : decode cX1_comes 148 = .ok (.ldc 249, 2) := by decide +kernel
theorem dX1_comes_150 : decode cX1_comes 150 = .ok (.iload 4, 2) := by decide +kernel
theorem dX1_comes_152 : decode cX1_comes 152 = .ok (.i2c, 1) := by decide +kernel
theorem dX1_comes_153 : decode cX1_comes 153 = .ok (.invokevirtual 251, 3) := by decide +kernel
theorem dX1_comes_156 : decode cX1_comes 156 = .ok (.iload_n 3, 1) := by decide +kernel
theorem dX1_comes_157 : decode cX1_comes 157 = .ok (.aload_n 0, 1) := by decide +kernel
theorem dX1_comes_158 : decode cX1_comes 158 = .ok (.iload_n 1, 1) := by decide +kernel
theorem dX1_comes_159 : decode cX1_comes 159 = .ok (.iconst 3, 1) := by decide +kernel
theorem dX1_comes_160 : decode cX1_comes 160 = .ok (.iadd, 1) := by decide +kernel
theorem dX1_comes_161 : decode cX1_comes 161 = .ok (.iconst 1, 1) := by decide +kernel
theorem dX1_comes_162 : decode cX1_comes 162 = .ok (.invokevirtual 256, 3) := by decide +kernel
theorem dX1_comes_165 : decode cX1_comes 165 = .ok (.invokevirtual 259, 3) := by decide +kernel
theorem dX1_comes_168 : decode cX1_comes 168 = .ok (.ireturn, 1) := by decide +kernel
theorem dX1_comes_169 : decode cX1_comes 169 = .ok (.aload_n 0, 1) := by decide +kernel
theorem dX1_comes_170 : decode cX1_comes 170 = .ok (.getfield 16, 3) := by decide +kernel
theorem dX1_comes_173 : decode cX1_comes 173 = .ok (.ldc 254, 2) := by decide +kernel
theorem dX1_comes_175 : decode cX1_comes 175 = .ok (.iload 4, 2) := by decide +kernel
theorem dX1_comes_177 : decode cX1_comes 177 = .ok (.i2c, 1) := by decide +kernel
theorem dX1_comes_178 : decode cX1_comes 178 = .ok (.invokevirtual 251, 3) := by decide +kernel
theorem dX1_comes_181 : decode cX1_comes 181 = .ok (.iload_n 3, 1) := by decide +kernel
theorem dX1_comes_182 : decode cX1_comes 182 = .ok (.aload_n 0, 1) := by decide +kernel
theorem dX1_comes_183 : decode cX1_comes 183 = .ok (.iload_n 1, 1) := by decide +kernel
theorem dX1_comes_184 : decode cX1_comes 184 = .ok (.iconst 3, 1) := by decide +kernel
theorem dX1_comes_185 : decode cX1_comes 185 = .ok (.iadd, 1) := by decide +kernel
theorem dX1_comes_186 : decode cX1_comes 186 = .ok (.iconst 3, 1) := by decide +kernel
theorem dX1_comes_187 : decode cX1_comes 187 = .ok (.invokevirtual 256, 3) := by decide +kernel
theorem dX1_comes_190 : decode cX1_comes 190 = .ok (.invokevirtual 263, 3) := by decide +kernel
theorem dX1_comes_193 : decode cX1_comes 193 = .ok (.ireturn, 1) := by decide +kernel
theorem dX1_comes_194 : decode cX1_comes 194 = .ok (.aload_n 0, 1) := by decide +kernel
theorem dX1_comes_195 : decode cX1_comes 195 = .ok (.getfield 16, 3) := by decide +kernel
theorem dX1_comes_198 : decode cX1_comes 198 = .ok (.iload_n 2, 1) := by decide +kernel
theorem dX1_comes_199 : decode cX1_comes 199 = .ok (.aload_n 0, 1) := by decide +kernel
theorem dX1_comes_200 : decode cX1_comes 200 = .ok (.iload_n 1, 1) := by decide +kernel
theorem dX1_comes_201 : decode cX1_comes 201 = .ok (.iconst 2, 1) := by decide +kernel
theorem dX1_comes_202 : decode cX1_comes 202 = .ok (.iadd, 1) := by decide +kernel
theorem dX1_comes_203 : decode cX1_comes 203 = .ok (.iconst 3, 1) := by decide +kernel
theorem dX1_comes_204 : decode cX1_comes 204 = .ok (.invokevirtual 256, 3) := by decide +kernel
theorem dX1_comes_207 : decode cX1_comes 207 = .ok (.invokevirtual 266, 3) := by decide +kernel
theorem dX1_comes_210 : decode cX1_comes 210 = .ok (.ireturn, 1) := by decide +kernel
theorem dX1_comes_211 : decode cX1_comes 211 = .ok (.aload_n 0, 1) := by decide +kernel
theorem dX1_comes_212 : decode cX1_comes 212 = .ok (.getfield 16, 3) := by decide +kernel
theorem dX1_comes_215 : decode cX1_comes 215 = .ok (.iload_n 2, 1) := by decide +kernel
theorem dX1_comes_216 : decode cX1_comes 216 = .ok (.iload_n 3, 1) := by decide +kernel
theorem dX1_comes_217 : decode cX1_comes 217 = .ok (.invokevirtual 78, 3) := by decide +kernel
theorem dX1_comes_220 : decode cX1_comes 220 = .ok (.ireturn, 1) := by decide +kernel
theorem dX1_comes_221 : decode cX1_comes 221 = .ok (.aload_n 0, 1) := by decide +kernel
theorem dX1_comes_222 : decode cX1_comes 222 = .ok (.getfield 16, 3) := by decide +kernel
theorem dX1_comes_225 : decode cX1_comes 225 = .ok (.iload_n 2, 1) := by decide +kernel
theorem dX1_comes_226 : decode cX1_comes 226 = .ok (.invokevirtual 269, 3) := by decide +kernel
theorem dX1_comes_229 : decode cX1_comes 229 = .ok (.ireturn, 1) := by decide +kernel
theorem dX1_comes_230 : decode cX1_comes 230 = .ok (.aload_n 0, 1) := by decide +kernel
theorem dX1_comes_231 : decode cX1_comes 231 = .ok (.getfield 16, 3) := by decide +kernel
theorem dX1_comes_234 : decode cX1_comes 234 = .ok (.iload_n 2, 1) := by decide +kernel
theorem dX1_comes_235 : decode cX1_comes 235 = .ok (.iload_n 3, 1) := by decide +kernel
theorem dX1_comes_236 : decode cX1_comes 236 = .ok (.invokevirtual 272, 3) := by decide +kernel
theorem dX1_comes_239 : decode cX1_comes 239 = .ok (.ireturn, 1) := by decide +kernel
theorem dX1_comes_240 : decode cX1_comes 240 = .ok (.aload_n 0, 1) := by decide +kernel
theorem dX1_comes_241 : decode cX1_comes 241 = .ok (.getfield 16, 3) := by decide +kernel
theorem dX1_comes_244 : decode cX1_comes 244 = .ok (.aload_n 0, 1) := by decide +kernel
theorem dX1_comes_245 : decode cX1_comes 245 = .ok (.iload_n 1, 1) := by decide +kernel
theorem dX1_comes_246 : decode cX1_comes 246 = .ok (.iconst 1, 1) := by decide +kernel
theorem dX1_comes_247 : decode cX1_comes 247 = .ok (.iadd, 1) := by decide +kernel
theorem dX1_comes_248 : decode cX1_comes 248 = .ok (.iconst 2, 1) := by decide +kernel
theorem dX1_comes_249 : decode cX1_comes 249 = .ok (.invokevirtual 256, 3) := by decide +kernel
theorem dX1_comes_252 : decode cX1_comes 252 = .ok (.invokevirtual 94, 3) := by decide +kernel
theorem dX1_comes_255 : decode cX1_comes 255 = .ok (.istore 5, 2) := by decide +kernel
theorem dX1_comes_257 : decode cX1_comes 257 = .ok (.iload 5, 2) := by decide +kernel
theorem dX1_comes_259 : decode cX1_comes 259 = .ok (.ifCond .eq 20, 3) := by decide +kernel
theorem dX1_comes_262 : decode cX1_comes 262 = .ok (.aload_n 0, 1) := by decide +kernel
theorem dX1_comes_263 : decode cX1_comes 263 = .ok (.getfield 16, 3) := by decide +kernel
theorem dX1_comes_266 : decode cX1_comes 266 = .ok (.aload_n 0, 1) := by decide +kernel
theorem dX1_comes_267 : decode cX1_comes 267 = .ok (.iload_n 1, 1) := by decide +kernel
theorem dX1_comes_268 : decode cX1_comes 268 = .ok (.iconst 1, 1) := by decide +kernel
theorem dX1_comes_269 : decode cX1_comes 269 = .ok (.iadd, 1) := by decide +kernel
theorem dX1_comes_270 : decode cX1_comes 270 = .ok (.iconst 2, 1) := by decide +kernel
theorem dX1_comes_271 : decode cX1_comes 271 = .ok (.invokevirtual 256, 3) := by decide +kernel
theorem dX1_comes_274 : decode cX1_comes 274 = .ok (.iconst 1, 1) := by decide +kernel
theorem dX1_comes_275 : decode cX1_comes 275 = .ok (.invokevirtual 97, 3) := by decide +kernel
theorem dX1_comes_278 : decode cX1_comes 278 = .ok (.pop, 1) := by decide +kernel
theorem dX1_comes_279 : decode cX1_comes 279 = .ok (.iload 5, 2) := by decide +kernel
theorem dX1_comes_281 : decode cX1_comes 281 = .ok (.ireturn, 1) := by decide +kernel
theorem dX1_comes_282 : decode cX1_comes 282 = .ok (.iconst 0, 1) := by decide +kernel
theorem dX1_comes_283 : decode cX1_comes 283 = .ok (.ireturn, 1) := by decide +kernel
set_option maxRecDepth 20000 in
theorem ggX1_number_X1_at : GoodIn wsX1_number wsX1_at := goodIn_r _ [5] (by decide +kernel) (by decide +kernel)
set_option maxRecDepth 20000 in
theorem gX1_number_X1_at : GoodIn wsX1_number (va_wsS RX1 51 yX1_at wsX1_at) := goodIn_app (goodIn_of _ (by decide +kernel)) ggX1_number_X1_at
theorem dX1_number_0 : decode cX1_number 0 = .ok (.iconst 0, 1) := by decide +kernel
theorem dX1_number_1 : decode cX1_number 1 = .ok (.istore_n 3, 1) := by decide +kernel
theorem dX1_number_2 : decode cX1_number 2 = .ok (.iconst 0, 1) := by decide +kernel
theorem dX1_number_3 : decode cX1_number 3 = .ok (.istore 4, 2) := by decide +kernel
theorem dX1_number_5 : decode cX1_number 5 = .ok (.iload 4, 2) := by decide +kernel
theorem dX1_number_7 : decode cX1_number 7 = .ok (.iload_n 2, 1) := by decide +kernel
theorem dX1_number_8 : decode cX1_number 8 = .ok (.if_icmp .ge 29, 3) := by decide +kernel
theorem dX1_number_11 : decode cX1_number 11 = .ok (.bipush 10, 2) := by decide +kernel
theorem dX1_number_13 : decode cX1_number 13 = .ok (.iload_n 3, 1) := by decide +kernel
theorem dX1_number_14 : decode cX1_number 14 = .ok (.imul, 1) := by decide +kernel
theorem dX1_number_15 : decode cX1_number 15 = .ok (.aload_n 0, 1) := by decide +kernel
theorem dX1_number_16 : decode cX1_number 16 = .ok (.getfield 22, 3) := by decide +kernel
theorem dX1_number_19 : decode cX1_number 19 = .ok (.iload_n 1, 1) := by decide +kernel
theorem dX1_number_20 : decode cX1_number 20 = .ok (.iload 4, 2) := by decide +kernel
theorem dX1_number_22 : decode cX1_number 22 = .ok (.iadd, 1) := by decide +kernel
theorem dX1_number_23 : decode cX1_number 23 = .ok (.invokestatic 51, 3) := by decide +kernel
theorem dX1_number_26 : decode cX1_number 26 = .ok (.iadd, 1) := by decide +kernel
theorem dX1_number_27 : decode cX1_number 27 = .ok (.bipush 48, 2) := by decide +kernel
theorem dX1_number_29 : decode cX1_number 29 = .ok (.isub, 1) := by decide +kernel
theorem dX1_number_30 : decode cX1_number 30 = .ok (.istore_n 3, 1) := by decide +kernel
theorem dX1_number_31 : decode cX1_number 31 = .ok (.iinc 4 1, 3) := by decide +kernel
theorem dX1_number_34 : decode cX1_number 34 = .ok (.goto (-29), 3) := by decide +kernel
theorem dX1_number_37 : decode cX1_number 37 = .ok (.iload_n 3, 1) := by decide +kernel
theorem dX1_number_38 : decode cX1_number 38 = .ok (.ireturn, 1) := by decide +kernel
set_option maxRecDepth 20000 in
theorem ggX1_riches_X1_at : GoodIn wsX1_riches wsX1_at := goodIn_r _ [5] (by decide +kernel) (by decide +kernel)
set_option maxRecDepth 20000 in
theorem gX1_riches_X1_at : GoodIn wsX1_riches (va_wsS RX1 51 yX1_at wsX1_at) := goodIn_app (goodIn_of _ (by decide +kernel)) ggX1_riches_X1_at
set_option maxRecDepth 20000 in
theorem ggX1_riches_X0_worth : GoodIn wsX1_riches wsX0_worth := goodIn_r _ [9, 10, 11, 12, 13, 14, 15, 16, 3, 4, 5, 26, 27, 28, 29, 30, 31, 32, 33, 34, 35, 36, 37, 38] (by decide +kernel) (by decide +kernel)
set_option maxRecDepth 20000 in
theorem gX1_riches_X0_worth_n117 : GoodIn wsX1_riches (wsX0_worth) := ggX1_riches_X0_worth
theorem dX1_riches_0 : decode cX1_riches 0 = .ok (.iload_n 2, 1) := by decide +kernel
theorem dX1_riches_1 : decode cX1_riches 1 = .ok (.lookupswitch 51 #[(0, 27), (1, 39)], 27) := by decide +kernel
theorem dX1_riches_28 : decode cX1_riches 28 = .ok (.aload_n 0, 1) := by decide +kernel
theorem dX1_riches_29 : decode cX1_riches 29 = .ok (.getfield 10, 3) := by decide +kernel
theorem dX1_riches_32 : decode cX1_riches 32 = .ok (.getfield 66, 3) := by decide +kernel
theorem dX1_riches_35 : decode cX1_riches 35 = .ok (.iload_n 1, 1) := by decide +kernel
theorem dX1_riches_36 : decode cX1_riches 36 = .ok (.invokestatic 51, 3) := by decide +kernel
theorem dX1_riches_39 : decode cX1_riches 39 = .ok (.ireturn, 1) := by decide +kernel
theorem dX1_riches_40 : decode cX1_riches 40 = .ok (.aload_n 0, 1) := by decide +kernel
theorem dX1_riches_41 : decode cX1_riches 41 = .ok (.getfield 10, 3) := by decide +kernel
theorem dX1_riches_44 : decode cX1_riches 44 = .ok (.getfield 123, 3) := by decide +kernel
theorem dX1_riches_47 : decode cX1_riches 47 = .ok (.iload_n 1, 1) := by decide +kernel
theorem dX1_riches_48 : decode cX1_riches 48 = .ok (.invokestatic 51, 3) := by decide +kernel
theorem dX1_riches_51 : decode cX1_riches 51 = .ok (.ireturn, 1) := by decide +kernel
theorem dX1_riches_52 : decode cX1_riches 52 = .ok (.aload_n 0, 1) := by decide +kernel
theorem dX1_riches_53 : decode cX1_riches 53 = .ok (.getfield 10, 3) := by decide +kernel
theorem dX1_riches_56 : decode cX1_riches 56 = .ok (.iload_n 1, 1) := by decide +kernel
theorem dX1_riches_57 : decode cX1_riches 57 = .ok (.invokevirtual 117, 3) := by decide +kernel
theorem dX1_riches_60 : decode cX1_riches 60 = .ok (.ireturn, 1) := by decide +kernel
theorem dX1_away_0 : decode cX1_away 0 = .ok (.iload_n 1, 1) := by decide +kernel
theorem dX1_away_1 : decode cX1_away 1 = .ok (.iconst 1, 1) := by decide +kernel
theorem dX1_away_2 : decode cX1_away 2 = .ok (.if_icmp .ne 7, 3) := by decide +kernel
theorem dX1_away_5 : decode cX1_away 5 = .ok (.iconst 0, 1) := by decide +kernel
theorem dX1_away_6 : decode cX1_away 6 = .ok (.goto 6, 3) := by decide +kernel
theorem dX1_away_9 : decode cX1_away 9 = .ok (.iconst 1, 1) := by decide +kernel
theorem dX1_away_10 : decode cX1_away 10 = .ok (.iload_n 0, 1) := by decide +kernel
theorem dX1_away_11 : decode cX1_away 11 = .ok (.ishl, 1) := by decide +kernel
theorem dX1_away_12 : decode cX1_away 12 = .ok (.ireturn, 1) := by decide +kernel
set_option maxRecDepth 20000 in
theorem ggX1_goStuttering_X0_become : GoodIn wsX1_goStuttering wsX0_become := goodIn_r _ [6, 7, 8, 9, 10, 11, 12, 13, 14, 15, 16, 17, 18, 19, 20, 21, 22, 23, 24, 25, 26, 27, 28, 29, 30, 83, 84, 85, 86, 87, 88, 89, 90, 91, 92, 93, 94, 95] (by decide +kernel) (by decide +kernel)
set_option maxRecDepth 20000 in
theorem gX1_goStuttering_X0_become_n47 : GoodIn wsX1_goStuttering (wsX0_become) := ggX1_goStuttering_X0_become
set_option maxRecDepth 20000 in
theorem ggX1_goStuttering_X0_inPile : GoodIn wsX1_goStuttering wsX0_inPile := goodIn_r _ [33, 14, 34, 35, 36, 4, 37, 7, 38, 21, 39, 83, 84, 85, 86, 87, 88, 89, 90, 91, 92, 93, 94, 95] (by decide +kernel) (by decide +kernel)
set_option maxRecDepth 20000 in
theorem gX1_goStuttering_X0_inPile_n72 : GoodIn wsX1_goStuttering (wsX0_inPile) := ggX1_goStuttering_X0_inPile
set_option maxRecDepth 20000 in
theorem ggX1_goStuttering_X0_goOn : GoodIn wsX1_goStuttering wsX0_goOn := goodIn_r _ [42, 9, 7, 15, 38, 21, 39, 43, 31, 32, 4, 33, 14, 34, 35, 36, 37, 44, 45, 46, 47, 12, 18, 19, 48, 24, 25, 26, 49, 50, 51, 52, 53, 54, 55, 8, 56, 57, 58, 59, 11, 13, 10, 60, 61, 62, 63, 17, 16, 64, 65, 66, 67, 68, 69, 70, 71, 72, 73, 83, 84, 85, 86, 87, 88, 89, 90, 91, 92, 93, 94, 95] (by decide +kernel) (by decide +kernel)
set_option maxRecDepth 20000 in
theorem gX1_goStuttering_X0_goOn_n97 : GoodIn wsX1_goStuttering (wsX0_goOn) := ggX1_goStuttering_X0_goOn
theorem dX1_goStuttering_0 : decode cX1_goStuttering 0 = .ok (.aload_n 0, 1) := by decide +kernel
theorem dX1_goStuttering_1 : decode cX1_goStuttering 1 = .ok (.getfield 16, 3) := by decide +kernel
theorem dX1_goStuttering_4 : decode cX1_goStuttering 4 = .ok (.aload_n 0, 1) := by decide +kernel
theorem dX1_goStuttering_5 : decode cX1_goStuttering 5 = .ok (.getfield 10, 3) := by decide +kernel
theorem dX1_goStuttering_8 : decode cX1_goStuttering 8 = .ok (.invokevirtual 47, 3) := by decide +kernel
theorem dX1_goStuttering_11 : decode cX1_goStuttering 11 = .ok (.lconst 1, 1) := by decide +kernel
theorem dX1_goStuttering_12 : decode cX1_goStuttering 12 = .ok (.lstore 5, 2) := by decide +kernel
theorem dX1_goStuttering_14 : decode cX1_goStuttering 14 = .ok (.iconst 0, 1) := by decide +kernel
theorem dX1_goStuttering_15 : decode cX1_goStuttering 15 = .ok (.istore 7, 2) := by decide +kernel
theorem dX1_goStuttering_17 : decode cX1_goStuttering 17 = .ok (.iload 7, 2) := by decide +kernel
theorem dX1_goStuttering_19 : decode cX1_goStuttering 19 = .ok (.iload_n 2, 1) := by decide +kernel
theorem dX1_goStuttering_20 : decode cX1_goStuttering 20 = .ok (.if_icmp .ge 62, 3) := by decide +kernel
theorem dX1_goStuttering_23 : decode cX1_goStuttering 23 = .ok (.iload 4, 2) := by decide +kernel
theorem dX1_goStuttering_25 : decode cX1_goStuttering 25 = .ok (.iload 7, 2) := by decide +kernel
theorem dX1_goStuttering_27 : decode cX1_goStuttering 27 = .ok (.ishr, 1) := by decide +kernel
theorem dX1_goStuttering_28 : decode cX1_goStuttering 28 = .ok (.iconst 1, 1) := by decide +kernel
theorem dX1_goStuttering_29 : decode cX1_goStuttering 29 = .ok (.iand, 1) := by decide +kernel
theorem dX1_goStuttering_30 : decode cX1_goStuttering 30 = .ok (.ifCond .ne 7, 3) := by decide +kernel
theorem dX1_goStuttering_33 : decode cX1_goStuttering 33 = .ok (.iconst 1, 1) := by decide +kernel
theorem dX1_goStuttering_34 : decode cX1_goStuttering 34 = .ok (.goto 4, 3) := by decide +kernel
theorem dX1_goStuttering_37 : decode cX1_goStuttering 37 = .ok (.iconst 0, 1) := by decide +kernel
theorem dX1_goStuttering_38 : decode cX1_goStuttering 38 = .ok (.istore 8, 2) := by decide +kernel
theorem dX1_goStuttering_40 : decode cX1_goStuttering 40 = .ok (.iload 8, 2) := by decide +kernel
theorem dX1_goStuttering_42 : decode cX1_goStuttering 42 = .ok (.ifCond .eq 12, 3) := by decide +kernel
theorem dX1_goStuttering_45 : decode cX1_goStuttering 45 = .ok (.lload 5, 2) := by decide +kernel
theorem dX1_goStuttering_47 : decode cX1_goStuttering 47 = .ok (.iload_n 3, 1) := by decide +kernel
theorem dX1_goStuttering_48 : decode cX1_goStuttering 48 = .ok (.iconst 1, 1) := by decide +kernel
theorem dX1_goStuttering_49 : decode cX1_goStuttering 49 = .ok (.isub, 1) := by decide +kernel
theorem dX1_goStuttering_50 : decode cX1_goStuttering 50 = .ok (.i2l, 1) := by decide +kernel
theorem dX1_goStuttering_51 : decode cX1_goStuttering 51 = .ok (.lmul, 1) := by decide +kernel
theorem dX1_goStuttering_52 : decode cX1_goStuttering 52 = .ok (.lstore 5, 2) := by decide +kernel
theorem dX1_goStuttering_54 : decode cX1_goStuttering 54 = .ok (.aload_n 0, 1) := by decide +kernel
theorem dX1_goStuttering_55 : decode cX1_goStuttering 55 = .ok (.getfield 16, 3) := by decide +kernel
theorem dX1_goStuttering_58 : decode cX1_goStuttering 58 = .ok (.iload_n 1, 1) := by decide +kernel
theorem dX1_goStuttering_59 : decode cX1_goStuttering 59 = .ok (.invokevirtual 72, 3) := by decide +kernel
theorem dX1_goStuttering_62 : decode cX1_goStuttering 62 = .ok (.ifCond .eq 14, 3) := by decide +kernel
theorem dX1_goStuttering_65 : decode cX1_goStuttering 65 = .ok (.aload_n 0, 1) := by decide +kernel
theorem dX1_goStuttering_66 : decode cX1_goStuttering 66 = .ok (.getfield 16, 3) := by decide +kernel
theorem dX1_goStuttering_69 : decode cX1_goStuttering 69 = .ok (.iconst 1, 1) := by decide +kernel
theorem dX1_goStuttering_70 : decode cX1_goStuttering 70 = .ok (.iload 8, 2) := by decide +kernel
theorem dX1_goStuttering_72 : decode cX1_goStuttering 72 = .ok (.invokevirtual 97, 3) := by decide +kernel
theorem dX1_goStuttering_75 : decode cX1_goStuttering 75 = .ok (.pop, 1) := by decide +kernel
theorem dX1_goStuttering_76 : decode cX1_goStuttering 76 = .ok (.iinc 7 1, 3) := by decide +kernel
theorem dX1_goStuttering_79 : decode cX1_goStuttering 79 = .ok (.goto (-62), 3) := by decide +kernel
theorem dX1_goStuttering_82 : decode cX1_goStuttering 82 = .ok (.lload 5, 2) := by decide +kernel
theorem dX1_goStuttering_84 : decode cX1_goStuttering 84 = .ok (.lreturn, 1) := by decide +kernel
set_option maxRecDepth 20000 in
theorem ggX1_rowTellsHolders_X0_inPile : GoodIn wsX1_rowTellsHolders wsX0_inPile := goodIn_r _ [7, 8, 9, 10, 11, 5, 12, 13, 14, 15, 16, 27, 28, 29, 30, 31, 32, 33, 34, 35, 36, 37, 38, 39] (by decide +kernel) (by decide +kernel)
set_option maxRecDepth 20000 in
theorem gX1_rowTellsHolders_X0_inPile_n72 : GoodIn wsX1_rowTellsHolders (wsX0_inPile) := ggX1_rowTellsHolders_X0_inPile
set_option maxRecDepth 20000 in
theorem ggX1_rowTellsHolders_X1_at : GoodIn wsX1_rowTellsHolders wsX1_at := goodIn_r _ [16] (by decide +kernel) (by decide +kernel)
set_option maxRecDepth 20000 in
theorem gX1_rowTellsHolders_X1_at : GoodIn wsX1_rowTellsHolders (va_wsS RX1 51 yX1_at wsX1_at) := goodIn_app (goodIn_of _ (by decide +kernel)) ggX1_rowTellsHolders_X1_at
set_option maxRecDepth 20000 in
theorem ggX1_rowTellsHolders_X0_hasCard : GoodIn wsX1_rowTellsHolders wsX0_hasCard := goodIn_r _ [12, 13, 27, 28, 29, 30, 31, 32, 33, 34, 35, 36, 37, 38, 39] (by decide +kernel) (by decide +kernel)
set_option maxRecDepth 20000 in
theorem gX1_rowTellsHolders_X0_hasCard_n69 : GoodIn wsX1_rowTellsHolders (wsX0_hasCard) := ggX1_rowTellsHolders_X0_hasCard
theorem dX1_rowTellsHolders_0 : decode cX1_rowTellsHolders 0 = .ok (.iconst 0, 1) := by decide +kernel
theorem dX1_rowTellsHolders_1 : decode cX1_rowTellsHolders 1 = .ok (.istore_n 1, 1) := by decide +kernel
theorem dX1_rowTellsHolders_2 : decode cX1_rowTellsHolders 2 = .ok (.iload_n 1, 1) := by decide +kernel
theorem dX1_rowTellsHolders_3 : decode cX1_rowTellsHolders 3 = .ok (.aload_n 0, 1) := by decide +kernel
theorem dX1_rowTellsHolders_4 : decode cX1_rowTellsHolders 4 = .ok (.getfield 177, 3) := by decide +kernel
theorem dX1_rowTellsHolders_7 : decode cX1_rowTellsHolders 7 = .ok (.if_icmp .ge 62, 3) := by decide +kernel
theorem dX1_rowTellsHolders_10 : decode cX1_rowTellsHolders 10 = .ok (.aload_n 0, 1) := by decide +kernel
theorem dX1_rowTellsHolders_11 : decode cX1_rowTellsHolders 11 = .ok (.getfield 16, 3) := by decide +kernel
theorem dX1_rowTellsHolders_14 : decode cX1_rowTellsHolders 14 = .ok (.iload_n 1, 1) := by decide +kernel
theorem dX1_rowTellsHolders_15 : decode cX1_rowTellsHolders 15 = .ok (.invokevirtual 72, 3) := by decide +kernel
theorem dX1_rowTellsHolders_18 : decode cX1_rowTellsHolders 18 = .ok (.ifCond .eq 8, 3) := by decide +kernel
theorem dX1_rowTellsHolders_21 : decode cX1_rowTellsHolders 21 = .ok (.bipush 9, 2) := by decide +kernel
theorem dX1_rowTellsHolders_23 : decode cX1_rowTellsHolders 23 = .ok (.goto 14, 3) := by decide +kernel
theorem dX1_rowTellsHolders_26 : decode cX1_rowTellsHolders 26 = .ok (.aload_n 0, 1) := by decide +kernel
theorem dX1_rowTellsHolders_27 : decode cX1_rowTellsHolders 27 = .ok (.getfield 16, 3) := by decide +kernel
theorem dX1_rowTellsHolders_30 : decode cX1_rowTellsHolders 30 = .ok (.getfield 75, 3) := by decide +kernel
theorem dX1_rowTellsHolders_33 : decode cX1_rowTellsHolders 33 = .ok (.iload_n 1, 1) := by decide +kernel
theorem dX1_rowTellsHolders_34 : decode cX1_rowTellsHolders 34 = .ok (.invokestatic 51, 3) := by decide +kernel
theorem dX1_rowTellsHolders_37 : decode cX1_rowTellsHolders 37 = .ok (.istore_n 2, 1) := by decide +kernel
theorem dX1_rowTellsHolders_38 : decode cX1_rowTellsHolders 38 = .ok (.aload_n 0, 1) := by decide +kernel
theorem dX1_rowTellsHolders_39 : decode cX1_rowTellsHolders 39 = .ok (.getfield 16, 3) := by decide +kernel
theorem dX1_rowTellsHolders_42 : decode cX1_rowTellsHolders 42 = .ok (.iload_n 1, 1) := by decide +kernel
theorem dX1_rowTellsHolders_43 : decode cX1_rowTellsHolders 43 = .ok (.invokevirtual 69, 3) := by decide +kernel
theorem dX1_rowTellsHolders_46 : decode cX1_rowTellsHolders 46 = .ok (.ifCond .eq 15, 3) := by decide +kernel
theorem dX1_rowTellsHolders_49 : decode cX1_rowTellsHolders 49 = .ok (.aload_n 0, 1) := by decide +kernel
theorem dX1_rowTellsHolders_50 : decode cX1_rowTellsHolders 50 = .ok (.getfield 26, 3) := by decide +kernel
theorem dX1_rowTellsHolders_53 : decode cX1_rowTellsHolders 53 = .ok (.iload_n 1, 1) := by decide +kernel
theorem dX1_rowTellsHolders_54 : decode cX1_rowTellsHolders 54 = .ok (.invokestatic 51, 3) := by decide +kernel
theorem dX1_rowTellsHolders_57 : decode cX1_rowTellsHolders 57 = .ok (.iload_n 2, 1) := by decide +kernel
theorem dX1_rowTellsHolders_58 : decode cX1_rowTellsHolders 58 = .ok (.if_icmp .eq 5, 3) := by decide +kernel
theorem dX1_rowTellsHolders_61 : decode cX1_rowTellsHolders 61 = .ok (.iconst 0, 1) := by decide +kernel
theorem dX1_rowTellsHolders_62 : decode cX1_rowTellsHolders 62 = .ok (.ireturn, 1) := by decide +kernel
theorem dX1_rowTellsHolders_63 : decode cX1_rowTellsHolders 63 = .ok (.iinc 1 1, 3) := by decide +kernel
theorem dX1_rowTellsHolders_66 : decode cX1_rowTellsHolders 66 = .ok (.goto (-64), 3) := by decide +kernel
theorem dX1_rowTellsHolders_69 : decode cX1_rowTellsHolders 69 = .ok (.iconst 1, 1) := by decide +kernel
theorem dX1_rowTellsHolders_70 : decode cX1_rowTellsHolders 70 = .ok (.ireturn, 1) := by decide +kernel
theorem dX1_inLeastTerms_0 : decode cX1_inLeastTerms 0 = .ok (.lload_n 0, 1) := by decide +kernel
theorem dX1_inLeastTerms_1 : decode cX1_inLeastTerms 1 = .ok (.lconst 0, 1) := by decide +kernel
theorem dX1_inLeastTerms_2 : decode cX1_inLeastTerms 2 = .ok (.lcmp, 1) := by decide +kernel
theorem dX1_inLeastTerms_3 : decode cX1_inLeastTerms 3 = .ok (.ifCond .le 9, 3) := by decide +kernel
theorem dX1_inLeastTerms_6 : decode cX1_inLeastTerms 6 = .ok (.lload_n 2, 1) := by decide +kernel
theorem dX1_inLeastTerms_7 : decode cX1_inLeastTerms 7 = .ok (.lconst 0, 1) := by decide +kernel
theorem dX1_inLeastTerms_8 : decode cX1_inLeastTerms 8 = .ok (.lcmp, 1) := by decide +kernel
theorem dX1_inLeastTerms_9 : decode cX1_inLeastTerms 9 = .ok (.ifCond .gt 7, 3) := by decide +kernel
theorem dX1_inLeastTerms_12 : decode cX1_inLeastTerms 12 = .ok (.iload 4, 2) := by decide +kernel
theorem dX1_inLeastTerms_14 : decode cX1_inLeastTerms 14 = .ok (.i2l, 1) := by decide +kernel
theorem dX1_inLeastTerms_15 : decode cX1_inLeastTerms 15 = .ok (.lreturn, 1) := by decide +kernel
theorem dX1_inLeastTerms_16 : decode cX1_inLeastTerms 16 = .ok (.lload_n 0, 1) := by decide +kernel
theorem dX1_inLeastTerms_17 : decode cX1_inLeastTerms 17 = .ok (.lstore 5, 2) := by decide +kernel
theorem dX1_inLeastTerms_19 : decode cX1_inLeastTerms 19 = .ok (.lload_n 2, 1) := by decide +kernel
theorem dX1_inLeastTerms_20 : decode cX1_inLeastTerms 20 = .ok (.lstore 7, 2) := by decide +kernel
theorem dX1_inLeastTerms_22 : decode cX1_inLeastTerms 22 = .ok (.iconst 0, 1) := by decide +kernel
theorem dX1_inLeastTerms_23 : decode cX1_inLeastTerms 23 = .ok (.istore 9, 2) := by decide +kernel
theorem dX1_inLeastTerms_25 : decode cX1_inLeastTerms 25 = .ok (.iload 9, 2) := by decide +kernel
theorem dX1_inLeastTerms_27 : decode cX1_inLeastTerms 27 = .ok (.sipush 128, 3) := by decide +kernel
theorem dX1_inLeastTerms_30 : decode cX1_inLeastTerms 30 = .ok (.if_icmp .ge 31, 3) := by decide +kernel
theorem dX1_inLeastTerms_33 : decode cX1_inLeastTerms 33 = .ok (.lload 7, 2) := by decide +kernel
theorem dX1_inLeastTerms_35 : decode cX1_inLeastTerms 35 = .ok (.lconst 0, 1) := by decide +kernel
theorem dX1_inLeastTerms_36 : decode cX1_inLeastTerms 36 = .ok (.lcmp, 1) := by decide +kernel
theorem dX1_inLeastTerms_37 : decode cX1_inLeastTerms 37 = .ok (.ifCond .eq 24, 3) := by decide +kernel
theorem dX1_inLeastTerms_40 : decode cX1_inLeastTerms 40 = .ok (.lload 5, 2) := by decide +kernel
theorem dX1_inLeastTerms_42 : decode cX1_inLeastTerms 42 = .ok (.lload 7, 2) := by decide +kernel
theorem dX1_inLeastTerms_44 : decode cX1_inLeastTerms 44 = .ok (.lrem, 1) := by decide +kernel
theorem dX1_inLeastTerms_45 : decode cX1_inLeastTerms 45 = .ok (.lstore 10, 2) := by decide +kernel
theorem dX1_inLeastTerms_47 : decode cX1_inLeastTerms 47 = .ok (.lload 7, 2) := by decide +kernel
theorem dX1_inLeastTerms_49 : decode cX1_inLeastTerms 49 = .ok (.lstore 5, 2) := by decide +kernel
theorem dX1_inLeastTerms_51 : decode cX1_inLeastTerms 51 = .ok (.lload 10, 2) := by decide +kernel
theorem dX1_inLeastTerms_53 : decode cX1_inLeastTerms 53 = .ok (.lstore 7, 2) := by decide +kernel
theorem dX1_inLeastTerms_55 : decode cX1_inLeastTerms 55 = .ok (.iinc 9 1, 3) := by decide +kernel
theorem dX1_inLeastTerms_58 : decode cX1_inLeastTerms 58 = .ok (.goto (-33), 3) := by decide +kernel
theorem dX1_inLeastTerms_61 : decode cX1_inLeastTerms 61 = .ok (.lload 5, 2) := by decide +kernel
theorem dX1_inLeastTerms_63 : decode cX1_inLeastTerms 63 = .ok (.lconst 0, 1) := by decide +kernel
theorem dX1_inLeastTerms_64 : decode cX1_inLeastTerms 64 = .ok (.lcmp, 1) := by decide +kernel
theorem dX1_inLeastTerms_65 : decode cX1_inLeastTerms 65 = .ok (.ifCond .gt 7, 3) := by decide +kernel
theorem dX1_inLeastTerms_68 : decode cX1_inLeastTerms 68 = .ok (.iload 4, 2) := by decide +kernel
theorem dX1_inLeastTerms_70 : decode cX1_inLeastTerms 70 = .ok (.i2l, 1) := by decide +kernel
theorem dX1_inLeastTerms_71 : decode cX1_inLeastTerms 71 = .ok (.lreturn, 1) := by decide +kernel
theorem dX1_inLeastTerms_72 : decode cX1_inLeastTerms 72 = .ok (.iload 4, 2) := by decide +kernel
theorem dX1_inLeastTerms_74 : decode cX1_inLeastTerms 74 = .ok (.ifCond .ne 10, 3) := by decide +kernel
theorem dX1_inLeastTerms_77 : decode cX1_inLeastTerms 77 = .ok (.lload_n 0, 1) := by decide +kernel
theorem dX1_inLeastTerms_78 : decode cX1_inLeastTerms 78 = .ok (.lload 5, 2) := by decide +kernel
theorem dX1_inLeastTerms_80 : decode cX1_inLeastTerms 80 = .ok (.ldiv, 1) := by decide +kernel
theorem dX1_inLeastTerms_81 : decode cX1_inLeastTerms 81 = .ok (.goto 7, 3) := by decide +kernel
theorem dX1_inLeastTerms_84 : decode cX1_inLeastTerms 84 = .ok (.lload_n 2, 1) := by decide +kernel
theorem dX1_inLeastTerms_85 : decode cX1_inLeastTerms 85 = .ok (.lload 5, 2) := by decide +kernel
theorem dX1_inLeastTerms_87 : decode cX1_inLeastTerms 87 = .ok (.ldiv, 1) := by decide +kernel
theorem dX1_inLeastTerms_88 : decode cX1_inLeastTerms 88 = .ok (.lreturn, 1) := by decide +kernel
