theorem dX2_likes_30 : decode cX2_likes 30 = .ok (.iaload, 1) := by decide +kernel
theorem dX2_likes_31 : decode cX2_likes 31 = .ok (.iadd, 1) := by decide +kernel
theorem dX2_likes_32 : decode cX2_likes 32 = .ok (.goto 10, 3) := by decide +kernel
theorem dX2_likes_35 : decode cX2_likes 35 = .ok (.aload_n 0, 1) := by decide +kernel
theorem dX2_likes_36 : decode cX2_likes 36 = .ok (.iload_n 2, 1) := by decide +kernel
theorem dX2_likes_37 : decode cX2_likes 37 = .ok (.invokevirtual 179, 3) := by decide +kernel
theorem dX2_likes_40 : decode cX2_likes 40 = .ok (.iconst 2, 1) := by decide +kernel
theorem dX2_likes_41 : decode cX2_likes 41 = .ok (.idiv, 1) := by decide +kernel
theorem dX2_likes_42 : decode cX2_likes 42 = .ok (.istore 4, 2) := by decide +kernel
theorem dX2_likes_44 : decode cX2_likes 44 = .ok (.aload_n 0, 1) := by decide +kernel
theorem dX2_likes_45 : decode cX2_likes 45 = .ok (.getfield 31, 3) := by decide +kernel
theorem dX2_likes_48 : decode cX2_likes 48 = .ok (.iload_n 1, 1) := by decide +kernel
theorem dX2_likes_49 : decode cX2_likes 49 = .ok (.iaload, 1) := by decide +kernel
theorem dX2_likes_50 : decode cX2_likes 50 = .ok (.tableswitch 94 1 5 #[34, 49, 68, 73, 87], 34) := by decide +kernel
theorem dX2_likes_84 : decode cX2_likes 84 = .ok (.iload 4, 2) := by decide +kernel
theorem dX2_likes_86 : decode cX2_likes 86 = .ok (.iconst 3, 1) := by decide +kernel
theorem dX2_likes_87 : decode cX2_likes 87 = .ok (.if_icmp .le 10, 3) := by decide +kernel
theorem dX2_likes_90 : decode cX2_likes 90 = .ok (.iload 4, 2) := by decide +kernel
theorem dX2_likes_92 : decode cX2_likes 92 = .ok (.iconst 3, 1) := by decide +kernel
theorem dX2_likes_93 : decode cX2_likes 93 = .ok (.isub, 1) := by decide +kernel
theorem dX2_likes_94 : decode cX2_likes 94 = .ok (.goto 4, 3) := by decide +kernel
theorem dX2_likes_97 : decode cX2_likes 97 = .ok (.iconst 0, 1) := by decide +kernel
theorem dX2_likes_98 : decode cX2_likes 98 = .ok (.ireturn, 1) := by decide +kernel
theorem dX2_likes_99 : decode cX2_likes 99 = .ok (.aload_n 0, 1) := by decide +kernel
theorem dX2_likes_100 : decode cX2_likes 100 = .ok (.iload_n 1, 1) := by decide +kernel
theorem dX2_likes_101 : decode cX2_likes 101 = .ok (.iload_n 2, 1) := by decide +kernel
theorem dX2_likes_102 : decode cX2_likes 102 = .ok (.invokevirtual 182, 3) := by decide +kernel
theorem dX2_likes_105 : decode cX2_likes 105 = .ok (.ifCond .eq 10, 3) := by decide +kernel
theorem dX2_likes_108 : decode cX2_likes 108 = .ok (.iconst 2, 1) := by decide +kernel
theorem dX2_likes_109 : decode cX2_likes 109 = .ok (.iload 4, 2) := by decide +kernel
theorem dX2_likes_111 : decode cX2_likes 111 = .ok (.imul, 1) := by decide +kernel
theorem dX2_likes_112 : decode cX2_likes 112 = .ok (.goto 5, 3) := by decide +kernel
theorem dX2_likes_115 : decode cX2_likes 115 = .ok (.iload 4, 2) := by decide +kernel
theorem dX2_likes_117 : decode cX2_likes 117 = .ok (.ireturn, 1) := by decide +kernel
theorem dX2_likes_118 : decode cX2_likes 118 = .ok (.iload 4, 2) := by decide +kernel
theorem dX2_likes_120 : decode cX2_likes 120 = .ok (.iconst 5, 1) := by decide +kernel
theorem dX2_likes_121 : decode cX2_likes 121 = .ok (.iadd, 1) := by decide +kernel
theorem dX2_likes_122 : decode cX2_likes 122 = .ok (.ireturn, 1) := by decide +kernel
theorem dX2_likes_123 : decode cX2_likes 123 = .ok (.iload_n 3, 1) := by decide +kernel
theorem dX2_likes_124 : decode cX2_likes 124 = .ok (.ifCond .eq 11, 3) := by decide +kernel
theorem dX2_likes_127 : decode cX2_likes 127 = .ok (.aload_n 0, 1) := by decide +kernel
theorem dX2_likes_128 : decode cX2_likes 128 = .ok (.iload_n 2, 1) := by decide +kernel
theorem dX2_likes_129 : decode cX2_likes 129 = .ok (.invokevirtual 179, 3) := by decide +kernel
theorem dX2_likes_132 : decode cX2_likes 132 = .ok (.goto 4, 3) := by decide +kernel
theorem dX2_likes_135 : decode cX2_likes 135 = .ok (.iconst 0, 1) := by decide +kernel
theorem dX2_likes_136 : decode cX2_likes 136 = .ok (.ireturn, 1) := by decide +kernel
theorem dX2_likes_137 : decode cX2_likes 137 = .ok (.iconst 2, 1) := by decide +kernel
theorem dX2_likes_138 : decode cX2_likes 138 = .ok (.iload 4, 2) := by decide +kernel
theorem dX2_likes_140 : decode cX2_likes 140 = .ok (.iconst 5, 1) := by decide +kernel
theorem dX2_likes_141 : decode cX2_likes 141 = .ok (.iadd, 1) := by decide +kernel
theorem dX2_likes_142 : decode cX2_likes 142 = .ok (.imul, 1) := by decide +kernel
theorem dX2_likes_143 : decode cX2_likes 143 = .ok (.ireturn, 1) := by decide +kernel
theorem dX2_likes_144 : decode cX2_likes 144 = .ok (.iload 4, 2) := by decide +kernel
theorem dX2_likes_146 : decode cX2_likes 146 = .ok (.ireturn, 1) := by decide +kernel
set_option maxRecDepth 20000 in
theorem ggX2_bidOf_X2_likes : GoodIn wsX2_bidOf wsX2_likes := goodIn_r _ [6, 7, 8, 9, 10, 11, 12, 5, 13, 14, 15, 16, 17, 18, 19, 20, 21, 22, 23, 24, 25, 26, 27, 28, 29, 30, 31, 32, 33, 34, 35, 36, 37, 38, 39, 40, 41, 42, 43, 44, 45, 46, 47, 48, 49, 50, 51, 52, 53, 54, 55, 56, 57] (by decide +kernel) (by decide +kernel)
set_option maxRecDepth 20000 in
theorem gX2_bidOf_X2_likes : GoodIn wsX2_bidOf (wsV RX2 185 RX2 yX2_likes wsX2_likes) := goodIn_app (goodIn_of _ (by decide +kernel)) ggX2_bidOf_X2_likes
theorem dX2_bidOf_0 : decode cX2_bidOf 0 = .ok (.aload_n 0, 1) := by decide +kernel
theorem dX2_bidOf_1 : decode cX2_bidOf 1 = .ok (.iload_n 1, 1) := by decide +kernel
theorem dX2_bidOf_2 : decode cX2_bidOf 2 = .ok (.iload_n 2, 1) := by decide +kernel
theorem dX2_bidOf_3 : decode cX2_bidOf 3 = .ok (.invokevirtual 185, 3) := by decide +kernel
theorem dX2_bidOf_6 : decode cX2_bidOf 6 = .ok (.aload_n 0, 1) := by decide +kernel
theorem dX2_bidOf_7 : decode cX2_bidOf 7 = .ok (.getfield 37, 3) := by decide +kernel
theorem dX2_bidOf_10 : decode cX2_bidOf 10 = .ok (.iload_n 1, 1) := by decide +kernel
theorem dX2_bidOf_11 : decode cX2_bidOf 11 = .ok (.iaload, 1) := by decide +kernel
theorem dX2_bidOf_12 : decode cX2_bidOf 12 = .ok (.if_icmp .ge 12, 3) := by decide +kernel
theorem dX2_bidOf_15 : decode cX2_bidOf 15 = .ok (.aload_n 0, 1) := by decide +kernel
theorem dX2_bidOf_16 : decode cX2_bidOf 16 = .ok (.iload_n 1, 1) := by decide +kernel
theorem dX2_bidOf_17 : decode cX2_bidOf 17 = .ok (.iload_n 2, 1) := by decide +kernel
theorem dX2_bidOf_18 : decode cX2_bidOf 18 = .ok (.invokevirtual 185, 3) := by decide +kernel
theorem dX2_bidOf_21 : decode cX2_bidOf 21 = .ok (.goto 9, 3) := by decide +kernel
theorem dX2_bidOf_24 : decode cX2_bidOf 24 = .ok (.aload_n 0, 1) := by decide +kernel
theorem dX2_bidOf_25 : decode cX2_bidOf 25 = .ok (.getfield 37, 3) := by decide +kernel
theorem dX2_bidOf_28 : decode cX2_bidOf 28 = .ok (.iload_n 1, 1) := by decide +kernel
theorem dX2_bidOf_29 : decode cX2_bidOf 29 = .ok (.iaload, 1) := by decide +kernel
theorem dX2_bidOf_30 : decode cX2_bidOf 30 = .ok (.ireturn, 1) := by decide +kernel
set_option maxRecDepth 20000 in
theorem ggX2_bidNow_X2_has : GoodIn wsX2_bidNow wsX2_has := goodIn_r _ [5] (by decide +kernel) (by decide +kernel)
set_option maxRecDepth 20000 in
theorem gX2_bidNow_X2_has : GoodIn wsX2_bidNow (va_wsS RX2 192 yX2_has wsX2_has) := goodIn_app (goodIn_of _ (by decide +kernel)) ggX2_bidNow_X2_has
set_option maxRecDepth 20000 in
theorem ggX2_bidNow_X2_bidOf : GoodIn wsX2_bidNow wsX2_bidOf := goodIn_r _ [9, 10, 11, 12, 13, 4, 14, 15, 16, 17, 18, 19, 20, 21, 22, 23, 24, 25, 26, 27, 28, 29, 30, 31, 32, 33, 34, 35, 36, 37, 38, 39, 40, 41, 42, 43, 44, 45, 46, 47, 48, 49, 50, 51, 52, 53, 54, 55, 56, 57, 58, 59, 60, 61, 62, 63, 64, 65] (by decide +kernel) (by decide +kernel)
set_option maxRecDepth 20000 in
theorem gX2_bidNow_X2_bidOf : GoodIn wsX2_bidNow (wsV RX2 195 RX2 yX2_bidOf wsX2_bidOf) := goodIn_app (goodIn_of _ (by decide +kernel)) ggX2_bidNow_X2_bidOf
theorem dX2_bidNow_0 : decode cX2_bidNow 0 = .ok (.aload_n 0, 1) := by decide +kernel
theorem dX2_bidNow_1 : decode cX2_bidNow 1 = .ok (.getfield 189, 3) := by decide +kernel
theorem dX2_bidNow_4 : decode cX2_bidNow 4 = .ok (.iload_n 1, 1) := by decide +kernel
theorem dX2_bidNow_5 : decode cX2_bidNow 5 = .ok (.invokestatic 192, 3) := by decide +kernel
theorem dX2_bidNow_8 : decode cX2_bidNow 8 = .ok (.ifCond .eq 7, 3) := by decide +kernel
theorem dX2_bidNow_11 : decode cX2_bidNow 11 = .ok (.iconst 0, 1) := by decide +kernel
theorem dX2_bidNow_12 : decode cX2_bidNow 12 = .ok (.goto 9, 3) := by decide +kernel
theorem dX2_bidNow_15 : decode cX2_bidNow 15 = .ok (.aload_n 0, 1) := by decide +kernel
theorem dX2_bidNow_16 : decode cX2_bidNow 16 = .ok (.iload_n 1, 1) := by decide +kernel
theorem dX2_bidNow_17 : decode cX2_bidNow 17 = .ok (.iload_n 2, 1) := by decide +kernel
theorem dX2_bidNow_18 : decode cX2_bidNow 18 = .ok (.invokevirtual 195, 3) := by decide +kernel
theorem dX2_bidNow_21 : decode cX2_bidNow 21 = .ok (.ireturn, 1) := by decide +kernel
set_option maxRecDepth 20000 in
theorem ggX2_getter_X2_bidNow : GoodIn wsX2_getter wsX2_bidNow := goodIn_r _ [6, 7, 8, 9, 5, 10, 11, 12, 13, 14, 15, 16, 17, 18, 19, 20, 21, 22, 23, 24, 25, 26, 27, 28, 29, 30, 31, 32, 33, 34, 35, 36, 37, 38, 1, 39, 40, 41, 42, 43, 44, 45, 46, 47, 48, 49, 50, 51, 52, 53, 54, 55, 56, 57, 58, 59, 60, 61, 62, 63, 64, 65, 66, 67, 68, 69] (by decide +kernel) (by decide +kernel)
set_option maxRecDepth 20000 in
theorem gX2_getter_X2_bidNow : GoodIn wsX2_getter (wsV RX2 198 RX2 yX2_bidNow wsX2_bidNow) := goodIn_app (goodIn_of _ (by decide +kernel)) ggX2_getter_X2_bidNow
theorem dX2_getter_0 : decode cX2_getter 0 = .ok (.bipush (-9), 2) := by decide +kernel
theorem dX2_getter_2 : decode cX2_getter 2 = .ok (.istore_n 2, 1) := by decide +kernel
theorem dX2_getter_3 : decode cX2_getter 3 = .ok (.iconst 0, 1) := by decide +kernel
theorem dX2_getter_4 : decode cX2_getter 4 = .ok (.istore_n 3, 1) := by decide +kernel
theorem dX2_getter_5 : decode cX2_getter 5 = .ok (.iload_n 3, 1) := by decide +kernel
theorem dX2_getter_6 : decode cX2_getter 6 = .ok (.aload_n 0, 1) := by decide +kernel
theorem dX2_getter_7 : decode cX2_getter 7 = .ok (.getfield 73, 3) := by decide +kernel
theorem dX2_getter_10 : decode cX2_getter 10 = .ok (.if_icmp .ge 34, 3) := by decide +kernel
theorem dX2_getter_13 : decode cX2_getter 13 = .ok (.aload_n 0, 1) := by decide +kernel
theorem dX2_getter_14 : decode cX2_getter 14 = .ok (.iload_n 3, 1) := by decide +kernel
theorem dX2_getter_15 : decode cX2_getter 15 = .ok (.iload_n 1, 1) := by decide +kernel
theorem dX2_getter_16 : decode cX2_getter 16 = .ok (.invokevirtual 198, 3) := by decide +kernel
theorem dX2_getter_19 : decode cX2_getter 19 = .ok (.iload_n 2, 1) := by decide +kernel
theorem dX2_getter_20 : decode cX2_getter 20 = .ok (.ifCond .ge 7, 3) := by decide +kernel
theorem dX2_getter_23 : decode cX2_getter 23 = .ok (.iconst 0, 1) := by decide +kernel
theorem dX2_getter_24 : decode cX2_getter 24 = .ok (.goto 9, 3) := by decide +kernel
theorem dX2_getter_27 : decode cX2_getter 27 = .ok (.aload_n 0, 1) := by decide +kernel
theorem dX2_getter_28 : decode cX2_getter 28 = .ok (.iload_n 2, 1) := by decide +kernel
theorem dX2_getter_29 : decode cX2_getter 29 = .ok (.iload_n 1, 1) := by decide +kernel
theorem dX2_getter_30 : decode cX2_getter 30 = .ok (.invokevirtual 198, 3) := by decide +kernel
theorem dX2_getter_33 : decode cX2_getter 33 = .ok (.if_icmp .le 5, 3) := by decide +kernel
theorem dX2_getter_36 : decode cX2_getter 36 = .ok (.iload_n 3, 1) := by decide +kernel
theorem dX2_getter_37 : decode cX2_getter 37 = .ok (.istore_n 2, 1) := by decide +kernel
theorem dX2_getter_38 : decode cX2_getter 38 = .ok (.iinc 3 1, 3) := by decide +kernel
theorem dX2_getter_41 : decode cX2_getter 41 = .ok (.goto (-36), 3) := by decide +kernel
theorem dX2_getter_44 : decode cX2_getter 44 = .ok (.iload_n 2, 1) := by decide +kernel
theorem dX2_getter_45 : decode cX2_getter 45 = .ok (.ireturn, 1) := by decide +kernel
set_option maxRecDepth 20000 in
theorem ggX2_priceFor_X2_bidNow : GoodIn wsX2_priceFor wsX2_bidNow := goodIn_r _ [6, 7, 8, 9, 5, 10, 11, 12, 13, 14, 15, 16, 17, 18, 19, 20, 21, 22, 23, 24, 25, 26, 27, 28, 29, 30, 31, 32, 33, 34, 35, 36, 37, 38, 1, 39, 40, 41, 42, 43, 44, 45, 46, 47, 48, 49, 50, 51, 52, 53, 54, 55, 56, 57, 58, 59, 60, 61, 62, 63, 64, 65, 66, 67, 68, 69] (by decide +kernel) (by decide +kernel)
set_option maxRecDepth 20000 in
theorem gX2_priceFor_X2_bidNow : GoodIn wsX2_priceFor (wsV RX2 198 RX2 yX2_bidNow wsX2_bidNow) := goodIn_app (goodIn_of _ (by decide +kernel)) ggX2_priceFor_X2_bidNow
theorem dX2_priceFor_0 : decode cX2_priceFor 0 = .ok (.iconst 0, 1) := by decide +kernel
theorem dX2_priceFor_1 : decode cX2_priceFor 1 = .ok (.istore_n 3, 1) := by decide +kernel
theorem dX2_priceFor_2 : decode cX2_priceFor 2 = .ok (.iconst 0, 1) := by decide +kernel
theorem dX2_priceFor_3 : decode cX2_priceFor 3 = .ok (.istore 4, 2) := by decide +kernel
theorem dX2_priceFor_5 : decode cX2_priceFor 5 = .ok (.iload 4, 2) := by decide +kernel
theorem dX2_priceFor_7 : decode cX2_priceFor 7 = .ok (.aload_n 0, 1) := by decide +kernel
theorem dX2_priceFor_8 : decode cX2_priceFor 8 = .ok (.getfield 73, 3) := by decide +kernel
theorem dX2_priceFor_11 : decode cX2_priceFor 11 = .ok (.if_icmp .ge 38, 3) := by decide +kernel
theorem dX2_priceFor_14 : decode cX2_priceFor 14 = .ok (.iload 4, 2) := by decide +kernel
theorem dX2_priceFor_16 : decode cX2_priceFor 16 = .ok (.iload_n 1, 1) := by decide +kernel
theorem dX2_priceFor_17 : decode cX2_priceFor 17 = .ok (.if_icmp .eq 24, 3) := by decide +kernel
theorem dX2_priceFor_20 : decode cX2_priceFor 20 = .ok (.aload_n 0, 1) := by decide +kernel
theorem dX2_priceFor_21 : decode cX2_priceFor 21 = .ok (.iload 4, 2) := by decide +kernel
theorem dX2_priceFor_23 : decode cX2_priceFor 23 = .ok (.iload_n 2, 1) := by decide +kernel
theorem dX2_priceFor_24 : decode cX2_priceFor 24 = .ok (.invokevirtual 198, 3) := by decide +kernel
theorem dX2_priceFor_27 : decode cX2_priceFor 27 = .ok (.iload_n 3, 1) := by decide +kernel
theorem dX2_priceFor_28 : decode cX2_priceFor 28 = .ok (.if_icmp .le 13, 3) := by decide +kernel
theorem dX2_priceFor_31 : decode cX2_priceFor 31 = .ok (.aload_n 0, 1) := by decide +kernel
theorem dX2_priceFor_32 : decode cX2_priceFor 32 = .ok (.iload 4, 2) := by decide +kernel
theorem dX2_priceFor_34 : decode cX2_priceFor 34 = .ok (.iload_n 2, 1) := by decide +kernel
theorem dX2_priceFor_35 : decode cX2_priceFor 35 = .ok (.invokevirtual 198, 3) := by decide +kernel
theorem dX2_priceFor_38 : decode cX2_priceFor 38 = .ok (.goto 4, 3) := by decide +kernel
theorem dX2_priceFor_41 : decode cX2_priceFor 41 = .ok (.iload_n 3, 1) := by decide +kernel
theorem dX2_priceFor_42 : decode cX2_priceFor 42 = .ok (.istore_n 3, 1) := by decide +kernel
theorem dX2_priceFor_43 : decode cX2_priceFor 43 = .ok (.iinc 4 1, 3) := by decide +kernel
theorem dX2_priceFor_46 : decode cX2_priceFor 46 = .ok (.goto (-41), 3) := by decide +kernel
theorem dX2_priceFor_49 : decode cX2_priceFor 49 = .ok (.iload_n 3, 1) := by decide +kernel
theorem dX2_priceFor_50 : decode cX2_priceFor 50 = .ok (.iconst 1, 1) := by decide +kernel
theorem dX2_priceFor_51 : decode cX2_priceFor 51 = .ok (.iadd, 1) := by decide +kernel
theorem dX2_priceFor_52 : decode cX2_priceFor 52 = .ok (.aload_n 0, 1) := by decide +kernel
theorem dX2_priceFor_53 : decode cX2_priceFor 53 = .ok (.iload_n 1, 1) := by decide +kernel
theorem dX2_priceFor_54 : decode cX2_priceFor 54 = .ok (.iload_n 2, 1) := by decide +kernel
theorem dX2_priceFor_55 : decode cX2_priceFor 55 = .ok (.invokevirtual 198, 3) := by decide +kernel
theorem dX2_priceFor_58 : decode cX2_priceFor 58 = .ok (.if_icmp .ge 9, 3) := by decide +kernel
theorem dX2_priceFor_61 : decode cX2_priceFor 61 = .ok (.iload_n 3, 1) := by decide +kernel
theorem dX2_priceFor_62 : decode cX2_priceFor 62 = .ok (.iconst 1, 1) := by decide +kernel
theorem dX2_priceFor_63 : decode cX2_priceFor 63 = .ok (.iadd, 1) := by decide +kernel
theorem dX2_priceFor_64 : decode cX2_priceFor 64 = .ok (.goto 9, 3) := by decide +kernel
theorem dX2_priceFor_67 : decode cX2_priceFor 67 = .ok (.aload_n 0, 1) := by decide +kernel
theorem dX2_priceFor_68 : decode cX2_priceFor 68 = .ok (.iload_n 1, 1) := by decide +kernel
theorem dX2_priceFor_69 : decode cX2_priceFor 69 = .ok (.iload_n 2, 1) := by decide +kernel
theorem dX2_priceFor_70 : decode cX2_priceFor 70 = .ok (.invokevirtual 198, 3) := by decide +kernel
theorem dX2_priceFor_73 : decode cX2_priceFor 73 = .ok (.ireturn, 1) := by decide +kernel
set_option maxRecDepth 20000 in
theorem ggX2_sellsOne_X2_getter : GoodIn wsX2_sellsOne wsX2_getter := goodIn_r _ [10, 11, 12, 13, 14, 9, 15, 16, 17, 18, 19, 20, 21, 22, 23, 1, 24, 25, 26, 27, 4, 28, 29, 30, 31, 32, 33, 34, 35, 36, 37, 38, 39, 40, 5, 41, 42, 43, 44, 52, 53, 54, 55, 56, 57, 58, 59, 60, 61, 62, 63, 64, 65, 66, 67, 68, 69, 70, 71, 72, 73, 74, 75, 76, 77, 78, 79, 80, 81, 82] (by decide +kernel) (by decide +kernel)
set_option maxRecDepth 20000 in
theorem gX2_sellsOne_X2_getter : GoodIn wsX2_sellsOne (wsV RX2 201 RX2 yX2_getter wsX2_getter) := goodIn_app (goodIn_of _ (by decide +kernel)) ggX2_sellsOne_X2_getter
set_option maxRecDepth 20000 in
theorem ggX2_sellsOne_X2_priceFor : GoodIn wsX2_sellsOne wsX2_priceFor := goodIn_r _ [48, 11, 12, 13, 14, 9, 15, 16, 17, 18, 19, 20, 21, 22, 23, 1, 24, 25, 26, 27, 4, 28, 29, 30, 31, 32, 33, 34, 35, 36, 37, 38, 39, 40, 5, 41, 42, 43, 44, 52, 53, 54, 55, 56, 57, 58, 59, 60, 61, 62, 63, 64, 65, 66, 67, 68, 69, 70, 71, 72, 73, 74, 75, 76, 77, 78, 79, 80, 81, 82] (by decide +kernel) (by decide +kernel)
set_option maxRecDepth 20000 in
theorem gX2_sellsOne_X2_priceFor : GoodIn wsX2_sellsOne (wsV RX2 204 RX2 yX2_priceFor wsX2_priceFor) := goodIn_app (goodIn_of _ (by decide +kernel)) ggX2_sellsOne_X2_priceFor
set_option maxRecDepth 20000 in
theorem ggX2_sellsOne_X2_worth : GoodIn wsX2_sellsOne wsX2_worth := goodIn_r _ [33, 34, 35, 36, 52, 53, 54, 55, 56, 57, 58, 59, 60, 61, 62, 63, 64, 65, 66, 67, 68, 69, 70, 71, 72, 73, 74, 75, 76, 77, 78, 79, 80, 81, 82] (by decide +kernel) (by decide +kernel)
set_option maxRecDepth 20000 in
theorem gX2_sellsOne_X2_worth : GoodIn wsX2_sellsOne (wsV RX2 179 RX2 yX2_worth wsX2_worth) := goodIn_app (goodIn_of _ (by decide +kernel)) ggX2_sellsOne_X2_worth
set_option maxRecDepth 20000 in
theorem ggX2_sellsOne_X2_held : GoodIn wsX2_sellsOne wsX2_held := goodIn_r _ [51] (by decide +kernel) (by decide +kernel)
set_option maxRecDepth 20000 in
theorem gX2_sellsOne_X2_held : GoodIn wsX2_sellsOne (va_wsS RX2 207 yX2_held wsX2_held) := goodIn_app (goodIn_of _ (by decide +kernel)) ggX2_sellsOne_X2_held
set_option maxRecDepth 20000 in
theorem ggX2_sellsOne_X2_isBidder : GoodIn wsX2_sellsOne wsX2_isBidder := goodIn_r _ [44, 11, 52, 53, 54, 55, 56, 57, 58, 59, 60, 61, 62, 63, 64, 65, 66, 67, 68, 69, 70, 71, 72, 73, 74, 75, 76, 77, 78, 79, 80, 81, 82] (by decide +kernel) (by decide +kernel)
set_option maxRecDepth 20000 in
theorem gX2_sellsOne_X2_isBidder : GoodIn wsX2_sellsOne (wsV RX2 122 RX2 yX2_isBidder wsX2_isBidder) := goodIn_app (goodIn_of _ (by decide +kernel)) ggX2_sellsOne_X2_isBidder
theorem dX2_sellsOne_0 : decode cX2_sellsOne 0 = .ok (.aload_n 0, 1) := by decide +kernel
theorem dX2_sellsOne_1 : decode cX2_sellsOne 1 = .ok (.iload_n 1, 1) := by decide +kernel
theorem dX2_sellsOne_2 : decode cX2_sellsOne 2 = .ok (.invokevirtual 201, 3) := by decide +kernel
theorem dX2_sellsOne_5 : decode cX2_sellsOne 5 = .ok (.istore_n 2, 1) := by decide +kernel
theorem dX2_sellsOne_6 : decode cX2_sellsOne 6 = .ok (.iload_n 2, 1) := by decide +kernel
theorem dX2_sellsOne_7 : decode cX2_sellsOne 7 = .ok (.ifCond .ge 6, 3) := by decide +kernel
theorem dX2_sellsOne_10 : decode cX2_sellsOne 10 = .ok (.bipush (-9), 2) := by decide +kernel
theorem dX2_sellsOne_12 : decode cX2_sellsOne 12 = .ok (.ireturn, 1) := by decide +kernel
theorem dX2_sellsOne_13 : decode cX2_sellsOne 13 = .ok (.aload_n 0, 1) := by decide +kernel
theorem dX2_sellsOne_14 : decode cX2_sellsOne 14 = .ok (.iload_n 2, 1) := by decide +kernel
theorem dX2_sellsOne_15 : decode cX2_sellsOne 15 = .ok (.iload_n 1, 1) := by decide +kernel
theorem dX2_sellsOne_16 : decode cX2_sellsOne 16 = .ok (.invokevirtual 204, 3) := by decide +kernel
theorem dX2_sellsOne_19 : decode cX2_sellsOne 19 = .ok (.istore_n 3, 1) := by decide +kernel
theorem dX2_sellsOne_20 : decode cX2_sellsOne 20 = .ok (.aload_n 0, 1) := by decide +kernel
theorem dX2_sellsOne_21 : decode cX2_sellsOne 21 = .ok (.iload_n 1, 1) := by decide +kernel
theorem dX2_sellsOne_22 : decode cX2_sellsOne 22 = .ok (.invokevirtual 179, 3) := by decide +kernel
theorem dX2_sellsOne_25 : decode cX2_sellsOne 25 = .ok (.iconst 4, 1) := by decide +kernel
theorem dX2_sellsOne_26 : decode cX2_sellsOne 26 = .ok (.idiv, 1) := by decide +kernel
theorem dX2_sellsOne_27 : decode cX2_sellsOne 27 = .ok (.iconst 1, 1) := by decide +kernel
theorem dX2_sellsOne_28 : decode cX2_sellsOne 28 = .ok (.iadd, 1) := by decide +kernel
theorem dX2_sellsOne_29 : decode cX2_sellsOne 29 = .ok (.istore 4, 2) := by decide +kernel
theorem dX2_sellsOne_31 : decode cX2_sellsOne 31 = .ok (.aload_n 0, 1) := by decide +kernel
theorem dX2_sellsOne_32 : decode cX2_sellsOne 32 = .ok (.getfield 37, 3) := by decide +kernel
theorem dX2_sellsOne_35 : decode cX2_sellsOne 35 = .ok (.iload_n 2, 1) := by decide +kernel
theorem dX2_sellsOne_36 : decode cX2_sellsOne 36 = .ok (.dup2, 1) := by decide +kernel
theorem dX2_sellsOne_37 : decode cX2_sellsOne 37 = .ok (.iaload, 1) := by decide +kernel
theorem dX2_sellsOne_38 : decode cX2_sellsOne 38 = .ok (.iload_n 3, 1) := by decide +kernel
theorem dX2_sellsOne_39 : decode cX2_sellsOne 39 = .ok (.isub, 1) := by decide +kernel
theorem dX2_sellsOne_40 : decode cX2_sellsOne 40 = .ok (.iastore, 1) := by decide +kernel
theorem dX2_sellsOne_41 : decode cX2_sellsOne 41 = .ok (.aload_n 0, 1) := by decide +kernel
theorem dX2_sellsOne_42 : decode cX2_sellsOne 42 = .ok (.getfield 58, 3) := by decide +kernel
theorem dX2_sellsOne_45 : decode cX2_sellsOne 45 = .ok (.iload_n 2, 1) := by decide +kernel
theorem dX2_sellsOne_46 : decode cX2_sellsOne 46 = .ok (.dup2, 1) := by decide +kernel
theorem dX2_sellsOne_47 : decode cX2_sellsOne 47 = .ok (.iaload, 1) := by decide +kernel
theorem dX2_sellsOne_48 : decode cX2_sellsOne 48 = .ok (.iload_n 3, 1) := by decide +kernel
theorem dX2_sellsOne_49 : decode cX2_sellsOne 49 = .ok (.iadd, 1) := by decide +kernel
theorem dX2_sellsOne_50 : decode cX2_sellsOne 50 = .ok (.iastore, 1) := by decide +kernel
theorem dX2_sellsOne_51 : decode cX2_sellsOne 51 = .ok (.aload_n 0, 1) := by decide +kernel
theorem dX2_sellsOne_52 : decode cX2_sellsOne 52 = .ok (.getfield 25, 3) := by decide +kernel
theorem dX2_sellsOne_55 : decode cX2_sellsOne 55 = .ok (.iload_n 1, 1) := by decide +kernel
theorem dX2_sellsOne_56 : decode cX2_sellsOne 56 = .ok (.iload_n 2, 1) := by decide +kernel
theorem dX2_sellsOne_57 : decode cX2_sellsOne 57 = .ok (.iconst 1, 1) := by decide +kernel
theorem dX2_sellsOne_58 : decode cX2_sellsOne 58 = .ok (.iadd, 1) := by decide +kernel
theorem dX2_sellsOne_59 : decode cX2_sellsOne 59 = .ok (.iastore, 1) := by decide +kernel
theorem dX2_sellsOne_60 : decode cX2_sellsOne 60 = .ok (.aload_n 0, 1) := by decide +kernel
theorem dX2_sellsOne_61 : decode cX2_sellsOne 61 = .ok (.getfield 19, 3) := by decide +kernel
theorem dX2_sellsOne_64 : decode cX2_sellsOne 64 = .ok (.iload_n 1, 1) := by decide +kernel
theorem dX2_sellsOne_65 : decode cX2_sellsOne 65 = .ok (.iaload, 1) := by decide +kernel
theorem dX2_sellsOne_66 : decode cX2_sellsOne 66 = .ok (.iload_n 2, 1) := by decide +kernel
theorem dX2_sellsOne_67 : decode cX2_sellsOne 67 = .ok (.if_icmp .ne 25, 3) := by decide +kernel
theorem dX2_sellsOne_70 : decode cX2_sellsOne 70 = .ok (.aload_n 0, 1) := by decide +kernel
theorem dX2_sellsOne_71 : decode cX2_sellsOne 71 = .ok (.getfield 40, 3) := by decide +kernel
theorem dX2_sellsOne_74 : decode cX2_sellsOne 74 = .ok (.iload_n 2, 1) := by decide +kernel
theorem dX2_sellsOne_75 : decode cX2_sellsOne 75 = .ok (.aload_n 0, 1) := by decide +kernel
theorem dX2_sellsOne_76 : decode cX2_sellsOne 76 = .ok (.getfield 40, 3) := by decide +kernel
theorem dX2_sellsOne_79 : decode cX2_sellsOne 79 = .ok (.iload_n 2, 1) := by decide +kernel
theorem dX2_sellsOne_80 : decode cX2_sellsOne 80 = .ok (.iaload, 1) := by decide +kernel
theorem dX2_sellsOne_81 : decode cX2_sellsOne 81 = .ok (.iconst 2, 1) := by decide +kernel
theorem dX2_sellsOne_82 : decode cX2_sellsOne 82 = .ok (.iadd, 1) := by decide +kernel
theorem dX2_sellsOne_83 : decode cX2_sellsOne 83 = .ok (.bipush 99, 2) := by decide +kernel
theorem dX2_sellsOne_85 : decode cX2_sellsOne 85 = .ok (.invokestatic 207, 3) := by decide +kernel
theorem dX2_sellsOne_88 : decode cX2_sellsOne 88 = .ok (.iastore, 1) := by decide +kernel
theorem dX2_sellsOne_89 : decode cX2_sellsOne 89 = .ok (.goto 46, 3) := by decide +kernel
theorem dX2_sellsOne_92 : decode cX2_sellsOne 92 = .ok (.aload_n 0, 1) := by decide +kernel
theorem dX2_sellsOne_93 : decode cX2_sellsOne 93 = .ok (.aload_n 0, 1) := by decide +kernel
theorem dX2_sellsOne_94 : decode cX2_sellsOne 94 = .ok (.getfield 19, 3) := by decide +kernel
theorem dX2_sellsOne_97 : decode cX2_sellsOne 97 = .ok (.iload_n 1, 1) := by decide +kernel
theorem dX2_sellsOne_98 : decode cX2_sellsOne 98 = .ok (.iaload, 1) := by decide +kernel
theorem dX2_sellsOne_99 : decode cX2_sellsOne 99 = .ok (.invokevirtual 122, 3) := by decide +kernel
theorem dX2_sellsOne_102 : decode cX2_sellsOne 102 = .ok (.ifCond .eq 33, 3) := by decide +kernel
theorem dX2_sellsOne_105 : decode cX2_sellsOne 105 = .ok (.aload_n 0, 1) := by decide +kernel
theorem dX2_sellsOne_106 : decode cX2_sellsOne 106 = .ok (.getfield 40, 3) := by decide +kernel
theorem dX2_sellsOne_109 : decode cX2_sellsOne 109 = .ok (.aload_n 0, 1) := by decide +kernel
theorem dX2_sellsOne_110 : decode cX2_sellsOne 110 = .ok (.getfield 19, 3) := by decide +kernel
theorem dX2_sellsOne_113 : decode cX2_sellsOne 113 = .ok (.iload_n 1, 1) := by decide +kernel
theorem dX2_sellsOne_114 : decode cX2_sellsOne 114 = .ok (.iaload, 1) := by decide +kernel
theorem dX2_sellsOne_115 : decode cX2_sellsOne 115 = .ok (.aload_n 0, 1) := by decide +kernel
theorem dX2_sellsOne_116 : decode cX2_sellsOne 116 = .ok (.getfield 40, 3) := by decide +kernel
theorem dX2_sellsOne_119 : decode cX2_sellsOne 119 = .ok (.aload_n 0, 1) := by decide +kernel
theorem dX2_sellsOne_120 : decode cX2_sellsOne 120 = .ok (.getfield 19, 3) := by decide +kernel
theorem dX2_sellsOne_123 : decode cX2_sellsOne 123 = .ok (.iload_n 1, 1) := by decide +kernel
theorem dX2_sellsOne_124 : decode cX2_sellsOne 124 = .ok (.iaload, 1) := by decide +kernel
theorem dX2_sellsOne_125 : decode cX2_sellsOne 125 = .ok (.iaload, 1) := by decide +kernel
theorem dX2_sellsOne_126 : decode cX2_sellsOne 126 = .ok (.iload 4, 2) := by decide +kernel
theorem dX2_sellsOne_128 : decode cX2_sellsOne 128 = .ok (.isub, 1) := by decide +kernel
theorem dX2_sellsOne_129 : decode cX2_sellsOne 129 = .ok (.bipush 99, 2) := by decide +kernel
theorem dX2_sellsOne_131 : decode cX2_sellsOne 131 = .ok (.invokestatic 207, 3) := by decide +kernel
theorem dX2_sellsOne_134 : decode cX2_sellsOne 134 = .ok (.iastore, 1) := by decide +kernel
theorem dX2_sellsOne_135 : decode cX2_sellsOne 135 = .ok (.iload_n 2, 1) := by decide +kernel
theorem dX2_sellsOne_136 : decode cX2_sellsOne 136 = .ok (.ireturn, 1) := by decide +kernel
set_option maxRecDepth 20000 in
theorem ggX2_goesMonth_X2_sellsOne : GoodIn wsX2_goesMonth wsX2_sellsOne := goodIn_r _ [12, 7, 13, 3, 14, 15, 16, 17, 18, 11, 19, 6, 20, 21, 22, 23, 24, 25, 26, 27, 28, 29, 30, 31, 32, 33, 34, 35, 36, 37, 38, 39, 40, 41, 42, 5, 43, 44, 45, 46, 47, 48, 49, 50, 51, 52, 53, 54, 55, 56, 57, 58, 59, 60, 61, 62, 63, 64, 65, 66, 67, 68, 69, 70, 71, 72, 73, 74, 75, 76, 77, 78, 79, 80, 81, 82, 83, 84, 85, 86, 87, 88, 89] (by decide +kernel) (by decide +kernel)
set_option maxRecDepth 20000 in
theorem gX2_goesMonth_X2_sellsOne : GoodIn wsX2_goesMonth (wsV RX2 210 RX2 yX2_sellsOne wsX2_sellsOne) := goodIn_app (goodIn_of _ (by decide +kernel)) ggX2_goesMonth_X2_sellsOne
set_option maxRecDepth 20000 in
theorem ggX2_goesMonth_X2_held : GoodIn wsX2_goesMonth wsX2_held := goodIn_r _ [58] (by decide +kernel) (by decide +kernel)
set_option maxRecDepth 20000 in
theorem gX2_goesMonth_X2_held : GoodIn wsX2_goesMonth (va_wsS RX2 207 yX2_held wsX2_held) := goodIn_app (goodIn_of _ (by decide +kernel)) ggX2_goesMonth_X2_held
theorem dX2_goesMonth_0 : decode cX2_goesMonth 0 = .ok (.aload_n 0, 1) := by decide +kernel
theorem dX2_goesMonth_1 : decode cX2_goesMonth 1 = .ok (.dup, 1) := by decide +kernel
theorem dX2_goesMonth_2 : decode cX2_goesMonth 2 = .ok (.getfield 129, 3) := by decide +kernel
theorem dX2_goesMonth_5 : decode cX2_goesMonth 5 = .ok (.iconst 1, 1) := by decide +kernel
theorem dX2_goesMonth_6 : decode cX2_goesMonth 6 = .ok (.iadd, 1) := by decide +kernel
theorem dX2_goesMonth_7 : decode cX2_goesMonth 7 = .ok (.putfield 129, 3) := by decide +kernel
theorem dX2_goesMonth_10 : decode cX2_goesMonth 10 = .ok (.iconst 0, 1) := by decide +kernel
theorem dX2_goesMonth_11 : decode cX2_goesMonth 11 = .ok (.istore_n 2, 1) := by decide +kernel
theorem dX2_goesMonth_12 : decode cX2_goesMonth 12 = .ok (.iload_n 2, 1) := by decide +kernel
theorem dX2_goesMonth_13 : decode cX2_goesMonth 13 = .ok (.aload_n 0, 1) := by decide +kernel
theorem dX2_goesMonth_14 : decode cX2_goesMonth 14 = .ok (.getfield 67, 3) := by decide +kernel
theorem dX2_goesMonth_17 : decode cX2_goesMonth 17 = .ok (.if_icmp .ge 38, 3) := by decide +kernel
theorem dX2_goesMonth_20 : decode cX2_goesMonth 20 = .ok (.iload_n 1, 1) := by decide +kernel
theorem dX2_goesMonth_21 : decode cX2_goesMonth 21 = .ok (.ifCond .ne 34, 3) := by decide +kernel
theorem dX2_goesMonth_24 : decode cX2_goesMonth 24 = .ok (.aload_n 0, 1) := by decide +kernel
theorem dX2_goesMonth_25 : decode cX2_goesMonth 25 = .ok (.getfield 25, 3) := by decide +kernel
theorem dX2_goesMonth_28 : decode cX2_goesMonth 28 = .ok (.aload_n 0, 1) := by decide +kernel
theorem dX2_goesMonth_29 : decode cX2_goesMonth 29 = .ok (.getfield 28, 3) := by decide +kernel
theorem dX2_goesMonth_32 : decode cX2_goesMonth 32 = .ok (.iload_n 2, 1) := by decide +kernel
theorem dX2_goesMonth_33 : decode cX2_goesMonth 33 = .ok (.iaload, 1) := by decide +kernel
theorem dX2_goesMonth_34 : decode cX2_goesMonth 34 = .ok (.iaload, 1) := by decide +kernel
theorem dX2_goesMonth_35 : decode cX2_goesMonth 35 = .ok (.ifCond .ne 14, 3) := by decide +kernel
theorem dX2_goesMonth_38 : decode cX2_goesMonth 38 = .ok (.aload_n 0, 1) := by decide +kernel
theorem dX2_goesMonth_39 : decode cX2_goesMonth 39 = .ok (.aload_n 0, 1) := by decide +kernel
theorem dX2_goesMonth_40 : decode cX2_goesMonth 40 = .ok (.getfield 28, 3) := by decide +kernel
theorem dX2_goesMonth_43 : decode cX2_goesMonth 43 = .ok (.iload_n 2, 1) := by decide +kernel
theorem dX2_goesMonth_44 : decode cX2_goesMonth 44 = .ok (.iaload, 1) := by decide +kernel
theorem dX2_goesMonth_45 : decode cX2_goesMonth 45 = .ok (.invokevirtual 210, 3) := by decide +kernel
theorem dX2_goesMonth_48 : decode cX2_goesMonth 48 = .ok (.pop, 1) := by decide +kernel
theorem dX2_goesMonth_49 : decode cX2_goesMonth 49 = .ok (.iinc 2 1, 3) := by decide +kernel
theorem dX2_goesMonth_52 : decode cX2_goesMonth 52 = .ok (.goto (-40), 3) := by decide +kernel
theorem dX2_goesMonth_55 : decode cX2_goesMonth 55 = .ok (.iconst 0, 1) := by decide +kernel
theorem dX2_goesMonth_56 : decode cX2_goesMonth 56 = .ok (.istore_n 2, 1) := by decide +kernel
theorem dX2_goesMonth_57 : decode cX2_goesMonth 57 = .ok (.iload_n 2, 1) := by decide +kernel
theorem dX2_goesMonth_58 : decode cX2_goesMonth 58 = .ok (.aload_n 0, 1) := by decide +kernel
theorem dX2_goesMonth_59 : decode cX2_goesMonth 59 = .ok (.getfield 67, 3) := by decide +kernel
theorem dX2_goesMonth_62 : decode cX2_goesMonth 62 = .ok (.if_icmp .ge 46, 3) := by decide +kernel
theorem dX2_goesMonth_65 : decode cX2_goesMonth 65 = .ok (.aload_n 0, 1) := by decide +kernel
theorem dX2_goesMonth_66 : decode cX2_goesMonth 66 = .ok (.getfield 22, 3) := by decide +kernel
theorem dX2_goesMonth_69 : decode cX2_goesMonth 69 = .ok (.iload_n 2, 1) := by decide +kernel
theorem dX2_goesMonth_70 : decode cX2_goesMonth 70 = .ok (.aload_n 0, 1) := by decide +kernel
theorem dX2_goesMonth_71 : decode cX2_goesMonth 71 = .ok (.getfield 25, 3) := by decide +kernel
theorem dX2_goesMonth_74 : decode cX2_goesMonth 74 = .ok (.iload_n 2, 1) := by decide +kernel
theorem dX2_goesMonth_75 : decode cX2_goesMonth 75 = .ok (.iaload, 1) := by decide +kernel
theorem dX2_goesMonth_76 : decode cX2_goesMonth 76 = .ok (.ifCond .ne 19, 3) := by decide +kernel
theorem dX2_goesMonth_79 : decode cX2_goesMonth 79 = .ok (.aload_n 0, 1) := by decide +kernel
theorem dX2_goesMonth_80 : decode cX2_goesMonth 80 = .ok (.getfield 22, 3) := by decide +kernel
theorem dX2_goesMonth_83 : decode cX2_goesMonth 83 = .ok (.iload_n 2, 1) := by decide +kernel
theorem dX2_goesMonth_84 : decode cX2_goesMonth 84 = .ok (.iaload, 1) := by decide +kernel
theorem dX2_goesMonth_85 : decode cX2_goesMonth 85 = .ok (.iconst 1, 1) := by decide +kernel
theorem dX2_goesMonth_86 : decode cX2_goesMonth 86 = .ok (.iadd, 1) := by decide +kernel
theorem dX2_goesMonth_87 : decode cX2_goesMonth 87 = .ok (.bipush 99, 2) := by decide +kernel
theorem dX2_goesMonth_89 : decode cX2_goesMonth 89 = .ok (.invokestatic 207, 3) := by decide +kernel
theorem dX2_goesMonth_92 : decode cX2_goesMonth 92 = .ok (.goto 9, 3) := by decide +kernel
theorem dX2_goesMonth_95 : decode cX2_goesMonth 95 = .ok (.aload_n 0, 1) := by decide +kernel
theorem dX2_goesMonth_96 : decode cX2_goesMonth 96 = .ok (.getfield 22, 3) := by decide +kernel
theorem dX2_goesMonth_99 : decode cX2_goesMonth 99 = .ok (.iload_n 2, 1) := by decide +kernel
theorem dX2_goesMonth_100 : decode cX2_goesMonth 100 = .ok (.iaload, 1) := by decide +kernel
theorem dX2_goesMonth_101 : decode cX2_goesMonth 101 = .ok (.iastore, 1) := by decide +kernel
theorem dX2_goesMonth_102 : decode cX2_goesMonth 102 = .ok (.iinc 2 1, 3) := by decide +kernel
theorem dX2_goesMonth_105 : decode cX2_goesMonth 105 = .ok (.goto (-48), 3) := by decide +kernel
theorem dX2_goesMonth_108 : decode cX2_goesMonth 108 = .ok (.iconst 0, 1) := by decide +kernel
theorem dX2_goesMonth_109 : decode cX2_goesMonth 109 = .ok (.istore_n 2, 1) := by decide +kernel
theorem dX2_goesMonth_110 : decode cX2_goesMonth 110 = .ok (.iload_n 2, 1) := by decide +kernel
theorem dX2_goesMonth_111 : decode cX2_goesMonth 111 = .ok (.aload_n 0, 1) := by decide +kernel
theorem dX2_goesMonth_112 : decode cX2_goesMonth 112 = .ok (.getfield 73, 3) := by decide +kernel
theorem dX2_goesMonth_115 : decode cX2_goesMonth 115 = .ok (.if_icmp .ge 29, 3) := by decide +kernel
theorem dX2_goesMonth_118 : decode cX2_goesMonth 118 = .ok (.aload_n 0, 1) := by decide +kernel
theorem dX2_goesMonth_119 : decode cX2_goesMonth 119 = .ok (.getfield 37, 3) := by decide +kernel
theorem dX2_goesMonth_122 : decode cX2_goesMonth 122 = .ok (.iload_n 2, 1) := by decide +kernel
theorem dX2_goesMonth_123 : decode cX2_goesMonth 123 = .ok (.aload_n 0, 1) := by decide +kernel
theorem dX2_goesMonth_124 : decode cX2_goesMonth 124 = .ok (.getfield 37, 3) := by decide +kernel
theorem dX2_goesMonth_127 : decode cX2_goesMonth 127 = .ok (.iload_n 2, 1) := by decide +kernel
theorem dX2_goesMonth_128 : decode cX2_goesMonth 128 = .ok (.iaload, 1) := by decide +kernel
theorem dX2_goesMonth_129 : decode cX2_goesMonth 129 = .ok (.iconst 5, 1) := by decide +kernel
theorem dX2_goesMonth_130 : decode cX2_goesMonth 130 = .ok (.iadd, 1) := by decide +kernel
theorem dX2_goesMonth_131 : decode cX2_goesMonth 131 = .ok (.sipush 999, 3) := by decide +kernel
theorem dX2_goesMonth_134 : decode cX2_goesMonth 134 = .ok (.invokestatic 207, 3) := by decide +kernel
theorem dX2_goesMonth_137 : decode cX2_goesMonth 137 = .ok (.iastore, 1) := by decide +kernel
theorem dX2_goesMonth_138 : decode cX2_goesMonth 138 = .ok (.iinc 2 1, 3) := by decide +kernel
theorem dX2_goesMonth_141 : decode cX2_goesMonth 141 = .ok (.goto (-31), 3) := by decide +kernel
theorem dX2_goesMonth_144 : decode cX2_goesMonth 144 = .ok (.return_, 1) := by decide +kernel
set_option maxRecDepth 20000 in
theorem ggX2_goes_X2_goesMonth : GoodIn wsX2_goes wsX2_goesMonth := goodIn_r _ [5, 6, 7, 8, 9, 10, 11, 12, 13, 14, 15, 4, 16, 17, 18, 19, 20, 21, 22, 23, 24, 25, 26, 27, 28, 29, 30, 31, 32, 33, 34, 35, 36, 37, 38, 39, 40, 41, 42, 43, 44, 45, 46, 47, 48, 49, 50, 51, 52, 53, 54, 55, 56, 57, 58, 59, 60, 61, 62, 63, 64, 65, 66, 67, 68, 69, 70, 71, 72, 73, 74, 75, 76, 77, 78, 79, 80, 81, 82, 83, 84, 85, 86, 87, 88, 89, 90, 91, 92, 93] (by decide +kernel) (by decide +kernel)
set_option maxRecDepth 20000 in
theorem gX2_goes_X2_goesMonth : GoodIn wsX2_goes (wsV RX2 213 RX2 yX2_goesMonth wsX2_goesMonth) := goodIn_app (goodIn_of _ (by decide +kernel)) ggX2_goes_X2_goesMonth
theorem dX2_goes_0 : decode cX2_goes 0 = .ok (.iconst 0, 1) := by decide +kernel
theorem dX2_goes_1 : decode cX2_goes 1 = .ok (.istore_n 2, 1) := by decide +kernel
theorem dX2_goes_2 : decode cX2_goes 2 = .ok (.iload_n 2, 1) := by decide +kernel
theorem dX2_goes_3 : decode cX2_goes 3 = .ok (.iload_n 1, 1) := by decide +kernel
theorem dX2_goes_4 : decode cX2_goes 4 = .ok (.if_icmp .ge 14, 3) := by decide +kernel
theorem dX2_goes_7 : decode cX2_goes 7 = .ok (.aload_n 0, 1) := by decide +kernel
theorem dX2_goes_8 : decode cX2_goes 8 = .ok (.iconst 0, 1) := by decide +kernel
theorem dX2_goes_9 : decode cX2_goes 9 = .ok (.invokevirtual 213, 3) := by decide +kernel
theorem dX2_goes_12 : decode cX2_goes 12 = .ok (.iinc 2 1, 3) := by decide +kernel
theorem dX2_goes_15 : decode cX2_goes 15 = .ok (.goto (-13), 3) := by decide +kernel
theorem dX2_goes_18 : decode cX2_goes 18 = .ok (.return_, 1) := by decide +kernel
set_option maxRecDepth 20000 in
theorem ggX2_rivals_X2_bidOf : GoodIn wsX2_rivals wsX2_bidOf := goodIn_r _ [6, 7, 8, 9, 10, 5, 11, 12, 13, 14, 15, 16, 17, 18, 19, 20, 21, 22, 23, 24, 25, 26, 27, 28, 29, 30, 1, 31, 32, 33, 34, 35, 36, 37, 38, 39, 40, 41, 42, 43, 44, 45, 46, 47, 48, 49, 50, 51, 52, 53, 54, 55, 56, 57, 58, 59, 60, 61] (by decide +kernel) (by decide +kernel)
set_option maxRecDepth 20000 in
theorem gX2_rivals_X2_bidOf : GoodIn wsX2_rivals (wsV RX2 195 RX2 yX2_bidOf wsX2_bidOf) := goodIn_app (goodIn_of _ (by decide +kernel)) ggX2_rivals_X2_bidOf
theorem dX2_rivals_0 : decode cX2_rivals 0 = .ok (.iconst 0, 1) := by decide +kernel
theorem dX2_rivals_1 : decode cX2_rivals 1 = .ok (.istore_n 2, 1) := by decide +kernel
theorem dX2_rivals_2 : decode cX2_rivals 2 = .ok (.iconst 0, 1) := by decide +kernel
theorem dX2_rivals_3 : decode cX2_rivals 3 = .ok (.istore_n 3, 1) := by decide +kernel
theorem dX2_rivals_4 : decode cX2_rivals 4 = .ok (.iload_n 3, 1) := by decide +kernel
theorem dX2_rivals_5 : decode cX2_rivals 5 = .ok (.aload_n 0, 1) := by decide +kernel
theorem dX2_rivals_6 : decode cX2_rivals 6 = .ok (.getfield 73, 3) := by decide +kernel
theorem dX2_rivals_9 : decode cX2_rivals 9 = .ok (.if_icmp .ge 26, 3) := by decide +kernel
theorem dX2_rivals_12 : decode cX2_rivals 12 = .ok (.iload_n 2, 1) := by decide +kernel
theorem dX2_rivals_13 : decode cX2_rivals 13 = .ok (.aload_n 0, 1) := by decide +kernel
theorem dX2_rivals_14 : decode cX2_rivals 14 = .ok (.iload_n 3, 1) := by decide +kernel
theorem dX2_rivals_15 : decode cX2_rivals 15 = .ok (.iload_n 1, 1) := by decide +kernel
theorem dX2_rivals_16 : decode cX2_rivals 16 = .ok (.invokevirtual 195, 3) := by decide +kernel
theorem dX2_rivals_19 : decode cX2_rivals 19 = .ok (.ifCond .le 7, 3) := by decide +kernel
theorem dX2_rivals_22 : decode cX2_rivals 22 = .ok (.iconst 1, 1) := by decide +kernel
theorem dX2_rivals_23 : decode cX2_rivals 23 = .ok (.goto 4, 3) := by decide +kernel
theorem dX2_rivals_26 : decode cX2_rivals 26 = .ok (.iconst 0, 1) := by decide +kernel
theorem dX2_rivals_27 : decode cX2_rivals 27 = .ok (.iadd, 1) := by decide +kernel
theorem dX2_rivals_28 : decode cX2_rivals 28 = .ok (.istore_n 2, 1) := by decide +kernel
theorem dX2_rivals_29 : decode cX2_rivals 29 = .ok (.iinc 3 1, 3) := by decide +kernel
theorem dX2_rivals_32 : decode cX2_rivals 32 = .ok (.goto (-28), 3) := by decide +kernel
theorem dX2_rivals_35 : decode cX2_rivals 35 = .ok (.iload_n 2, 1) := by decide +kernel
theorem dX2_rivals_36 : decode cX2_rivals 36 = .ok (.ireturn, 1) := by decide +kernel
theorem dX2_allOf_0 : decode cX2_allOf 0 = .ok (.iconst 0, 1) := by decide +kernel
theorem dX2_allOf_1 : decode cX2_allOf 1 = .ok (.istore_n 3, 1) := by decide +kernel
theorem dX2_allOf_2 : decode cX2_allOf 2 = .ok (.iconst 0, 1) := by decide +kernel
theorem dX2_allOf_3 : decode cX2_allOf 3 = .ok (.istore 4, 2) := by decide +kernel
theorem dX2_allOf_5 : decode cX2_allOf 5 = .ok (.iload 4, 2) := by decide +kernel
theorem dX2_allOf_7 : decode cX2_allOf 7 = .ok (.iload_n 2, 1) := by decide +kernel
theorem dX2_allOf_8 : decode cX2_allOf 8 = .ok (.if_icmp .ge 16, 3) := by decide +kernel
theorem dX2_allOf_11 : decode cX2_allOf 11 = .ok (.iload_n 3, 1) := by decide +kernel
theorem dX2_allOf_12 : decode cX2_allOf 12 = .ok (.aload_n 1, 1) := by decide +kernel
theorem dX2_allOf_13 : decode cX2_allOf 13 = .ok (.iload 4, 2) := by decide +kernel
theorem dX2_allOf_15 : decode cX2_allOf 15 = .ok (.iaload, 1) := by decide +kernel
theorem dX2_allOf_16 : decode cX2_allOf 16 = .ok (.iadd, 1) := by decide +kernel
theorem dX2_allOf_17 : decode cX2_allOf 17 = .ok (.istore_n 3, 1) := by decide +kernel
theorem dX2_allOf_18 : decode cX2_allOf 18 = .ok (.iinc 4 1, 3) := by decide +kernel
theorem dX2_allOf_21 : decode cX2_allOf 21 = .ok (.goto (-16), 3) := by decide +kernel
theorem dX2_allOf_24 : decode cX2_allOf 24 = .ok (.iload_n 3, 1) := by decide +kernel
theorem dX2_allOf_25 : decode cX2_allOf 25 = .ok (.ireturn, 1) := by decide +kernel
set_option maxRecDepth 20000 in
theorem ggX2_card_X2_isCard : GoodIn wsX2_card wsX2_isCard := goodIn_r _ [9, 10, 55, 56, 57, 58, 59, 60, 61, 62, 63, 64, 65, 66, 67, 68, 69, 70, 71, 72, 73, 74, 75, 76, 77, 78, 79, 80, 81, 82, 83, 84, 85] (by decide +kernel) (by decide +kernel)
set_option maxRecDepth 20000 in
theorem gX2_card_X2_isCard : GoodIn wsX2_card (wsV RX2 118 RX2 yX2_isCard wsX2_isCard) := goodIn_app (goodIn_of _ (by decide +kernel)) ggX2_card_X2_isCard
set_option maxRecDepth 20000 in
theorem ggX2_card_X2_no : GoodIn wsX2_card wsX2_no := goodIn_r _ [14, 15, 55, 56, 57, 58, 59, 60, 61, 62, 63, 64, 65, 66, 67, 68, 69, 70, 71, 72, 73, 74, 75, 76, 77, 78, 79, 80, 81, 82, 83, 84, 85] (by decide +kernel) (by decide +kernel)
set_option maxRecDepth 20000 in
theorem gX2_card_X2_no : GoodIn wsX2_card (wsV RX2 83 RX2 yX2_no wsX2_no) := goodIn_app (goodIn_of _ (by decide +kernel)) ggX2_card_X2_no
set_option maxRecDepth 20000 in
theorem ggX2_card_X2_holderOf : GoodIn wsX2_card wsX2_holderOf := goodIn_r _ [19, 20, 55, 56, 57, 58, 59, 60, 61, 62, 63, 64, 65, 66, 67, 68, 69, 70, 71, 72, 73, 74, 75, 76, 77, 78, 79, 80, 81, 82, 83, 84, 85] (by decide +kernel) (by decide +kernel)
set_option maxRecDepth 20000 in
theorem gX2_card_X2_holderOf : GoodIn wsX2_card (wsV RX2 217 RX2 yX2_holderOf wsX2_holderOf) := goodIn_app (goodIn_of _ (by decide +kernel)) ggX2_card_X2_holderOf
set_option maxRecDepth 20000 in
theorem ggX2_card_X2_worth : GoodIn wsX2_card wsX2_worth := goodIn_r _ [24, 2, 4, 1, 55, 56, 57, 58, 59, 60, 61, 62, 63, 64, 65, 66, 67, 68, 69, 70, 71, 72, 73, 74, 75, 76, 77, 78, 79, 80, 81, 82, 83, 84, 85] (by decide +kernel) (by decide +kernel)
set_option maxRecDepth 20000 in
theorem gX2_card_X2_worth : GoodIn wsX2_card (wsV RX2 179 RX2 yX2_worth wsX2_worth) := goodIn_app (goodIn_of _ (by decide +kernel)) ggX2_card_X2_worth
set_option maxRecDepth 20000 in
theorem ggX2_card_X2_placeOf : GoodIn wsX2_card wsX2_placeOf := goodIn_r _ [28, 29, 55, 56, 57, 58, 59, 60, 61, 62, 63, 64, 65, 66, 67, 68, 69, 70, 71, 72, 73, 74, 75, 76, 77, 78, 79, 80, 81, 82, 83, 84, 85] (by decide +kernel) (by decide +kernel)
set_option maxRecDepth 20000 in
theorem gX2_card_X2_placeOf : GoodIn wsX2_card (wsV RX2 176 RX2 yX2_placeOf wsX2_placeOf) := goodIn_app (goodIn_of _ (by decide +kernel)) ggX2_card_X2_placeOf
set_option maxRecDepth 20000 in
theorem ggX2_card_X2_rivals : GoodIn wsX2_card wsX2_rivals := goodIn_r _ [33, 34, 35, 36, 37, 8, 38, 39, 40, 41, 42, 43, 3, 44, 45, 21, 22, 23, 24, 2, 4, 1, 46, 47, 48, 49, 50, 51, 52, 53, 54, 55, 56, 57, 58, 59, 60, 61, 62, 63, 64, 65, 66, 67, 68, 69, 70, 71, 72, 73, 74, 75, 76, 77, 78, 79, 80, 81, 82, 83, 84, 85] (by decide +kernel) (by decide +kernel)
set_option maxRecDepth 20000 in
theorem gX2_card_X2_rivals : GoodIn wsX2_card (wsV RX2 220 RX2 yX2_rivals wsX2_rivals) := goodIn_app (goodIn_of _ (by decide +kernel)) ggX2_card_X2_rivals
theorem dX2_card_0 : decode cX2_card 0 = .ok (.aload_n 0, 1) := by decide +kernel
theorem dX2_card_1 : decode cX2_card 1 = .ok (.iload_n 1, 1) := by decide +kernel
theorem dX2_card_2 : decode cX2_card 2 = .ok (.invokevirtual 118, 3) := by decide +kernel
theorem dX2_card_5 : decode cX2_card 5 = .ok (.ifCond .ne 9, 3) := by decide +kernel
theorem dX2_card_8 : decode cX2_card 8 = .ok (.aload_n 0, 1) := by decide +kernel
theorem dX2_card_9 : decode cX2_card 9 = .ok (.iconst (-1), 1) := by decide +kernel
theorem dX2_card_10 : decode cX2_card 10 = .ok (.invokevirtual 83, 3) := by decide +kernel
theorem dX2_card_13 : decode cX2_card 13 = .ok (.ireturn, 1) := by decide +kernel
theorem dX2_card_14 : decode cX2_card 14 = .ok (.iload_n 2, 1) := by decide +kernel
theorem dX2_card_15 : decode cX2_card 15 = .ok (.tableswitch 97 0 7 #[45, 52, 59, 66, 73, 79, 85, 91], 45) := by decide +kernel
theorem dX2_card_60 : decode cX2_card 60 = .ok (.aload_n 0, 1) := by decide +kernel
theorem dX2_card_61 : decode cX2_card 61 = .ok (.getfield 13, 3) := by decide +kernel
theorem dX2_card_64 : decode cX2_card 64 = .ok (.iload_n 1, 1) := by decide +kernel
theorem dX2_card_65 : decode cX2_card 65 = .ok (.iaload, 1) := by decide +kernel
theorem dX2_card_66 : decode cX2_card 66 = .ok (.ireturn, 1) := by decide +kernel
theorem dX2_card_67 : decode cX2_card 67 = .ok (.aload_n 0, 1) := by decide +kernel
theorem dX2_card_68 : decode cX2_card 68 = .ok (.getfield 16, 3) := by decide +kernel
theorem dX2_card_71 : decode cX2_card 71 = .ok (.iload_n 1, 1) := by decide +kernel
theorem dX2_card_72 : decode cX2_card 72 = .ok (.iaload, 1) := by decide +kernel
theorem dX2_card_73 : decode cX2_card 73 = .ok (.ireturn, 1) := by decide +kernel
theorem dX2_card_74 : decode cX2_card 74 = .ok (.aload_n 0, 1) := by decide +kernel
theorem dX2_card_75 : decode cX2_card 75 = .ok (.getfield 19, 3) := by decide +kernel
theorem dX2_card_78 : decode cX2_card 78 = .ok (.iload_n 1, 1) := by decide +kernel
theorem dX2_card_79 : decode cX2_card 79 = .ok (.iaload, 1) := by decide +kernel
theorem dX2_card_80 : decode cX2_card 80 = .ok (.ireturn, 1) := by decide +kernel
theorem dX2_card_81 : decode cX2_card 81 = .ok (.aload_n 0, 1) := by decide +kernel
theorem dX2_card_82 : decode cX2_card 82 = .ok (.getfield 22, 3) := by decide +kernel
theorem dX2_card_85 : decode cX2_card 85 = .ok (.iload_n 1, 1) := by decide +kernel
theorem dX2_card_86 : decode cX2_card 86 = .ok (.iaload, 1) := by decide +kernel
theorem dX2_card_87 : decode cX2_card 87 = .ok (.ireturn, 1) := by decide +kernel
theorem dX2_card_88 : decode cX2_card 88 = .ok (.aload_n 0, 1) := by decide +kernel
theorem dX2_card_89 : decode cX2_card 89 = .ok (.iload_n 1, 1) := by decide +kernel
theorem dX2_card_90 : decode cX2_card 90 = .ok (.invokevirtual 217, 3) := by decide +kernel
theorem dX2_card_93 : decode cX2_card 93 = .ok (.ireturn, 1) := by decide +kernel
theorem dX2_card_94 : decode cX2_card 94 = .ok (.aload_n 0, 1) := by decide +kernel
theorem dX2_card_95 : decode cX2_card 95 = .ok (.iload_n 1, 1) := by decide +kernel
theorem dX2_card_96 : decode cX2_card 96 = .ok (.invokevirtual 179, 3) := by decide +kernel
theorem dX2_card_99 : decode cX2_card 99 = .ok (.ireturn, 1) := by decide +kernel
theorem dX2_card_100 : decode cX2_card 100 = .ok (.aload_n 0, 1) := by decide +kernel
theorem dX2_card_101 : decode cX2_card 101 = .ok (.iload_n 1, 1) := by decide +kernel
theorem dX2_card_102 : decode cX2_card 102 = .ok (.invokevirtual 176, 3) := by decide +kernel
theorem dX2_card_105 : decode cX2_card 105 = .ok (.ireturn, 1) := by decide +kernel
theorem dX2_card_106 : decode cX2_card 106 = .ok (.aload_n 0, 1) := by decide +kernel
theorem dX2_card_107 : decode cX2_card 107 = .ok (.iload_n 1, 1) := by decide +kernel
theorem dX2_card_108 : decode cX2_card 108 = .ok (.invokevirtual 220, 3) := by decide +kernel
theorem dX2_card_111 : decode cX2_card 111 = .ok (.ireturn, 1) := by decide +kernel
theorem dX2_card_112 : decode cX2_card 112 = .ok (.aload_n 0, 1) := by decide +kernel
theorem dX2_card_113 : decode cX2_card 113 = .ok (.bipush (-2), 2) := by decide +kernel
theorem dX2_card_115 : decode cX2_card 115 = .ok (.invokevirtual 83, 3) := by decide +kernel
theorem dX2_card_118 : decode cX2_card 118 = .ok (.ireturn, 1) := by decide +kernel
theorem dX2_holderOf_0 : decode cX2_holderOf 0 = .ok (.aload_n 0, 1) := by decide +kernel
theorem dX2_holderOf_1 : decode cX2_holderOf 1 = .ok (.getfield 25, 3) := by decide +kernel
theorem dX2_holderOf_4 : decode cX2_holderOf 4 = .ok (.iload_n 1, 1) := by decide +kernel
theorem dX2_holderOf_5 : decode cX2_holderOf 5 = .ok (.iaload, 1) := by decide +kernel
theorem dX2_holderOf_6 : decode cX2_holderOf 6 = .ok (.ifCond .ne 8, 3) := by decide +kernel
theorem dX2_holderOf_9 : decode cX2_holderOf 9 = .ok (.bipush (-9), 2) := by decide +kernel
theorem dX2_holderOf_11 : decode cX2_holderOf 11 = .ok (.goto 11, 3) := by decide +kernel
theorem dX2_holderOf_14 : decode cX2_holderOf 14 = .ok (.aload_n 0, 1) := by decide +kernel
theorem dX2_holderOf_15 : decode cX2_holderOf 15 = .ok (.getfield 25, 3) := by decide +kernel
theorem dX2_holderOf_18 : decode cX2_holderOf 18 = .ok (.iload_n 1, 1) := by decide +kernel
theorem dX2_holderOf_19 : decode cX2_holderOf 19 = .ok (.iaload, 1) := by decide +kernel
theorem dX2_holderOf_20 : decode cX2_holderOf 20 = .ok (.iconst 1, 1) := by decide +kernel
theorem dX2_holderOf_21 : decode cX2_holderOf 21 = .ok (.isub, 1) := by decide +kernel
theorem dX2_holderOf_22 : decode cX2_holderOf 22 = .ok (.ireturn, 1) := by decide +kernel
set_option maxRecDepth 20000 in
theorem ggX2_bidder_X2_isBidder : GoodIn wsX2_bidder wsX2_isBidder := goodIn_r _ [9, 10, 22, 23, 24, 25, 26, 27, 28, 29, 30, 31, 32, 33, 34, 35, 36, 37, 38, 39, 40, 41, 42, 43, 44, 45, 46, 47, 48, 49, 50, 51, 52] (by decide +kernel) (by decide +kernel)
set_option maxRecDepth 20000 in
theorem gX2_bidder_X2_isBidder : GoodIn wsX2_bidder (wsV RX2 122 RX2 yX2_isBidder wsX2_isBidder) := goodIn_app (goodIn_of _ (by decide +kernel)) ggX2_bidder_X2_isBidder
set_option maxRecDepth 20000 in
theorem ggX2_bidder_X2_no : GoodIn wsX2_bidder wsX2_no := goodIn_r _ [14, 15, 22, 23, 24, 25, 26, 27, 28, 29, 30, 31, 32, 33, 34, 35, 36, 37, 38, 39, 40, 41, 42, 43, 44, 45, 46, 47, 48, 49, 50, 51, 52] (by decide +kernel) (by decide +kernel)
set_option maxRecDepth 20000 in
theorem gX2_bidder_X2_no : GoodIn wsX2_bidder (wsV RX2 83 RX2 yX2_no wsX2_no) := goodIn_app (goodIn_of _ (by decide +kernel)) ggX2_bidder_X2_no
set_option maxRecDepth 20000 in
theorem ggX2_bidder_X2_heldBy : GoodIn wsX2_bidder wsX2_heldBy := goodIn_r _ [19, 20, 21, 22, 23, 24, 25, 26, 27, 28, 29, 30, 31, 32, 33, 34, 35, 36, 37, 38, 39, 40, 41, 42, 43, 44, 45, 46, 47, 48, 49, 50, 51, 52] (by decide +kernel) (by decide +kernel)
set_option maxRecDepth 20000 in
theorem gX2_bidder_X2_heldBy : GoodIn wsX2_bidder (wsV RX2 223 RX2 yX2_heldBy wsX2_heldBy) := goodIn_app (goodIn_of _ (by decide +kernel)) ggX2_bidder_X2_heldBy
theorem dX2_bidder_0 : decode cX2_bidder 0 = .ok (.aload_n 0, 1) := by decide +kernel
theorem dX2_bidder_1 : decode cX2_bidder 1 = .ok (.iload_n 1, 1) := by decide +kernel
theorem dX2_bidder_2 : decode cX2_bidder 2 = .ok (.invokevirtual 122, 3) := by decide +kernel
theorem dX2_bidder_5 : decode cX2_bidder 5 = .ok (.ifCond .ne 9, 3) := by decide +kernel
theorem dX2_bidder_8 : decode cX2_bidder 8 = .ok (.aload_n 0, 1) := by decide +kernel
theorem dX2_bidder_9 : decode cX2_bidder 9 = .ok (.iconst (-1), 1) := by decide +kernel
theorem dX2_bidder_10 : decode cX2_bidder 10 = .ok (.invokevirtual 83, 3) := by decide +kernel
theorem dX2_bidder_13 : decode cX2_bidder 13 = .ok (.ireturn, 1) := by decide +kernel
theorem dX2_bidder_14 : decode cX2_bidder 14 = .ok (.iload_n 2, 1) := by decide +kernel
theorem dX2_bidder_15 : decode cX2_bidder 15 = .ok (.tableswitch 67 0 4 #[33, 40, 47, 54, 61], 33) := by decide +kernel
theorem dX2_bidder_48 : decode cX2_bidder 48 = .ok (.aload_n 0, 1) := by decide +kernel
theorem dX2_bidder_49 : decode cX2_bidder 49 = .ok (.getfield 31, 3) := by decide +kernel
theorem dX2_bidder_52 : decode cX2_bidder 52 = .ok (.iload_n 1, 1) := by decide +kernel
theorem dX2_bidder_53 : decode cX2_bidder 53 = .ok (.iaload, 1) := by decide +kernel
theorem dX2_bidder_54 : decode cX2_bidder 54 = .ok (.ireturn, 1) := by decide +kernel
theorem dX2_bidder_55 : decode cX2_bidder 55 = .ok (.aload_n 0, 1) := by decide +kernel
theorem dX2_bidder_56 : decode cX2_bidder 56 = .ok (.getfield 34, 3) := by decide +kernel
theorem dX2_bidder_59 : decode cX2_bidder 59 = .ok (.iload_n 1, 1) := by decide +kernel
theorem dX2_bidder_60 : decode cX2_bidder 60 = .ok (.iaload, 1) := by decide +kernel
theorem dX2_bidder_61 : decode cX2_bidder 61 = .ok (.ireturn, 1) := by decide +kernel
theorem dX2_bidder_62 : decode cX2_bidder 62 = .ok (.aload_n 0, 1) := by decide +kernel
theorem dX2_bidder_63 : decode cX2_bidder 63 = .ok (.getfield 37, 3) := by decide +kernel
theorem dX2_bidder_66 : decode cX2_bidder 66 = .ok (.iload_n 1, 1) := by decide +kernel
theorem dX2_bidder_67 : decode cX2_bidder 67 = .ok (.iaload, 1) := by decide +kernel
theorem dX2_bidder_68 : decode cX2_bidder 68 = .ok (.ireturn, 1) := by decide +kernel
theorem dX2_bidder_69 : decode cX2_bidder 69 = .ok (.aload_n 0, 1) := by decide +kernel
theorem dX2_bidder_70 : decode cX2_bidder 70 = .ok (.getfield 40, 3) := by decide +kernel
theorem dX2_bidder_73 : decode cX2_bidder 73 = .ok (.iload_n 1, 1) := by decide +kernel
theorem dX2_bidder_74 : decode cX2_bidder 74 = .ok (.iaload, 1) := by decide +kernel
theorem dX2_bidder_75 : decode cX2_bidder 75 = .ok (.ireturn, 1) := by decide +kernel
theorem dX2_bidder_76 : decode cX2_bidder 76 = .ok (.aload_n 0, 1) := by decide +kernel
theorem dX2_bidder_77 : decode cX2_bidder 77 = .ok (.iload_n 1, 1) := by decide +kernel
theorem dX2_bidder_78 : decode cX2_bidder 78 = .ok (.invokevirtual 223, 3) := by decide +kernel
theorem dX2_bidder_81 : decode cX2_bidder 81 = .ok (.ireturn, 1) := by decide +kernel
theorem dX2_bidder_82 : decode cX2_bidder 82 = .ok (.aload_n 0, 1) := by decide +kernel
theorem dX2_bidder_83 : decode cX2_bidder 83 = .ok (.bipush (-2), 2) := by decide +kernel
theorem dX2_bidder_85 : decode cX2_bidder 85 = .ok (.invokevirtual 83, 3) := by decide +kernel
theorem dX2_bidder_88 : decode cX2_bidder 88 = .ok (.ireturn, 1) := by decide +kernel
set_option maxRecDepth 20000 in
theorem ggX2_areTold_X2_isBidder : GoodIn wsX2_areTold wsX2_isBidder := goodIn_r _ [5, 6, 12, 13, 14, 15, 16, 17, 18, 19, 20, 21, 22, 23, 24, 25, 26, 27, 28, 29, 30, 31, 32, 33, 34, 35, 36, 37, 38, 39, 40, 41, 42] (by decide +kernel) (by decide +kernel)
set_option maxRecDepth 20000 in
theorem gX2_areTold_X2_isBidder : GoodIn wsX2_areTold (wsV RX2 122 RX2 yX2_isBidder wsX2_isBidder) := goodIn_app (goodIn_of _ (by decide +kernel)) ggX2_areTold_X2_isBidder
set_option maxRecDepth 20000 in
theorem ggX2_areTold_X2_isCard : GoodIn wsX2_areTold wsX2_isCard := goodIn_r _ [10, 11, 12, 13, 14, 15, 16, 17, 18, 19, 20, 21, 22, 23, 24, 25, 26, 27, 28, 29, 30, 31, 32, 33, 34, 35, 36, 37, 38, 39, 40, 41, 42] (by decide +kernel) (by decide +kernel)
set_option maxRecDepth 20000 in
theorem gX2_areTold_X2_isCard : GoodIn wsX2_areTold (wsV RX2 118 RX2 yX2_isCard wsX2_isCard) := goodIn_app (goodIn_of _ (by decide +kernel)) ggX2_areTold_X2_isCard
theorem dX2_areTold_0 : decode cX2_areTold 0 = .ok (.aload_n 0, 1) := by decide +kernel
theorem dX2_areTold_1 : decode cX2_areTold 1 = .ok (.iload_n 1, 1) := by decide +kernel
theorem dX2_areTold_2 : decode cX2_areTold 2 = .ok (.invokevirtual 122, 3) := by decide +kernel
theorem dX2_areTold_5 : decode cX2_areTold 5 = .ok (.ifCond .eq 15, 3) := by decide +kernel
theorem dX2_areTold_8 : decode cX2_areTold 8 = .ok (.aload_n 0, 1) := by decide +kernel
theorem dX2_areTold_9 : decode cX2_areTold 9 = .ok (.iload_n 2, 1) := by decide +kernel
theorem dX2_areTold_10 : decode cX2_areTold 10 = .ok (.invokevirtual 118, 3) := by decide +kernel
theorem dX2_areTold_13 : decode cX2_areTold 13 = .ok (.ifCond .eq 7, 3) := by decide +kernel
theorem dX2_areTold_16 : decode cX2_areTold 16 = .ok (.iconst 1, 1) := by decide +kernel
theorem dX2_areTold_17 : decode cX2_areTold 17 = .ok (.goto 4, 3) := by decide +kernel
theorem dX2_areTold_20 : decode cX2_areTold 20 = .ok (.iconst 0, 1) := by decide +kernel
theorem dX2_areTold_21 : decode cX2_areTold 21 = .ok (.ireturn, 1) := by decide +kernel
set_option maxRecDepth 20000 in
theorem ggX2_bids_X2_areTold : GoodIn wsX2_bids wsX2_areTold := goodIn_r _ [5, 6, 7, 8, 4, 9, 10, 11, 12, 13, 14, 15, 45, 46, 47, 48, 49, 50, 51, 52, 53, 54, 55, 56, 57, 58, 59, 60, 61, 62, 63, 64, 65, 66, 67, 68, 69, 70, 71, 72, 73, 74, 75] (by decide +kernel) (by decide +kernel)
set_option maxRecDepth 20000 in
theorem gX2_bids_X2_areTold : GoodIn wsX2_bids (wsV RX2 226 RX2 yX2_areTold wsX2_areTold) := goodIn_app (goodIn_of _ (by decide +kernel)) ggX2_bids_X2_areTold
set_option maxRecDepth 20000 in
theorem ggX2_bids_X2_bidOf : GoodIn wsX2_bids wsX2_bidOf := goodIn_r _ [19, 20, 21, 22, 23, 4, 24, 25, 26, 27, 28, 29, 30, 31, 32, 33, 34, 35, 36, 37, 38, 39, 6, 7, 8, 9, 10, 45, 46, 47, 48, 49, 50, 51, 52, 53, 54, 55, 56, 57, 58, 59, 60, 61, 62, 63, 64, 65, 66, 67, 68, 69, 70, 71, 72, 73, 74, 75] (by decide +kernel) (by decide +kernel)
set_option maxRecDepth 20000 in
theorem gX2_bids_X2_bidOf : GoodIn wsX2_bids (wsV RX2 195 RX2 yX2_bidOf wsX2_bidOf) := goodIn_app (goodIn_of _ (by decide +kernel)) ggX2_bids_X2_bidOf
set_option maxRecDepth 20000 in
theorem ggX2_bids_X2_no : GoodIn wsX2_bids wsX2_no := goodIn_r _ [43, 44, 45, 46, 47, 48, 49, 50, 51, 52, 53, 54, 55, 56, 57, 58, 59, 60, 61, 62, 63, 64, 65, 66, 67, 68, 69, 70, 71, 72, 73, 74, 75] (by decide +kernel) (by decide +kernel)
set_option maxRecDepth 20000 in
theorem gX2_bids_X2_no : GoodIn wsX2_bids (wsV RX2 83 RX2 yX2_no wsX2_no) := goodIn_app (goodIn_of _ (by decide +kernel)) ggX2_bids_X2_no
theorem dX2_bids_0 : decode cX2_bids 0 = .ok (.aload_n 0, 1) := by decide +kernel
theorem dX2_bids_1 : decode cX2_bids 1 = .ok (.iload_n 1, 1) := by decide +kernel
theorem dX2_bids_2 : decode cX2_bids 2 = .ok (.iload_n 2, 1) := by decide +kernel
theorem dX2_bids_3 : decode cX2_bids 3 = .ok (.invokevirtual 226, 3) := by decide +kernel
theorem dX2_bids_6 : decode cX2_bids 6 = .ok (.ifCond .eq 12, 3) := by decide +kernel
theorem dX2_bids_9 : decode cX2_bids 9 = .ok (.aload_n 0, 1) := by decide +kernel
theorem dX2_bids_10 : decode cX2_bids 10 = .ok (.iload_n 1, 1) := by decide +kernel
theorem dX2_bids_11 : decode cX2_bids 11 = .ok (.iload_n 2, 1) := by decide +kernel
theorem dX2_bids_12 : decode cX2_bids 12 = .ok (.invokevirtual 195, 3) := by decide +kernel
theorem dX2_bids_15 : decode cX2_bids 15 = .ok (.goto 8, 3) := by decide +kernel
theorem dX2_bids_18 : decode cX2_bids 18 = .ok (.aload_n 0, 1) := by decide +kernel
theorem dX2_bids_19 : decode cX2_bids 19 = .ok (.iconst (-1), 1) := by decide +kernel
theorem dX2_bids_20 : decode cX2_bids 20 = .ok (.invokevirtual 83, 3) := by decide +kernel
theorem dX2_bids_23 : decode cX2_bids 23 = .ok (.ireturn, 1) := by decide +kernel
set_option maxRecDepth 20000 in
theorem ggX2_pays_X2_isBidder : GoodIn wsX2_pays wsX2_isBidder := goodIn_r _ [6, 7, 16, 17, 18, 19, 20, 21, 22, 23, 24, 25, 26, 27, 28, 29, 30, 31, 32, 33, 34, 35, 36, 37, 38, 39, 40, 41, 42, 43, 44, 45, 46] (by decide +kernel) (by decide +kernel)
set_option maxRecDepth 20000 in
theorem gX2_pays_X2_isBidder : GoodIn wsX2_pays (wsV RX2 122 RX2 yX2_isBidder wsX2_isBidder) := goodIn_app (goodIn_of _ (by decide +kernel)) ggX2_pays_X2_isBidder
set_option maxRecDepth 20000 in
theorem ggX2_pays_X2_bound : GoodIn wsX2_pays wsX2_bound := goodIn_r _ [10] (by decide +kernel) (by decide +kernel)
set_option maxRecDepth 20000 in
theorem gX2_pays_X2_bound : GoodIn wsX2_pays (va_wsS RX2 76 yX2_bound wsX2_bound) := goodIn_app (goodIn_of _ (by decide +kernel)) ggX2_pays_X2_bound
set_option maxRecDepth 20000 in
theorem ggX2_pays_X2_no : GoodIn wsX2_pays wsX2_no := goodIn_r _ [14, 15, 16, 17, 18, 19, 20, 21, 22, 23, 24, 25, 26, 27, 28, 29, 30, 31, 32, 33, 34, 35, 36, 37, 38, 39, 40, 41, 42, 43, 44, 45, 46] (by decide +kernel) (by decide +kernel)
set_option maxRecDepth 20000 in
theorem gX2_pays_X2_no : GoodIn wsX2_pays (wsV RX2 83 RX2 yX2_no wsX2_no) := goodIn_app (goodIn_of _ (by decide +kernel)) ggX2_pays_X2_no
theorem dX2_pays_0 : decode cX2_pays 0 = .ok (.aload_n 0, 1) := by decide +kernel
theorem dX2_pays_1 : decode cX2_pays 1 = .ok (.iload_n 1, 1) := by decide +kernel
theorem dX2_pays_2 : decode cX2_pays 2 = .ok (.invokevirtual 122, 3) := by decide +kernel
theorem dX2_pays_5 : decode cX2_pays 5 = .ok (.ifCond .ne 7, 3) := by decide +kernel
theorem dX2_pays_8 : decode cX2_pays 8 = .ok (.iconst (-1), 1) := by decide +kernel
theorem dX2_pays_9 : decode cX2_pays 9 = .ok (.goto 11, 3) := by decide +kernel
theorem dX2_pays_12 : decode cX2_pays 12 = .ok (.iload_n 2, 1) := by decide +kernel
theorem dX2_pays_13 : decode cX2_pays 13 = .ok (.iconst 0, 1) := by decide +kernel
theorem dX2_pays_14 : decode cX2_pays 14 = .ok (.sipush 999, 3) := by decide +kernel
theorem dX2_pays_17 : decode cX2_pays 17 = .ok (.invokestatic 76, 3) := by decide +kernel
theorem dX2_pays_20 : decode cX2_pays 20 = .ok (.istore_n 3, 1) := by decide +kernel
theorem dX2_pays_21 : decode cX2_pays 21 = .ok (.iload_n 3, 1) := by decide +kernel
theorem dX2_pays_22 : decode cX2_pays 22 = .ok (.ifCond .eq 9, 3) := by decide +kernel
theorem dX2_pays_25 : decode cX2_pays 25 = .ok (.aload_n 0, 1) := by decide +kernel
theorem dX2_pays_26 : decode cX2_pays 26 = .ok (.iload_n 3, 1) := by decide +kernel
theorem dX2_pays_27 : decode cX2_pays 27 = .ok (.invokevirtual 83, 3) := by decide +kernel
theorem dX2_pays_30 : decode cX2_pays 30 = .ok (.ireturn, 1) := by decide +kernel
theorem dX2_pays_31 : decode cX2_pays 31 = .ok (.aload_n 0, 1) := by decide +kernel
theorem dX2_pays_32 : decode cX2_pays 32 = .ok (.getfield 37, 3) := by decide +kernel
theorem dX2_pays_35 : decode cX2_pays 35 = .ok (.iload_n 1, 1) := by decide +kernel
theorem dX2_pays_36 : decode cX2_pays 36 = .ok (.iaload, 1) := by decide +kernel
theorem dX2_pays_37 : decode cX2_pays 37 = .ok (.istore 4, 2) := by decide +kernel
theorem dX2_pays_39 : decode cX2_pays 39 = .ok (.aload_n 0, 1) := by decide +kernel
theorem dX2_pays_40 : decode cX2_pays 40 = .ok (.getfield 37, 3) := by decide +kernel
theorem dX2_pays_43 : decode cX2_pays 43 = .ok (.iload_n 1, 1) := by decide +kernel
theorem dX2_pays_44 : decode cX2_pays 44 = .ok (.iload_n 2, 1) := by decide +kernel
theorem dX2_pays_45 : decode cX2_pays 45 = .ok (.iastore, 1) := by decide +kernel
theorem dX2_pays_46 : decode cX2_pays 46 = .ok (.iload 4, 2) := by decide +kernel
theorem dX2_pays_48 : decode cX2_pays 48 = .ok (.ireturn, 1) := by decide +kernel
set_option maxRecDepth 20000 in
theorem ggX2_returns_X2_isCard : GoodIn wsX2_returns wsX2_isCard := goodIn_r _ [6, 7, 17, 18, 19, 20, 21, 22, 23, 24, 25, 26, 27, 28, 29, 30, 31, 32, 33, 34, 35, 36, 37, 38, 39, 40, 41, 42, 43, 44, 45, 46, 47] (by decide +kernel) (by decide +kernel)
set_option maxRecDepth 20000 in
theorem gX2_returns_X2_isCard : GoodIn wsX2_returns (wsV RX2 118 RX2 yX2_isCard wsX2_isCard) := goodIn_app (goodIn_of _ (by decide +kernel)) ggX2_returns_X2_isCard
set_option maxRecDepth 20000 in
theorem ggX2_returns_X2_no : GoodIn wsX2_returns wsX2_no := goodIn_r _ [11, 12, 17, 18, 19, 20, 21, 22, 23, 24, 25, 26, 27, 28, 29, 30, 31, 32, 33, 34, 35, 36, 37, 38, 39, 40, 41, 42, 43, 44, 45, 46, 47] (by decide +kernel) (by decide +kernel)
set_option maxRecDepth 20000 in
theorem gX2_returns_X2_no : GoodIn wsX2_returns (wsV RX2 83 RX2 yX2_no wsX2_no) := goodIn_app (goodIn_of _ (by decide +kernel)) ggX2_returns_X2_no
set_option maxRecDepth 20000 in
theorem ggX2_returns_X2_holderOf : GoodIn wsX2_returns wsX2_holderOf := goodIn_r _ [16, 1, 17, 18, 19, 20, 21, 22, 23, 24, 25, 26, 27, 28, 29, 30, 31, 32, 33, 34, 35, 36, 37, 38, 39, 40, 41, 42, 43, 44, 45, 46, 47] (by decide +kernel) (by decide +kernel)
set_option maxRecDepth 20000 in
theorem gX2_returns_X2_holderOf : GoodIn wsX2_returns (wsV RX2 217 RX2 yX2_holderOf wsX2_holderOf) := goodIn_app (goodIn_of _ (by decide +kernel)) ggX2_returns_X2_holderOf
theorem dX2_returns_0 : decode cX2_returns 0 = .ok (.aload_n 0, 1) := by decide +kernel
theorem dX2_returns_1 : decode cX2_returns 1 = .ok (.iload_n 1, 1) := by decide +kernel
theorem dX2_returns_2 : decode cX2_returns 2 = .ok (.invokevirtual 118, 3) := by decide +kernel
theorem dX2_returns_5 : decode cX2_returns 5 = .ok (.ifCond .ne 7, 3) := by decide +kernel
theorem dX2_returns_8 : decode cX2_returns 8 = .ok (.iconst (-1), 1) := by decide +kernel
theorem dX2_returns_9 : decode cX2_returns 9 = .ok (.goto 18, 3) := by decide +kernel
theorem dX2_returns_12 : decode cX2_returns 12 = .ok (.aload_n 0, 1) := by decide +kernel
theorem dX2_returns_13 : decode cX2_returns 13 = .ok (.getfield 25, 3) := by decide +kernel
theorem dX2_returns_16 : decode cX2_returns 16 = .ok (.iload_n 1, 1) := by decide +kernel
theorem dX2_returns_17 : decode cX2_returns 17 = .ok (.iaload, 1) := by decide +kernel
theorem dX2_returns_18 : decode cX2_returns 18 = .ok (.ifCond .ne 8, 3) := by decide +kernel
theorem dX2_returns_21 : decode cX2_returns 21 = .ok (.bipush (-3), 2) := by decide +kernel
theorem dX2_returns_23 : decode cX2_returns 23 = .ok (.goto 4, 3) := by decide +kernel
theorem dX2_returns_26 : decode cX2_returns 26 = .ok (.iconst 0, 1) := by decide +kernel
theorem dX2_returns_27 : decode cX2_returns 27 = .ok (.istore_n 2, 1) := by decide +kernel
theorem dX2_returns_28 : decode cX2_returns 28 = .ok (.iload_n 2, 1) := by decide +kernel
theorem dX2_returns_29 : decode cX2_returns 29 = .ok (.ifCond .eq 9, 3) := by decide +kernel
theorem dX2_returns_32 : decode cX2_returns 32 = .ok (.aload_n 0, 1) := by decide +kernel
theorem dX2_returns_33 : decode cX2_returns 33 = .ok (.iload_n 2, 1) := by decide +kernel
theorem dX2_returns_34 : decode cX2_returns 34 = .ok (.invokevirtual 83, 3) := by decide +kernel
theorem dX2_returns_37 : decode cX2_returns 37 = .ok (.ireturn, 1) := by decide +kernel
theorem dX2_returns_38 : decode cX2_returns 38 = .ok (.aload_n 0, 1) := by decide +kernel
theorem dX2_returns_39 : decode cX2_returns 39 = .ok (.iload_n 1, 1) := by decide +kernel
theorem dX2_returns_40 : decode cX2_returns 40 = .ok (.invokevirtual 217, 3) := by decide +kernel
theorem dX2_returns_43 : decode cX2_returns 43 = .ok (.istore_n 3, 1) := by decide +kernel
theorem dX2_returns_44 : decode cX2_returns 44 = .ok (.aload_n 0, 1) := by decide +kernel
theorem dX2_returns_45 : decode cX2_returns 45 = .ok (.getfield 25, 3) := by decide +kernel
theorem dX2_returns_48 : decode cX2_returns 48 = .ok (.iload_n 1, 1) := by decide +kernel
theorem dX2_returns_49 : decode cX2_returns 49 = .ok (.iconst 0, 1) := by decide +kernel
theorem dX2_returns_50 : decode cX2_returns 50 = .ok (.iastore, 1) := by decide +kernel
theorem dX2_returns_51 : decode cX2_returns 51 = .ok (.iload_n 3, 1) := by decide +kernel
theorem dX2_returns_52 : decode cX2_returns 52 = .ok (.ireturn, 1) := by decide +kernel
set_option maxRecDepth 20000 in
theorem ggX2_gives_X2_areTold : GoodIn wsX2_gives wsX2_areTold := goodIn_r _ [6, 7, 8, 9, 5, 10, 11, 12, 13, 14, 15, 16, 26, 27, 28, 29, 30, 31, 32, 33, 34, 35, 36, 37, 38, 39, 40, 41, 42, 43, 44, 45, 46, 47, 48, 49, 50, 51, 52, 53, 54, 55, 56] (by decide +kernel) (by decide +kernel)
set_option maxRecDepth 20000 in
theorem gX2_gives_X2_areTold : GoodIn wsX2_gives (wsV RX2 226 RX2 yX2_areTold wsX2_areTold) := goodIn_app (goodIn_of _ (by decide +kernel)) ggX2_gives_X2_areTold
set_option maxRecDepth 20000 in
theorem ggX2_gives_X2_no : GoodIn wsX2_gives wsX2_no := goodIn_r _ [20, 21, 26, 27, 28, 29, 30, 31, 32, 33, 34, 35, 36, 37, 38, 39, 40, 41, 42, 43, 44, 45, 46, 47, 48, 49, 50, 51, 52, 53, 54, 55, 56] (by decide +kernel) (by decide +kernel)
set_option maxRecDepth 20000 in
theorem gX2_gives_X2_no : GoodIn wsX2_gives (wsV RX2 83 RX2 yX2_no wsX2_no) := goodIn_app (goodIn_of _ (by decide +kernel)) ggX2_gives_X2_no
set_option maxRecDepth 20000 in
theorem ggX2_gives_X2_holderOf : GoodIn wsX2_gives wsX2_holderOf := goodIn_r _ [25, 1, 26, 27, 28, 29, 30, 31, 32, 33, 34, 35, 36, 37, 38, 39, 40, 41, 42, 43, 44, 45, 46, 47, 48, 49, 50, 51, 52, 53, 54, 55, 56] (by decide +kernel) (by decide +kernel)
set_option maxRecDepth 20000 in
theorem gX2_gives_X2_holderOf : GoodIn wsX2_gives (wsV RX2 217 RX2 yX2_holderOf wsX2_holderOf) := goodIn_app (goodIn_of _ (by decide +kernel)) ggX2_gives_X2_holderOf
theorem dX2_gives_0 : decode cX2_gives 0 = .ok (.aload_n 0, 1) := by decide +kernel
theorem dX2_gives_1 : decode cX2_gives 1 = .ok (.iload_n 2, 1) := by decide +kernel
theorem dX2_gives_2 : decode cX2_gives 2 = .ok (.iload_n 1, 1) := by decide +kernel
theorem dX2_gives_3 : decode cX2_gives 3 = .ok (.invokevirtual 226, 3) := by decide +kernel
theorem dX2_gives_6 : decode cX2_gives 6 = .ok (.ifCond .ne 9, 3) := by decide +kernel
theorem dX2_gives_9 : decode cX2_gives 9 = .ok (.aload_n 0, 1) := by decide +kernel
theorem dX2_gives_10 : decode cX2_gives 10 = .ok (.iconst (-1), 1) := by decide +kernel
theorem dX2_gives_11 : decode cX2_gives 11 = .ok (.invokevirtual 83, 3) := by decide +kernel
theorem dX2_gives_14 : decode cX2_gives 14 = .ok (.ireturn, 1) := by decide +kernel
theorem dX2_gives_15 : decode cX2_gives 15 = .ok (.aload_n 0, 1) := by decide +kernel
theorem dX2_gives_16 : decode cX2_gives 16 = .ok (.iload_n 1, 1) := by decide +kernel
theorem dX2_gives_17 : decode cX2_gives 17 = .ok (.invokevirtual 217, 3) := by decide +kernel
theorem dX2_gives_20 : decode cX2_gives 20 = .ok (.istore_n 3, 1) := by decide +kernel
theorem dX2_gives_21 : decode cX2_gives 21 = .ok (.aload_n 0, 1) := by decide +kernel
theorem dX2_gives_22 : decode cX2_gives 22 = .ok (.getfield 25, 3) := by decide +kernel
theorem dX2_gives_25 : decode cX2_gives 25 = .ok (.iload_n 1, 1) := by decide +kernel
theorem dX2_gives_26 : decode cX2_gives 26 = .ok (.iload_n 2, 1) := by decide +kernel
theorem dX2_gives_27 : decode cX2_gives 27 = .ok (.iconst 1, 1) := by decide +kernel
theorem dX2_gives_28 : decode cX2_gives 28 = .ok (.iadd, 1) := by decide +kernel
theorem dX2_gives_29 : decode cX2_gives 29 = .ok (.iastore, 1) := by decide +kernel
theorem dX2_gives_30 : decode cX2_gives 30 = .ok (.iload_n 3, 1) := by decide +kernel
theorem dX2_gives_31 : decode cX2_gives 31 = .ok (.ireturn, 1) := by decide +kernel
set_option maxRecDepth 20000 in
theorem ggX2_swaps_X2_isCard : GoodIn wsX2_swaps wsX2_isCard := goodIn_r _ [5, 6, 21, 22, 23, 24, 25, 26, 27, 28, 29, 30, 31, 32, 33, 34, 35, 36, 37, 38, 39, 40, 41, 42, 43, 44, 45, 46, 47, 48, 49, 50, 51] (by decide +kernel) (by decide +kernel)
set_option maxRecDepth 20000 in
theorem gX2_swaps_X2_isCard : GoodIn wsX2_swaps (wsV RX2 118 RX2 yX2_isCard wsX2_isCard) := goodIn_app (goodIn_of _ (by decide +kernel)) ggX2_swaps_X2_isCard
set_option maxRecDepth 20000 in
theorem ggX2_swaps_X2_no : GoodIn wsX2_swaps wsX2_no := goodIn_r _ [10, 11, 21, 22, 23, 24, 25, 26, 27, 28, 29, 30, 31, 32, 33, 34, 35, 36, 37, 38, 39, 40, 41, 42, 43, 44, 45, 46, 47, 48, 49, 50, 51] (by decide +kernel) (by decide +kernel)
set_option maxRecDepth 20000 in
theorem gX2_swaps_X2_no : GoodIn wsX2_swaps (wsV RX2 83 RX2 yX2_no wsX2_no) := goodIn_app (goodIn_of _ (by decide +kernel)) ggX2_swaps_X2_no
set_option maxRecDepth 20000 in
theorem ggX2_swaps_X2_changesPlaces : GoodIn wsX2_swaps wsX2_changesPlaces := goodIn_r _ [15, 16, 17, 18, 19, 4, 20, 21, 22, 23, 24, 25, 26, 27, 28, 29, 30, 31, 32, 33, 34, 35, 36, 37, 38, 39, 40, 41, 42, 43, 44, 45, 46, 47, 48, 49, 50, 51] (by decide +kernel) (by decide +kernel)
set_option maxRecDepth 20000 in
theorem gX2_swaps_X2_changesPlaces : GoodIn wsX2_swaps (wsV RX2 125 RX2 yX2_changesPlaces wsX2_changesPlaces) := goodIn_app (goodIn_of _ (by decide +kernel)) ggX2_swaps_X2_changesPlaces
set_option maxRecDepth 20000 in
theorem ggX2_swaps_X2_placeOf : GoodIn wsX2_swaps wsX2_placeOf := goodIn_r _ [20, 16, 21, 22, 23, 24, 25, 26, 27, 28, 29, 30, 31, 32, 33, 34, 35, 36, 37, 38, 39, 40, 41, 42, 43, 44, 45, 46, 47, 48, 49, 50, 51] (by decide +kernel) (by decide +kernel)
set_option maxRecDepth 20000 in
theorem gX2_swaps_X2_placeOf : GoodIn wsX2_swaps (wsV RX2 176 RX2 yX2_placeOf wsX2_placeOf) := goodIn_app (goodIn_of _ (by decide +kernel)) ggX2_swaps_X2_placeOf
theorem dX2_swaps_0 : decode cX2_swaps 0 = .ok (.aload_n 0, 1) := by decide +kernel
theorem dX2_swaps_1 : decode cX2_swaps 1 = .ok (.iload_n 1, 1) := by decide +kernel
theorem dX2_swaps_2 : decode cX2_swaps 2 = .ok (.invokevirtual 118, 3) := by decide +kernel
theorem dX2_swaps_5 : decode cX2_swaps 5 = .ok (.ifCond .eq 16, 3) := by decide +kernel
theorem dX2_swaps_8 : decode cX2_swaps 8 = .ok (.aload_n 0, 1) := by decide +kernel
theorem dX2_swaps_9 : decode cX2_swaps 9 = .ok (.iload_n 2, 1) := by decide +kernel
theorem dX2_swaps_10 : decode cX2_swaps 10 = .ok (.invokevirtual 118, 3) := by decide +kernel
theorem dX2_swaps_13 : decode cX2_swaps 13 = .ok (.ifCond .eq 8, 3) := by decide +kernel
theorem dX2_swaps_16 : decode cX2_swaps 16 = .ok (.iload_n 1, 1) := by decide +kernel
theorem dX2_swaps_17 : decode cX2_swaps 17 = .ok (.iload_n 2, 1) := by decide +kernel
theorem dX2_swaps_18 : decode cX2_swaps 18 = .ok (.if_icmp .ne 9, 3) := by decide +kernel
theorem dX2_swaps_21 : decode cX2_swaps 21 = .ok (.aload_n 0, 1) := by decide +kernel
theorem dX2_swaps_22 : decode cX2_swaps 22 = .ok (.iconst (-1), 1) := by decide +kernel
theorem dX2_swaps_23 : decode cX2_swaps 23 = .ok (.invokevirtual 83, 3) := by decide +kernel
theorem dX2_swaps_26 : decode cX2_swaps 26 = .ok (.ireturn, 1) := by decide +kernel
theorem dX2_swaps_27 : decode cX2_swaps 27 = .ok (.aload_n 0, 1) := by decide +kernel
theorem dX2_swaps_28 : decode cX2_swaps 28 = .ok (.iload_n 1, 1) := by decide +kernel
theorem dX2_swaps_29 : decode cX2_swaps 29 = .ok (.iload_n 2, 1) := by decide +kernel
theorem dX2_swaps_30 : decode cX2_swaps 30 = .ok (.invokevirtual 125, 3) := by decide +kernel
theorem dX2_swaps_33 : decode cX2_swaps 33 = .ok (.aload_n 0, 1) := by decide +kernel
theorem dX2_swaps_34 : decode cX2_swaps 34 = .ok (.iload_n 1, 1) := by decide +kernel
theorem dX2_swaps_35 : decode cX2_swaps 35 = .ok (.invokevirtual 176, 3) := by decide +kernel
theorem dX2_swaps_38 : decode cX2_swaps 38 = .ok (.ireturn, 1) := by decide +kernel
set_option maxRecDepth 20000 in
theorem ggX2_sells_X2_isCard : GoodIn wsX2_sells wsX2_isCard := goodIn_r _ [6, 7, 66, 67, 68, 69, 70, 71, 72, 73, 74, 75, 76, 77, 78, 79, 80, 81, 82, 83, 84, 85, 86, 87, 88, 89, 90, 91, 92, 93, 94, 95, 96] (by decide +kernel) (by decide +kernel)
set_option maxRecDepth 20000 in
theorem gX2_sells_X2_isCard : GoodIn wsX2_sells (wsV RX2 118 RX2 yX2_isCard wsX2_isCard) := goodIn_app (goodIn_of _ (by decide +kernel)) ggX2_sells_X2_isCard
set_option maxRecDepth 20000 in
theorem ggX2_sells_X2_no : GoodIn wsX2_sells wsX2_no := goodIn_r _ [11, 12, 66, 67, 68, 69, 70, 71, 72, 73, 74, 75, 76, 77, 78, 79, 80, 81, 82, 83, 84, 85, 86, 87, 88, 89, 90, 91, 92, 93, 94, 95, 96] (by decide +kernel) (by decide +kernel)
set_option maxRecDepth 20000 in
theorem gX2_sells_X2_no : GoodIn wsX2_sells (wsV RX2 83 RX2 yX2_no wsX2_no) := goodIn_app (goodIn_of _ (by decide +kernel)) ggX2_sells_X2_no
set_option maxRecDepth 20000 in
theorem ggX2_sells_X2_sellsOne : GoodIn wsX2_sells wsX2_sellsOne := goodIn_r _ [16, 17, 18, 1, 19, 20, 21, 22, 23, 5, 24, 25, 26, 27, 28, 29, 30, 31, 32, 33, 34, 35, 36, 37, 38, 39, 40, 41, 42, 43, 44, 45, 46, 47, 48, 49, 50, 51, 52, 53, 54, 55, 56, 57, 58, 59, 60, 61, 62, 63, 64, 65, 66, 67, 68, 69, 70, 71, 72, 73, 74, 75, 76, 77, 78, 79, 80, 81, 82, 83, 84, 85, 86, 87, 88, 89, 90, 91, 92, 93, 94, 95, 96] (by decide +kernel) (by decide +kernel)
set_option maxRecDepth 20000 in
theorem gX2_sells_X2_sellsOne : GoodIn wsX2_sells (wsV RX2 210 RX2 yX2_sellsOne wsX2_sellsOne) := goodIn_app (goodIn_of _ (by decide +kernel)) ggX2_sells_X2_sellsOne
theorem dX2_sells_0 : decode cX2_sells 0 = .ok (.aload_n 0, 1) := by decide +kernel
theorem dX2_sells_1 : decode cX2_sells 1 = .ok (.iload_n 1, 1) := by decide +kernel
theorem dX2_sells_2 : decode cX2_sells 2 = .ok (.invokevirtual 118, 3) := by decide +kernel
theorem dX2_sells_5 : decode cX2_sells 5 = .ok (.ifCond .ne 7, 3) := by decide +kernel
theorem dX2_sells_8 : decode cX2_sells 8 = .ok (.iconst (-1), 1) := by decide +kernel
theorem dX2_sells_9 : decode cX2_sells 9 = .ok (.goto 18, 3) := by decide +kernel
theorem dX2_sells_12 : decode cX2_sells 12 = .ok (.aload_n 0, 1) := by decide +kernel
theorem dX2_sells_13 : decode cX2_sells 13 = .ok (.getfield 25, 3) := by decide +kernel
theorem dX2_sells_16 : decode cX2_sells 16 = .ok (.iload_n 1, 1) := by decide +kernel
theorem dX2_sells_17 : decode cX2_sells 17 = .ok (.iaload, 1) := by decide +kernel
theorem dX2_sells_18 : decode cX2_sells 18 = .ok (.ifCond .eq 8, 3) := by decide +kernel
theorem dX2_sells_21 : decode cX2_sells 21 = .ok (.bipush (-3), 2) := by decide +kernel
theorem dX2_sells_23 : decode cX2_sells 23 = .ok (.goto 4, 3) := by decide +kernel
theorem dX2_sells_26 : decode cX2_sells 26 = .ok (.iconst 0, 1) := by decide +kernel
theorem dX2_sells_27 : decode cX2_sells 27 = .ok (.istore_n 2, 1) := by decide +kernel
theorem dX2_sells_28 : decode cX2_sells 28 = .ok (.iload_n 2, 1) := by decide +kernel
theorem dX2_sells_29 : decode cX2_sells 29 = .ok (.ifCond .eq 11, 3) := by decide +kernel
theorem dX2_sells_32 : decode cX2_sells 32 = .ok (.aload_n 0, 1) := by decide +kernel
theorem dX2_sells_33 : decode cX2_sells 33 = .ok (.iload_n 2, 1) := by decide +kernel
theorem dX2_sells_34 : decode cX2_sells 34 = .ok (.invokevirtual 83, 3) := by decide +kernel
theorem dX2_sells_37 : decode cX2_sells 37 = .ok (.goto 8, 3) := by decide +kernel
theorem dX2_sells_40 : decode cX2_sells 40 = .ok (.aload_n 0, 1) := by decide +kernel
theorem dX2_sells_41 : decode cX2_sells 41 = .ok (.iload_n 1, 1) := by decide +kernel
theorem dX2_sells_42 : decode cX2_sells 42 = .ok (.invokevirtual 210, 3) := by decide +kernel
theorem dX2_sells_45 : decode cX2_sells 45 = .ok (.ireturn, 1) := by decide +kernel
set_option maxRecDepth 20000 in
theorem ggX2_turn_X2_isBidder : GoodIn wsX2_turn wsX2_isBidder := goodIn_r _ [7, 8, 20, 21, 22, 23, 24, 25, 26, 27, 28, 29, 30, 31, 32, 33, 34, 35, 36, 37, 38, 39, 40, 41, 42, 43, 44, 45, 46, 47, 48, 49, 50] (by decide +kernel) (by decide +kernel)
set_option maxRecDepth 20000 in
theorem gX2_turn_X2_isBidder : GoodIn wsX2_turn (wsV RX2 122 RX2 yX2_isBidder wsX2_isBidder) := goodIn_app (goodIn_of _ (by decide +kernel)) ggX2_turn_X2_isBidder
set_option maxRecDepth 20000 in
theorem ggX2_turn_X2_isIn : GoodIn wsX2_turn wsX2_isIn := goodIn_r _ [11] (by decide +kernel) (by decide +kernel)
set_option maxRecDepth 20000 in
theorem gX2_turn_X2_isIn : GoodIn wsX2_turn (va_wsS RX2 94 yX2_isIn wsX2_isIn) := goodIn_app (goodIn_of _ (by decide +kernel)) ggX2_turn_X2_isIn
set_option maxRecDepth 20000 in
theorem ggX2_turn_X2_bound : GoodIn wsX2_turn wsX2_bound := goodIn_r _ [14] (by decide +kernel) (by decide +kernel)
set_option maxRecDepth 20000 in
theorem gX2_turn_X2_bound : GoodIn wsX2_turn (va_wsS RX2 76 yX2_bound wsX2_bound) := goodIn_app (goodIn_of _ (by decide +kernel)) ggX2_turn_X2_bound
set_option maxRecDepth 20000 in
theorem ggX2_turn_X2_no : GoodIn wsX2_turn wsX2_no := goodIn_r _ [18, 19, 20, 21, 22, 23, 24, 25, 26, 27, 28, 29, 30, 31, 32, 33, 34, 35, 36, 37, 38, 39, 40, 41, 42, 43, 44, 45, 46, 47, 48, 49, 50] (by decide +kernel) (by decide +kernel)
set_option maxRecDepth 20000 in
theorem gX2_turn_X2_no : GoodIn wsX2_turn (wsV RX2 83 RX2 yX2_no wsX2_no) := goodIn_app (goodIn_of _ (by decide +kernel)) ggX2_turn_X2_no
theorem dX2_turn_0 : decode cX2_turn 0 = .ok (.aload_n 0, 1) := by decide +kernel
theorem dX2_turn_1 : decode cX2_turn 1 = .ok (.iload_n 1, 1) := by decide +kernel
theorem dX2_turn_2 : decode cX2_turn 2 = .ok (.invokevirtual 122, 3) := by decide +kernel
theorem dX2_turn_5 : decode cX2_turn 5 = .ok (.ifCond .ne 7, 3) := by decide +kernel
theorem dX2_turn_8 : decode cX2_turn 8 = .ok (.iconst (-1), 1) := by decide +kernel
theorem dX2_turn_9 : decode cX2_turn 9 = .ok (.goto 24, 3) := by decide +kernel
theorem dX2_turn_12 : decode cX2_turn 12 = .ok (.iload_n 2, 1) := by decide +kernel
theorem dX2_turn_13 : decode cX2_turn 13 = .ok (.iconst 0, 1) := by decide +kernel
theorem dX2_turn_14 : decode cX2_turn 14 = .ok (.iconst 5, 1) := by decide +kernel
theorem dX2_turn_15 : decode cX2_turn 15 = .ok (.invokestatic 94, 3) := by decide +kernel
theorem dX2_turn_18 : decode cX2_turn 18 = .ok (.ifCond .ne 8, 3) := by decide +kernel
theorem dX2_turn_21 : decode cX2_turn 21 = .ok (.bipush (-2), 2) := by decide +kernel
theorem dX2_turn_23 : decode cX2_turn 23 = .ok (.goto 10, 3) := by decide +kernel
theorem dX2_turn_26 : decode cX2_turn 26 = .ok (.iload_n 3, 1) := by decide +kernel
theorem dX2_turn_27 : decode cX2_turn 27 = .ok (.iconst 0, 1) := by decide +kernel
theorem dX2_turn_28 : decode cX2_turn 28 = .ok (.bipush 9, 2) := by decide +kernel
theorem dX2_turn_30 : decode cX2_turn 30 = .ok (.invokestatic 76, 3) := by decide +kernel
theorem dX2_turn_33 : decode cX2_turn 33 = .ok (.istore 4, 2) := by decide +kernel
theorem dX2_turn_35 : decode cX2_turn 35 = .ok (.iload 4, 2) := by decide +kernel
theorem dX2_turn_37 : decode cX2_turn 37 = .ok (.ifCond .eq 10, 3) := by decide +kernel
theorem dX2_turn_40 : decode cX2_turn 40 = .ok (.aload_n 0, 1) := by decide +kernel
theorem dX2_turn_41 : decode cX2_turn 41 = .ok (.iload 4, 2) := by decide +kernel
theorem dX2_turn_43 : decode cX2_turn 43 = .ok (.invokevirtual 83, 3) := by decide +kernel
theorem dX2_turn_46 : decode cX2_turn 46 = .ok (.ireturn, 1) := by decide +kernel
theorem dX2_turn_47 : decode cX2_turn 47 = .ok (.bipush 10, 2) := by decide +kernel
theorem dX2_turn_49 : decode cX2_turn 49 = .ok (.aload_n 0, 1) := by decide +kernel
theorem dX2_turn_50 : decode cX2_turn 50 = .ok (.getfield 31, 3) := by decide +kernel
theorem dX2_turn_53 : decode cX2_turn 53 = .ok (.iload_n 1, 1) := by decide +kernel
theorem dX2_turn_54 : decode cX2_turn 54 = .ok (.iaload, 1) := by decide +kernel
theorem dX2_turn_55 : decode cX2_turn 55 = .ok (.imul, 1) := by decide +kernel
theorem dX2_turn_56 : decode cX2_turn 56 = .ok (.aload_n 0, 1) := by decide +kernel
theorem dX2_turn_57 : decode cX2_turn 57 = .ok (.getfield 34, 3) := by decide +kernel
theorem dX2_turn_60 : decode cX2_turn 60 = .ok (.iload_n 1, 1) := by decide +kernel
theorem dX2_turn_61 : decode cX2_turn 61 = .ok (.iaload, 1) := by decide +kernel
theorem dX2_turn_62 : decode cX2_turn 62 = .ok (.iadd, 1) := by decide +kernel
theorem dX2_turn_63 : decode cX2_turn 63 = .ok (.istore 5, 2) := by decide +kernel
theorem dX2_turn_65 : decode cX2_turn 65 = .ok (.aload_n 0, 1) := by decide +kernel
theorem dX2_turn_66 : decode cX2_turn 66 = .ok (.getfield 31, 3) := by decide +kernel
theorem dX2_turn_69 : decode cX2_turn 69 = .ok (.iload_n 1, 1) := by decide +kernel
theorem dX2_turn_70 : decode cX2_turn 70 = .ok (.iload_n 2, 1) := by decide +kernel
theorem dX2_turn_71 : decode cX2_turn 71 = .ok (.iastore, 1) := by decide +kernel
theorem dX2_turn_72 : decode cX2_turn 72 = .ok (.aload_n 0, 1) := by decide +kernel
theorem dX2_turn_73 : decode cX2_turn 73 = .ok (.getfield 34, 3) := by decide +kernel
theorem dX2_turn_76 : decode cX2_turn 76 = .ok (.iload_n 1, 1) := by decide +kernel
theorem dX2_turn_77 : decode cX2_turn 77 = .ok (.iload_n 3, 1) := by decide +kernel
theorem dX2_turn_78 : decode cX2_turn 78 = .ok (.iastore, 1) := by decide +kernel
theorem dX2_turn_79 : decode cX2_turn 79 = .ok (.iload 5, 2) := by decide +kernel
theorem dX2_turn_81 : decode cX2_turn 81 = .ok (.ireturn, 1) := by decide +kernel
set_option maxRecDepth 20000 in
theorem ggX2_months_X2_bound : GoodIn wsX2_months wsX2_bound := goodIn_r _ [6] (by decide +kernel) (by decide +kernel)
set_option maxRecDepth 20000 in
theorem gX2_months_X2_bound : GoodIn wsX2_months (va_wsS RX2 76 yX2_bound wsX2_bound) := goodIn_app (goodIn_of _ (by decide +kernel)) ggX2_months_X2_bound
set_option maxRecDepth 20000 in
theorem ggX2_months_X2_no : GoodIn wsX2_months wsX2_no := goodIn_r _ [10, 11, 82, 83, 84, 85, 86, 87, 88, 89, 90, 91, 92, 93, 94, 95, 96, 97, 98, 99, 100, 101, 102, 103, 104, 105, 106, 107, 108, 109, 110, 111, 112] (by decide +kernel) (by decide +kernel)
set_option maxRecDepth 20000 in
theorem gX2_months_X2_no : GoodIn wsX2_months (wsV RX2 83 RX2 yX2_no wsX2_no) := goodIn_app (goodIn_of _ (by decide +kernel)) ggX2_months_X2_no
set_option maxRecDepth 20000 in
theorem ggX2_months_X2_goes : GoodIn wsX2_months wsX2_goes := goodIn_r _ [15, 16, 17, 18, 5, 19, 1, 2, 20, 21, 22, 23, 24, 25, 26, 27, 28, 29, 30, 31, 32, 33, 34, 35, 36, 37, 38, 39, 40, 41, 42, 43, 44, 45, 46, 47, 48, 49, 50, 51, 52, 53, 54, 55, 56, 57, 58, 59, 60, 61, 62, 63, 64, 65, 66, 67, 68, 69, 70, 71, 72, 73, 74, 82, 83, 84, 85, 86, 87, 88, 89, 90, 91, 92, 93, 94, 95, 96, 97, 98, 99, 100, 101, 102, 103, 104, 105, 106, 107, 108, 109, 110, 111, 112] (by decide +kernel) (by decide +kernel)
set_option maxRecDepth 20000 in
theorem gX2_months_X2_goes : GoodIn wsX2_months (wsV RX2 132 RX2 yX2_goes wsX2_goes) := goodIn_app (goodIn_of _ (by decide +kernel)) ggX2_months_X2_goes
set_option maxRecDepth 20000 in
theorem ggX2_months_X2_pile : GoodIn wsX2_months wsX2_pile := goodIn_r _ [78, 2, 20, 82, 83, 84, 85, 86, 87, 88, 89, 90, 91, 92, 93, 94, 95, 96, 97, 98, 99, 100, 101, 102, 103, 104, 105, 106, 107, 108, 109, 110, 111, 112] (by decide +kernel) (by decide +kernel)
set_option maxRecDepth 20000 in
theorem gX2_months_X2_pile : GoodIn wsX2_months (wsV RX2 229 RX2 yX2_pile wsX2_pile) := goodIn_app (goodIn_of _ (by decide +kernel)) ggX2_months_X2_pile
set_option maxRecDepth 20000 in
theorem ggX2_months_X2_bits : GoodIn wsX2_months wsX2_bits := goodIn_r _ [81] (by decide +kernel) (by decide +kernel)
set_option maxRecDepth 20000 in
theorem gX2_months_X2_bits : GoodIn wsX2_months (va_wsS RX2 232 yX2_bits wsX2_bits) := goodIn_app (goodIn_of _ (by decide +kernel)) ggX2_months_X2_bits
theorem dX2_months_0 : decode cX2_months 0 = .ok (.iload_n 1, 1) := by decide +kernel
theorem dX2_months_1 : decode cX2_months 1 = .ok (.iconst 1, 1) := by decide +kernel
theorem dX2_months_2 : decode cX2_months 2 = .ok (.bipush 60, 2) := by decide +kernel
theorem dX2_months_4 : decode cX2_months 4 = .ok (.invokestatic 76, 3) := by decide +kernel
theorem dX2_months_7 : decode cX2_months 7 = .ok (.istore_n 2, 1) := by decide +kernel
theorem dX2_months_8 : decode cX2_months 8 = .ok (.iload_n 2, 1) := by decide +kernel
theorem dX2_months_9 : decode cX2_months 9 = .ok (.ifCond .ne 18, 3) := by decide +kernel
theorem dX2_months_12 : decode cX2_months 12 = .ok (.aload_n 0, 1) := by decide +kernel
theorem dX2_months_13 : decode cX2_months 13 = .ok (.getfield 129, 3) := by decide +kernel
theorem dX2_months_16 : decode cX2_months 16 = .ok (.iload_n 1, 1) := by decide +kernel
theorem dX2_months_17 : decode cX2_months 17 = .ok (.iadd, 1) := by decide +kernel
theorem dX2_months_18 : decode cX2_months 18 = .ok (.sipush 999, 3) := by decide +kernel
theorem dX2_months_21 : decode cX2_months 21 = .ok (.if_icmp .le 6, 3) := by decide +kernel
theorem dX2_months_24 : decode cX2_months 24 = .ok (.bipush (-6), 2) := by decide +kernel
theorem dX2_months_26 : decode cX2_months 26 = .ok (.istore_n 2, 1) := by decide +kernel
theorem dX2_months_27 : decode cX2_months 27 = .ok (.iload_n 2, 1) := by decide +kernel
theorem dX2_months_28 : decode cX2_months 28 = .ok (.ifCond .eq 9, 3) := by decide +kernel
theorem dX2_months_31 : decode cX2_months 31 = .ok (.aload_n 0, 1) := by decide +kernel
theorem dX2_months_32 : decode cX2_months 32 = .ok (.iload_n 2, 1) := by decide +kernel
theorem dX2_months_33 : decode cX2_months 33 = .ok (.invokevirtual 83, 3) := by decide +kernel
theorem dX2_months_36 : decode cX2_months 36 = .ok (.ireturn, 1) := by decide +kernel
theorem dX2_months_37 : decode cX2_months 37 = .ok (.aload_n 0, 1) := by decide +kernel
theorem dX2_months_38 : decode cX2_months 38 = .ok (.iload_n 1, 1) := by decide +kernel
theorem dX2_months_39 : decode cX2_months 39 = .ok (.invokevirtual 132, 3) := by decide +kernel
theorem dX2_months_42 : decode cX2_months 42 = .ok (.aload_n 0, 1) := by decide +kernel
theorem dX2_months_43 : decode cX2_months 43 = .ok (.getfield 67, 3) := by decide +kernel
theorem dX2_months_46 : decode cX2_months 46 = .ok (.aload_n 0, 1) := by decide +kernel
theorem dX2_months_47 : decode cX2_months 47 = .ok (.invokevirtual 229, 3) := by decide +kernel
theorem dX2_months_50 : decode cX2_months 50 = .ok (.invokestatic 232, 3) := by decide +kernel
theorem dX2_months_53 : decode cX2_months 53 = .ok (.isub, 1) := by decide +kernel
theorem dX2_months_54 : decode cX2_months 54 = .ok (.ireturn, 1) := by decide +kernel
set_option maxRecDepth 20000 in
theorem ggX2_cardThen_X2_isCard : GoodIn wsX2_cardThen wsX2_isCard := goodIn_r _ [5, 6, 106, 107, 108, 109, 110, 111, 112, 113, 114, 115, 116, 117, 118, 119, 120, 121, 122, 123, 124, 125, 126, 127, 128, 129, 130, 131, 132, 133, 134, 135, 136] (by decide +kernel) (by decide +kernel)
set_option maxRecDepth 20000 in
theorem gX2_cardThen_X2_isCard : GoodIn wsX2_cardThen (wsV RX2 118 RX2 yX2_isCard wsX2_isCard) := goodIn_app (goodIn_of _ (by decide +kernel)) ggX2_cardThen_X2_isCard
set_option maxRecDepth 20000 in
theorem ggX2_cardThen_X2_bound : GoodIn wsX2_cardThen wsX2_bound := goodIn_r _ [9] (by decide +kernel) (by decide +kernel)
set_option maxRecDepth 20000 in
theorem gX2_cardThen_X2_bound : GoodIn wsX2_cardThen (va_wsS RX2 76 yX2_bound wsX2_bound) := goodIn_app (goodIn_of _ (by decide +kernel)) ggX2_cardThen_X2_bound
set_option maxRecDepth 20000 in
theorem ggX2_cardThen_X2_no : GoodIn wsX2_cardThen wsX2_no := goodIn_r _ [13, 14, 106, 107, 108, 109, 110, 111, 112, 113, 114, 115, 116, 117, 118, 119, 120, 121, 122, 123, 124, 125, 126, 127, 128, 129, 130, 131, 132, 133, 134, 135, 136] (by decide +kernel) (by decide +kernel)
set_option maxRecDepth 20000 in
theorem gX2_cardThen_X2_no : GoodIn wsX2_cardThen (wsV RX2 83 RX2 yX2_no wsX2_no) := goodIn_app (goodIn_of _ (by decide +kernel)) ggX2_cardThen_X2_no
set_option maxRecDepth 20000 in
theorem ggX2_cardThen_X2_thinks : GoodIn wsX2_cardThen wsX2_thinks := goodIn_r _ [18, 19, 20, 21, 4, 22, 23, 24, 25, 26, 27, 28, 29, 30, 31, 32, 33, 34, 6, 35, 36, 37, 38, 39, 40, 41, 42, 43, 44, 45, 106, 107, 108, 109, 110, 111, 112, 113, 114, 115, 116, 117, 118, 119, 120, 121, 122, 123, 124, 125, 126, 127, 128, 129, 130, 131, 132, 133, 134, 135, 136] (by decide +kernel) (by decide +kernel)
set_option maxRecDepth 20000 in
theorem gX2_cardThen_X2_thinks : GoodIn wsX2_cardThen (wsV RX2 235 RX2 yX2_thinks wsX2_thinks) := goodIn_app (goodIn_of _ (by decide +kernel)) ggX2_cardThen_X2_thinks
set_option maxRecDepth 20000 in
theorem ggX2_cardThen_X2_goes : GoodIn wsX2_cardThen wsX2_goes := goodIn_r _ [49, 50, 51, 52, 4, 53, 36, 6, 29, 30, 28, 35, 33, 54, 55, 56, 57, 58, 27, 34, 59, 60, 61, 62, 63, 64, 65, 66, 67, 68, 69, 70, 71, 72, 73, 74, 75, 76, 77, 78, 32, 31, 79, 80, 81, 82, 26, 25, 83, 84, 85, 86, 87, 88, 89, 90, 91, 92, 93, 94, 95, 96, 97, 106, 107, 108, 109, 110, 111, 112, 113, 114, 115, 116, 117, 118, 119, 120, 121, 122, 123, 124, 125, 126, 127, 128, 129, 130, 131, 132, 133, 134, 135, 136] (by decide +kernel) (by decide +kernel)
set_option maxRecDepth 20000 in
theorem gX2_cardThen_X2_goes : GoodIn wsX2_cardThen (wsV RX2 132 RX2 yX2_goes wsX2_goes) := goodIn_app (goodIn_of _ (by decide +kernel)) ggX2_cardThen_X2_goes
set_option maxRecDepth 20000 in
theorem ggX2_cardThen_X2_holderOf : GoodIn wsX2_cardThen wsX2_holderOf := goodIn_r _ [101, 29, 106, 107, 108, 109, 110, 111, 112, 113, 114, 115, 116, 117, 118, 119, 120, 121, 122, 123, 124, 125, 126, 127, 128, 129, 130, 131, 132, 133, 134, 135, 136] (by decide +kernel) (by decide +kernel)
set_option maxRecDepth 20000 in
theorem gX2_cardThen_X2_holderOf : GoodIn wsX2_cardThen (wsV RX2 217 RX2 yX2_holderOf wsX2_holderOf) := goodIn_app (goodIn_of _ (by decide +kernel)) ggX2_cardThen_X2_holderOf
set_option maxRecDepth 20000 in
theorem ggX2_cardThen_X2_forgets : GoodIn wsX2_cardThen wsX2_forgets := goodIn_r _ [105, 19, 20, 21, 4, 22, 23, 24, 25, 26, 27, 28, 29, 30, 31, 32, 33, 34, 6, 35, 36, 37, 38, 39, 40, 41, 42, 43, 44, 45, 106, 107, 108, 109, 110, 111, 112, 113, 114, 115, 116, 117, 118, 119, 120, 121, 122, 123, 124, 125, 126, 127, 128, 129, 130, 131, 132, 133, 134, 135, 136] (by decide +kernel) (by decide +kernel)
set_option maxRecDepth 20000 in
theorem gX2_cardThen_X2_forgets : GoodIn wsX2_cardThen (wsV RX2 238 RX2 yX2_forgets wsX2_forgets) := goodIn_app (goodIn_of _ (by decide +kernel)) ggX2_cardThen_X2_forgets
theorem dX2_cardThen_0 : decode cX2_cardThen 0 = .ok (.aload_n 0, 1) := by decide +kernel
theorem dX2_cardThen_1 : decode cX2_cardThen 1 = .ok (.iload_n 1, 1) := by decide +kernel
theorem dX2_cardThen_2 : decode cX2_cardThen 2 = .ok (.invokevirtual 118, 3) := by decide +kernel
theorem dX2_cardThen_5 : decode cX2_cardThen 5 = .ok (.ifCond .ne 7, 3) := by decide +kernel
theorem dX2_cardThen_8 : decode cX2_cardThen 8 = .ok (.iconst (-1), 1) := by decide +kernel
theorem dX2_cardThen_9 : decode cX2_cardThen 9 = .ok (.goto 10, 3) := by decide +kernel
theorem dX2_cardThen_12 : decode cX2_cardThen 12 = .ok (.iload_n 2, 1) := by decide +kernel
theorem dX2_cardThen_13 : decode cX2_cardThen 13 = .ok (.iconst 0, 1) := by decide +kernel
theorem dX2_cardThen_14 : decode cX2_cardThen 14 = .ok (.bipush 60, 2) := by decide +kernel
theorem dX2_cardThen_16 : decode cX2_cardThen 16 = .ok (.invokestatic 76, 3) := by decide +kernel
theorem dX2_cardThen_19 : decode cX2_cardThen 19 = .ok (.istore_n 3, 1) := by decide +kernel
theorem dX2_cardThen_20 : decode cX2_cardThen 20 = .ok (.iload_n 3, 1) := by decide +kernel
theorem dX2_cardThen_21 : decode cX2_cardThen 21 = .ok (.ifCond .eq 9, 3) := by decide +kernel
theorem dX2_cardThen_24 : decode cX2_cardThen 24 = .ok (.aload_n 0, 1) := by decide +kernel
theorem dX2_cardThen_25 : decode cX2_cardThen 25 = .ok (.iload_n 3, 1) := by decide +kernel
theorem dX2_cardThen_26 : decode cX2_cardThen 26 = .ok (.invokevirtual 83, 3) := by decide +kernel
theorem dX2_cardThen_29 : decode cX2_cardThen 29 = .ok (.ireturn, 1) := by decide +kernel
theorem dX2_cardThen_30 : decode cX2_cardThen 30 = .ok (.aload_n 0, 1) := by decide +kernel
theorem dX2_cardThen_31 : decode cX2_cardThen 31 = .ok (.invokevirtual 235, 3) := by decide +kernel
theorem dX2_cardThen_34 : decode cX2_cardThen 34 = .ok (.aload_n 0, 1) := by decide +kernel
theorem dX2_cardThen_35 : decode cX2_cardThen 35 = .ok (.iload_n 2, 1) := by decide +kernel
theorem dX2_cardThen_36 : decode cX2_cardThen 36 = .ok (.invokevirtual 132, 3) := by decide +kernel
theorem dX2_cardThen_39 : decode cX2_cardThen 39 = .ok (.aload_n 0, 1) := by decide +kernel
theorem dX2_cardThen_40 : decode cX2_cardThen 40 = .ok (.iload_n 1, 1) := by decide +kernel
theorem dX2_cardThen_41 : decode cX2_cardThen 41 = .ok (.invokevirtual 217, 3) := by decide +kernel
theorem dX2_cardThen_44 : decode cX2_cardThen 44 = .ok (.istore 4, 2) := by decide +kernel
theorem dX2_cardThen_46 : decode cX2_cardThen 46 = .ok (.aload_n 0, 1) := by decide +kernel
theorem dX2_cardThen_47 : decode cX2_cardThen 47 = .ok (.invokevirtual 238, 3) := by decide +kernel
theorem dX2_cardThen_50 : decode cX2_cardThen 50 = .ok (.iload 4, 2) := by decide +kernel
theorem dX2_cardThen_52 : decode cX2_cardThen 52 = .ok (.ireturn, 1) := by decide +kernel
set_option maxRecDepth 20000 in
theorem ggX2_bidderThen_X2_isBidder : GoodIn wsX2_bidderThen wsX2_isBidder := goodIn_r _ [7, 8, 101, 102, 103, 104, 105, 106, 107, 108, 109, 110, 111, 112, 113, 114, 115, 116, 117, 118, 119, 120, 121, 122, 123, 124, 125, 126, 127, 128, 129, 130, 131] (by decide +kernel) (by decide +kernel)
set_option maxRecDepth 20000 in
theorem gX2_bidderThen_X2_isBidder : GoodIn wsX2_bidderThen (wsV RX2 122 RX2 yX2_isBidder wsX2_isBidder) := goodIn_app (goodIn_of _ (by decide +kernel)) ggX2_bidderThen_X2_isBidder
set_option maxRecDepth 20000 in
theorem ggX2_bidderThen_X2_bound : GoodIn wsX2_bidderThen wsX2_bound := goodIn_r _ [11] (by decide +kernel) (by decide +kernel)
set_option maxRecDepth 20000 in
theorem gX2_bidderThen_X2_bound : GoodIn wsX2_bidderThen (va_wsS RX2 76 yX2_bound wsX2_bound) := goodIn_app (goodIn_of _ (by decide +kernel)) ggX2_bidderThen_X2_bound
set_option maxRecDepth 20000 in
theorem ggX2_bidderThen_X2_isIn : GoodIn wsX2_bidderThen wsX2_isIn := goodIn_r _ [14] (by decide +kernel) (by decide +kernel)
set_option maxRecDepth 20000 in
theorem gX2_bidderThen_X2_isIn : GoodIn wsX2_bidderThen (va_wsS RX2 94 yX2_isIn wsX2_isIn) := goodIn_app (goodIn_of _ (by decide +kernel)) ggX2_bidderThen_X2_isIn
set_option maxRecDepth 20000 in
theorem ggX2_bidderThen_X2_no : GoodIn wsX2_bidderThen wsX2_no := goodIn_r _ [18, 19, 101, 102, 103, 104, 105, 106, 107, 108, 109, 110, 111, 112, 113, 114, 115, 116, 117, 118, 119, 120, 121, 122, 123, 124, 125, 126, 127, 128, 129, 130, 131] (by decide +kernel) (by decide +kernel)
set_option maxRecDepth 20000 in
theorem gX2_bidderThen_X2_no : GoodIn wsX2_bidderThen (wsV RX2 83 RX2 yX2_no wsX2_no) := goodIn_app (goodIn_of _ (by decide +kernel)) ggX2_bidderThen_X2_no
set_option maxRecDepth 20000 in
theorem ggX2_bidderThen_X2_thinks : GoodIn wsX2_bidderThen wsX2_thinks := goodIn_r _ [23, 24, 25, 26, 6, 27, 28, 29, 30, 31, 32, 33, 34, 35, 36, 37, 1, 2, 38, 8, 39, 40, 41, 42, 43, 44, 45, 46, 47, 48, 101, 102, 103, 104, 105, 106, 107, 108, 109, 110, 111, 112, 113, 114, 115, 116, 117, 118, 119, 120, 121, 122, 123, 124, 125, 126, 127, 128, 129, 130, 131] (by decide +kernel) (by decide +kernel)
set_option maxRecDepth 20000 in
theorem gX2_bidderThen_X2_thinks : GoodIn wsX2_bidderThen (wsV RX2 235 RX2 yX2_thinks wsX2_thinks) := goodIn_app (goodIn_of _ (by decide +kernel)) ggX2_bidderThen_X2_thinks
set_option maxRecDepth 20000 in
theorem ggX2_bidderThen_X2_goes : GoodIn wsX2_bidderThen wsX2_goes := goodIn_r _ [52, 53, 54, 55, 6, 56, 39, 38, 34, 35, 33, 8, 1, 57, 58, 59, 60, 61, 32, 2, 62, 63, 64, 65, 66, 67, 68, 69, 70, 71, 72, 73, 74, 75, 76, 77, 78, 79, 80, 81, 37, 36, 82, 83, 84, 85, 31, 30, 86, 87, 88, 89, 3, 4, 5, 7, 90, 91, 92, 93, 94, 95, 96, 101, 102, 103, 104, 105, 106, 107, 108, 109, 110, 111, 112, 113, 114, 115, 116, 117, 118, 119, 120, 121, 122, 123, 124, 125, 126, 127, 128, 129, 130, 131] (by decide +kernel) (by decide +kernel)
set_option maxRecDepth 20000 in
theorem gX2_bidderThen_X2_goes : GoodIn wsX2_bidderThen (wsV RX2 132 RX2 yX2_goes wsX2_goes) := goodIn_app (goodIn_of _ (by decide +kernel)) ggX2_bidderThen_X2_goes
set_option maxRecDepth 20000 in
theorem ggX2_bidderThen_X2_forgets : GoodIn wsX2_bidderThen wsX2_forgets := goodIn_r _ [100, 24, 25, 26, 6, 27, 28, 29, 30, 31, 32, 33, 34, 35, 36, 37, 1, 2, 38, 8, 39, 40, 41, 42, 43, 44, 45, 46, 47, 48, 101, 102, 103, 104, 105, 106, 107, 108, 109, 110, 111, 112, 113, 114, 115, 116, 117, 118, 119, 120, 121, 122, 123, 124, 125, 126, 127, 128, 129, 130, 131] (by decide +kernel) (by decide +kernel)
set_option maxRecDepth 20000 in
theorem gX2_bidderThen_X2_forgets : GoodIn wsX2_bidderThen (wsV RX2 238 RX2 yX2_forgets wsX2_forgets) := goodIn_app (goodIn_of _ (by decide +kernel)) ggX2_bidderThen_X2_forgets
theorem dX2_bidderThen_0 : decode cX2_bidderThen 0 = .ok (.aload_n 0, 1) := by decide +kernel
theorem dX2_bidderThen_1 : decode cX2_bidderThen 1 = .ok (.iload_n 1, 1) := by decide +kernel
theorem dX2_bidderThen_2 : decode cX2_bidderThen 2 = .ok (.invokevirtual 122, 3) := by decide +kernel
theorem dX2_bidderThen_5 : decode cX2_bidderThen 5 = .ok (.ifCond .ne 7, 3) := by decide +kernel
theorem dX2_bidderThen_8 : decode cX2_bidderThen 8 = .ok (.iconst (-1), 1) := by decide +kernel
theorem dX2_bidderThen_9 : decode cX2_bidderThen 9 = .ok (.goto 10, 3) := by decide +kernel
theorem dX2_bidderThen_12 : decode cX2_bidderThen 12 = .ok (.iload_n 2, 1) := by decide +kernel
theorem dX2_bidderThen_13 : decode cX2_bidderThen 13 = .ok (.iconst 0, 1) := by decide +kernel
theorem dX2_bidderThen_14 : decode cX2_bidderThen 14 = .ok (.bipush 60, 2) := by decide +kernel
theorem dX2_bidderThen_16 : decode cX2_bidderThen 16 = .ok (.invokestatic 76, 3) := by decide +kernel
theorem dX2_bidderThen_19 : decode cX2_bidderThen 19 = .ok (.istore 4, 2) := by decide +kernel
theorem dX2_bidderThen_21 : decode cX2_bidderThen 21 = .ok (.iload 4, 2) := by decide +kernel
theorem dX2_bidderThen_23 : decode cX2_bidderThen 23 = .ok (.ifCond .ne 16, 3) := by decide +kernel
theorem dX2_bidderThen_26 : decode cX2_bidderThen 26 = .ok (.iload_n 3, 1) := by decide +kernel
theorem dX2_bidderThen_27 : decode cX2_bidderThen 27 = .ok (.iconst 0, 1) := by decide +kernel
theorem dX2_bidderThen_28 : decode cX2_bidderThen 28 = .ok (.iconst 1, 1) := by decide +kernel
theorem dX2_bidderThen_29 : decode cX2_bidderThen 29 = .ok (.invokestatic 94, 3) := by decide +kernel
theorem dX2_bidderThen_32 : decode cX2_bidderThen 32 = .ok (.ifCond .ne 7, 3) := by decide +kernel
theorem dX2_bidderThen_35 : decode cX2_bidderThen 35 = .ok (.bipush (-2), 2) := by decide +kernel
theorem dX2_bidderThen_37 : decode cX2_bidderThen 37 = .ok (.istore 4, 2) := by decide +kernel
theorem dX2_bidderThen_39 : decode cX2_bidderThen 39 = .ok (.iload 4, 2) := by decide +kernel
theorem dX2_bidderThen_41 : decode cX2_bidderThen 41 = .ok (.ifCond .eq 10, 3) := by decide +kernel
theorem dX2_bidderThen_44 : decode cX2_bidderThen 44 = .ok (.aload_n 0, 1) := by decide +kernel
theorem dX2_bidderThen_45 : decode cX2_bidderThen 45 = .ok (.iload 4, 2) := by decide +kernel
theorem dX2_bidderThen_47 : decode cX2_bidderThen 47 = .ok (.invokevirtual 83, 3) := by decide +kernel
theorem dX2_bidderThen_50 : decode cX2_bidderThen 50 = .ok (.ireturn, 1) := by decide +kernel
theorem dX2_bidderThen_51 : decode cX2_bidderThen 51 = .ok (.aload_n 0, 1) := by decide +kernel
theorem dX2_bidderThen_52 : decode cX2_bidderThen 52 = .ok (.invokevirtual 235, 3) := by decide +kernel
theorem dX2_bidderThen_55 : decode cX2_bidderThen 55 = .ok (.aload_n 0, 1) := by decide +kernel
theorem dX2_bidderThen_56 : decode cX2_bidderThen 56 = .ok (.iload_n 2, 1) := by decide +kernel
theorem dX2_bidderThen_57 : decode cX2_bidderThen 57 = .ok (.invokevirtual 132, 3) := by decide +kernel
theorem dX2_bidderThen_60 : decode cX2_bidderThen 60 = .ok (.iload_n 3, 1) := by decide +kernel
theorem dX2_bidderThen_61 : decode cX2_bidderThen 61 = .ok (.ifCond .ne 12, 3) := by decide +kernel
theorem dX2_bidderThen_64 : decode cX2_bidderThen 64 = .ok (.aload_n 0, 1) := by decide +kernel
theorem dX2_bidderThen_65 : decode cX2_bidderThen 65 = .ok (.getfield 37, 3) := by decide +kernel
theorem dX2_bidderThen_68 : decode cX2_bidderThen 68 = .ok (.iload_n 1, 1) := by decide +kernel
theorem dX2_bidderThen_69 : decode cX2_bidderThen 69 = .ok (.iaload, 1) := by decide +kernel
theorem dX2_bidderThen_70 : decode cX2_bidderThen 70 = .ok (.goto 9, 3) := by decide +kernel
theorem dX2_bidderThen_73 : decode cX2_bidderThen 73 = .ok (.aload_n 0, 1) := by decide +kernel
theorem dX2_bidderThen_74 : decode cX2_bidderThen 74 = .ok (.getfield 40, 3) := by decide +kernel
theorem dX2_bidderThen_77 : decode cX2_bidderThen 77 = .ok (.iload_n 1, 1) := by decide +kernel
theorem dX2_bidderThen_78 : decode cX2_bidderThen 78 = .ok (.iaload, 1) := by decide +kernel
theorem dX2_bidderThen_79 : decode cX2_bidderThen 79 = .ok (.istore 5, 2) := by decide +kernel
theorem dX2_bidderThen_81 : decode cX2_bidderThen 81 = .ok (.aload_n 0, 1) := by decide +kernel
theorem dX2_bidderThen_82 : decode cX2_bidderThen 82 = .ok (.invokevirtual 238, 3) := by decide +kernel
theorem dX2_bidderThen_85 : decode cX2_bidderThen 85 = .ok (.iload 5, 2) := by decide +kernel
theorem dX2_bidderThen_87 : decode cX2_bidderThen 87 = .ok (.ireturn, 1) := by decide +kernel
set_option maxRecDepth 20000 in
theorem ggX2_pileThen_X2_bound : GoodIn wsX2_pileThen wsX2_bound := goodIn_r _ [4] (by decide +kernel) (by decide +kernel)
set_option maxRecDepth 20000 in
theorem gX2_pileThen_X2_bound : GoodIn wsX2_pileThen (va_wsS RX2 76 yX2_bound wsX2_bound) := goodIn_app (goodIn_of _ (by decide +kernel)) ggX2_pileThen_X2_bound
set_option maxRecDepth 20000 in
theorem ggX2_pileThen_X2_no : GoodIn wsX2_pileThen wsX2_no := goodIn_r _ [8, 9, 102, 103, 104, 105, 106, 107, 108, 109, 110, 111, 112, 113, 114, 115, 116, 117, 118, 119, 120, 121, 122, 123, 124, 125, 126, 127, 128, 129, 130, 131, 132] (by decide +kernel) (by decide +kernel)
set_option maxRecDepth 20000 in
theorem gX2_pileThen_X2_no : GoodIn wsX2_pileThen (wsV RX2 83 RX2 yX2_no wsX2_no) := goodIn_app (goodIn_of _ (by decide +kernel)) ggX2_pileThen_X2_no
set_option maxRecDepth 20000 in
theorem ggX2_pileThen_X2_thinks : GoodIn wsX2_pileThen wsX2_thinks := goodIn_r _ [13, 14, 15, 16, 3, 17, 18, 19, 20, 21, 22, 23, 24, 25, 26, 27, 28, 29, 30, 31, 32, 33, 34, 35, 36, 37, 38, 39, 40, 41, 102, 103, 104, 105, 106, 107, 108, 109, 110, 111, 112, 113, 114, 115, 116, 117, 118, 119, 120, 121, 122, 123, 124, 125, 126, 127, 128, 129, 130, 131, 132] (by decide +kernel) (by decide +kernel)
set_option maxRecDepth 20000 in
theorem gX2_pileThen_X2_thinks : GoodIn wsX2_pileThen (wsV RX2 235 RX2 yX2_thinks wsX2_thinks) := goodIn_app (goodIn_of _ (by decide +kernel)) ggX2_pileThen_X2_thinks
set_option maxRecDepth 20000 in
theorem ggX2_pileThen_X2_goes : GoodIn wsX2_pileThen wsX2_goes := goodIn_r _ [45, 46, 47, 48, 3, 49, 32, 30, 24, 25, 23, 31, 28, 50, 51, 52, 53, 54, 22, 29, 55, 56, 57, 58, 59, 60, 61, 62, 63, 64, 65, 66, 67, 68, 69, 70, 71, 72, 73, 74, 27, 26, 75, 76, 77, 78, 21, 20, 79, 80, 81, 82, 83, 84, 85, 86, 87, 88, 89, 90, 91, 92, 93, 102, 103, 104, 105, 106, 107, 108, 109, 110, 111, 112, 113, 114, 115, 116, 117, 118, 119, 120, 121, 122, 123, 124, 125, 126, 127, 128, 129, 130, 131, 132] (by decide +kernel) (by decide +kernel)
set_option maxRecDepth 20000 in
theorem gX2_pileThen_X2_goes : GoodIn wsX2_pileThen (wsV RX2 132 RX2 yX2_goes wsX2_goes) := goodIn_app (goodIn_of _ (by decide +kernel)) ggX2_pileThen_X2_goes
set_option maxRecDepth 20000 in
theorem ggX2_pileThen_X2_pile : GoodIn wsX2_pileThen wsX2_pile := goodIn_r _ [97, 30, 24, 102, 103, 104, 105, 106, 107, 108, 109, 110, 111, 112, 113, 114, 115, 116, 117, 118, 119, 120, 121, 122, 123, 124, 125, 126, 127, 128, 129, 130, 131, 132] (by decide +kernel) (by decide +kernel)
set_option maxRecDepth 20000 in
theorem gX2_pileThen_X2_pile : GoodIn wsX2_pileThen (wsV RX2 229 RX2 yX2_pile wsX2_pile) := goodIn_app (goodIn_of _ (by decide +kernel)) ggX2_pileThen_X2_pile
set_option maxRecDepth 20000 in
theorem ggX2_pileThen_X2_forgets : GoodIn wsX2_pileThen wsX2_forgets := goodIn_r _ [101, 14, 15, 16, 3, 17, 18, 19, 20, 21, 22, 23, 24, 25, 26, 27, 28, 29, 30, 31, 32, 33, 34, 35, 36, 37, 38, 39, 40, 41, 102, 103, 104, 105, 106, 107, 108, 109, 110, 111, 112, 113, 114, 115, 116, 117, 118, 119, 120, 121, 122, 123, 124, 125, 126, 127, 128, 129, 130, 131, 132] (by decide +kernel) (by decide +kernel)
set_option maxRecDepth 20000 in
theorem gX2_pileThen_X2_forgets : GoodIn wsX2_pileThen (wsV RX2 238 RX2 yX2_forgets wsX2_forgets) := goodIn_app (goodIn_of _ (by decide +kernel)) ggX2_pileThen_X2_forgets
theorem dX2_pileThen_0 : decode cX2_pileThen 0 = .ok (.iload_n 1, 1) := by decide +kernel
theorem dX2_pileThen_1 : decode cX2_pileThen 1 = .ok (.iconst 0, 1) := by decide +kernel
theorem dX2_pileThen_2 : decode cX2_pileThen 2 = .ok (.bipush 60, 2) := by decide +kernel
theorem dX2_pileThen_4 : decode cX2_pileThen 4 = .ok (.invokestatic 76, 3) := by decide +kernel
theorem dX2_pileThen_7 : decode cX2_pileThen 7 = .ok (.istore_n 2, 1) := by decide +kernel
theorem dX2_pileThen_8 : decode cX2_pileThen 8 = .ok (.iload_n 2, 1) := by decide +kernel
theorem dX2_pileThen_9 : decode cX2_pileThen 9 = .ok (.ifCond .eq 9, 3) := by decide +kernel
theorem dX2_pileThen_12 : decode cX2_pileThen 12 = .ok (.aload_n 0, 1) := by decide +kernel
theorem dX2_pileThen_13 : decode cX2_pileThen 13 = .ok (.iload_n 2, 1) := by decide +kernel
theorem dX2_pileThen_14 : decode cX2_pileThen 14 = .ok (.invokevirtual 83, 3) := by decide +kernel
theorem dX2_pileThen_17 : decode cX2_pileThen 17 = .ok (.ireturn, 1) := by decide +kernel
theorem dX2_pileThen_18 : decode cX2_pileThen 18 = .ok (.aload_n 0, 1) := by decide +kernel
theorem dX2_pileThen_19 : decode cX2_pileThen 19 = .ok (.invokevirtual 235, 3) := by decide +kernel
theorem dX2_pileThen_22 : decode cX2_pileThen 22 = .ok (.aload_n 0, 1) := by decide +kernel
theorem dX2_pileThen_23 : decode cX2_pileThen 23 = .ok (.iload_n 1, 1) := by decide +kernel
theorem dX2_pileThen_24 : decode cX2_pileThen 24 = .ok (.invokevirtual 132, 3) := by decide +kernel
theorem dX2_pileThen_27 : decode cX2_pileThen 27 = .ok (.aload_n 0, 1) := by decide +kernel
theorem dX2_pileThen_28 : decode cX2_pileThen 28 = .ok (.invokevirtual 229, 3) := by decide +kernel
theorem dX2_pileThen_31 : decode cX2_pileThen 31 = .ok (.istore_n 3, 1) := by decide +kernel
theorem dX2_pileThen_32 : decode cX2_pileThen 32 = .ok (.aload_n 0, 1) := by decide +kernel
theorem dX2_pileThen_33 : decode cX2_pileThen 33 = .ok (.invokevirtual 238, 3) := by decide +kernel
theorem dX2_pileThen_36 : decode cX2_pileThen 36 = .ok (.iload_n 3, 1) := by decide +kernel
theorem dX2_pileThen_37 : decode cX2_pileThen 37 = .ok (.ireturn, 1) := by decide +kernel
set_option maxRecDepth 20000 in
theorem ggX2_sold_X2_isCard : GoodIn wsX2_sold wsX2_isCard := goodIn_r _ [6, 7, 95, 96, 97, 98, 99, 100, 101, 102, 103, 104, 105, 106, 107, 108, 109, 110, 111, 112, 113, 114, 115, 116, 117, 118, 119, 120, 121, 122, 123, 124, 125] (by decide +kernel) (by decide +kernel)
set_option maxRecDepth 20000 in
theorem gX2_sold_X2_isCard : GoodIn wsX2_sold (wsV RX2 118 RX2 yX2_isCard wsX2_isCard) := goodIn_app (goodIn_of _ (by decide +kernel)) ggX2_sold_X2_isCard
set_option maxRecDepth 20000 in
theorem ggX2_sold_X2_no : GoodIn wsX2_sold wsX2_no := goodIn_r _ [11, 12, 95, 96, 97, 98, 99, 100, 101, 102, 103, 104, 105, 106, 107, 108, 109, 110, 111, 112, 113, 114, 115, 116, 117, 118, 119, 120, 121, 122, 123, 124, 125] (by decide +kernel) (by decide +kernel)
set_option maxRecDepth 20000 in
theorem gX2_sold_X2_no : GoodIn wsX2_sold (wsV RX2 83 RX2 yX2_no wsX2_no) := goodIn_app (goodIn_of _ (by decide +kernel)) ggX2_sold_X2_no
set_option maxRecDepth 20000 in
theorem ggX2_sold_X2_thinks : GoodIn wsX2_sold wsX2_thinks := goodIn_r _ [16, 17, 18, 19, 5, 20, 21, 22, 23, 24, 25, 26, 1, 27, 28, 29, 30, 31, 7, 32, 33, 34, 35, 36, 37, 38, 39, 40, 41, 42, 95, 96, 97, 98, 99, 100, 101, 102, 103, 104, 105, 106, 107, 108, 109, 110, 111, 112, 113, 114, 115, 116, 117, 118, 119, 120, 121, 122, 123, 124, 125] (by decide +kernel) (by decide +kernel)
set_option maxRecDepth 20000 in
theorem gX2_sold_X2_thinks : GoodIn wsX2_sold (wsV RX2 235 RX2 yX2_thinks wsX2_thinks) := goodIn_app (goodIn_of _ (by decide +kernel)) ggX2_sold_X2_thinks
set_option maxRecDepth 20000 in
theorem ggX2_sold_X2_goesMonth : GoodIn wsX2_sold wsX2_goesMonth := goodIn_r _ [46, 33, 7, 1, 27, 26, 32, 30, 47, 48, 49, 5, 50, 51, 25, 31, 52, 53, 54, 55, 56, 57, 58, 59, 60, 61, 62, 63, 64, 65, 66, 67, 68, 69, 70, 71, 29, 28, 72, 73, 74, 75, 24, 23, 76, 77, 78, 79, 80, 81, 82, 83, 84, 85, 86, 87, 88, 89, 90, 95, 96, 97, 98, 99, 100, 101, 102, 103, 104, 105, 106, 107, 108, 109, 110, 111, 112, 113, 114, 115, 116, 117, 118, 119, 120, 121, 122, 123, 124, 125] (by decide +kernel) (by decide +kernel)
set_option maxRecDepth 20000 in
theorem gX2_sold_X2_goesMonth : GoodIn wsX2_sold (wsV RX2 213 RX2 yX2_goesMonth wsX2_goesMonth) := goodIn_app (goodIn_of _ (by decide +kernel)) ggX2_sold_X2_goesMonth
set_option maxRecDepth 20000 in
theorem ggX2_sold_X2_forgets : GoodIn wsX2_sold wsX2_forgets := goodIn_r _ [94, 17, 18, 19, 5, 20, 21, 22, 23, 24, 25, 26, 1, 27, 28, 29, 30, 31, 7, 32, 33, 34, 35, 36, 37, 38, 39, 40, 41, 42, 95, 96, 97, 98, 99, 100, 101, 102, 103, 104, 105, 106, 107, 108, 109, 110, 111, 112, 113, 114, 115, 116, 117, 118, 119, 120, 121, 122, 123, 124, 125] (by decide +kernel) (by decide +kernel)
set_option maxRecDepth 20000 in
theorem gX2_sold_X2_forgets : GoodIn wsX2_sold (wsV RX2 238 RX2 yX2_forgets wsX2_forgets) := goodIn_app (goodIn_of _ (by decide +kernel)) ggX2_sold_X2_forgets
theorem dX2_sold_0 : decode cX2_sold 0 = .ok (.aload_n 0, 1) := by decide +kernel
theorem dX2_sold_1 : decode cX2_sold 1 = .ok (.iload_n 1, 1) := by decide +kernel
theorem dX2_sold_2 : decode cX2_sold 2 = .ok (.invokevirtual 118, 3) := by decide +kernel
theorem dX2_sold_5 : decode cX2_sold 5 = .ok (.ifCond .ne 9, 3) := by decide +kernel
theorem dX2_sold_8 : decode cX2_sold 8 = .ok (.aload_n 0, 1) := by decide +kernel
theorem dX2_sold_9 : decode cX2_sold 9 = .ok (.iconst (-1), 1) := by decide +kernel
theorem dX2_sold_10 : decode cX2_sold 10 = .ok (.invokevirtual 83, 3) := by decide +kernel
theorem dX2_sold_13 : decode cX2_sold 13 = .ok (.ireturn, 1) := by decide +kernel
theorem dX2_sold_14 : decode cX2_sold 14 = .ok (.aload_n 0, 1) := by decide +kernel
theorem dX2_sold_15 : decode cX2_sold 15 = .ok (.invokevirtual 235, 3) := by decide +kernel
theorem dX2_sold_18 : decode cX2_sold 18 = .ok (.bipush (-9), 2) := by decide +kernel
theorem dX2_sold_20 : decode cX2_sold 20 = .ok (.istore_n 2, 1) := by decide +kernel
theorem dX2_sold_21 : decode cX2_sold 21 = .ok (.iconst 0, 1) := by decide +kernel
theorem dX2_sold_22 : decode cX2_sold 22 = .ok (.istore_n 3, 1) := by decide +kernel
theorem dX2_sold_23 : decode cX2_sold 23 = .ok (.iload_n 3, 1) := by decide +kernel
theorem dX2_sold_24 : decode cX2_sold 24 = .ok (.bipush 60, 2) := by decide +kernel
theorem dX2_sold_26 : decode cX2_sold 26 = .ok (.if_icmp .gt 34, 3) := by decide +kernel
theorem dX2_sold_29 : decode cX2_sold 29 = .ok (.iload_n 2, 1) := by decide +kernel
theorem dX2_sold_30 : decode cX2_sold 30 = .ok (.ifCond .ge 30, 3) := by decide +kernel
theorem dX2_sold_33 : decode cX2_sold 33 = .ok (.aload_n 0, 1) := by decide +kernel
theorem dX2_sold_34 : decode cX2_sold 34 = .ok (.getfield 25, 3) := by decide +kernel
theorem dX2_sold_37 : decode cX2_sold 37 = .ok (.iload_n 1, 1) := by decide +kernel
theorem dX2_sold_38 : decode cX2_sold 38 = .ok (.iaload, 1) := by decide +kernel
theorem dX2_sold_39 : decode cX2_sold 39 = .ok (.ifCond .eq 7, 3) := by decide +kernel
theorem dX2_sold_42 : decode cX2_sold 42 = .ok (.iload_n 3, 1) := by decide +kernel
theorem dX2_sold_43 : decode cX2_sold 43 = .ok (.goto 5, 3) := by decide +kernel
theorem dX2_sold_46 : decode cX2_sold 46 = .ok (.bipush (-9), 2) := by decide +kernel
theorem dX2_sold_48 : decode cX2_sold 48 = .ok (.istore_n 2, 1) := by decide +kernel
theorem dX2_sold_49 : decode cX2_sold 49 = .ok (.aload_n 0, 1) := by decide +kernel
theorem dX2_sold_50 : decode cX2_sold 50 = .ok (.iconst 0, 1) := by decide +kernel
theorem dX2_sold_51 : decode cX2_sold 51 = .ok (.invokevirtual 213, 3) := by decide +kernel
theorem dX2_sold_54 : decode cX2_sold 54 = .ok (.iinc 3 1, 3) := by decide +kernel
theorem dX2_sold_57 : decode cX2_sold 57 = .ok (.goto (-34), 3) := by decide +kernel
theorem dX2_sold_60 : decode cX2_sold 60 = .ok (.aload_n 0, 1) := by decide +kernel
theorem dX2_sold_61 : decode cX2_sold 61 = .ok (.invokevirtual 238, 3) := by decide +kernel
theorem dX2_sold_64 : decode cX2_sold 64 = .ok (.iload_n 2, 1) := by decide +kernel
theorem dX2_sold_65 : decode cX2_sold 65 = .ok (.ireturn, 1) := by decide +kernel
set_option maxRecDepth 20000 in
theorem ggX2_gets_X2_isCard : GoodIn wsX2_gets wsX2_isCard := goodIn_r _ [5, 6, 60, 61, 62, 63, 64, 65, 66, 67, 68, 69, 70, 71, 72, 73, 74, 75, 76, 77, 78, 79, 80, 81, 82, 83, 84, 85, 86, 87, 88, 89, 90] (by decide +kernel) (by decide +kernel)
set_option maxRecDepth 20000 in
theorem gX2_gets_X2_isCard : GoodIn wsX2_gets (wsV RX2 118 RX2 yX2_isCard wsX2_isCard) := goodIn_app (goodIn_of _ (by decide +kernel)) ggX2_gets_X2_isCard
set_option maxRecDepth 20000 in
theorem ggX2_gets_X2_isIn : GoodIn wsX2_gets wsX2_isIn := goodIn_r _ [9] (by decide +kernel) (by decide +kernel)
set_option maxRecDepth 20000 in
theorem gX2_gets_X2_isIn : GoodIn wsX2_gets (va_wsS RX2 94 yX2_isIn wsX2_isIn) := goodIn_app (goodIn_of _ (by decide +kernel)) ggX2_gets_X2_isIn
set_option maxRecDepth 20000 in
theorem ggX2_gets_X2_no : GoodIn wsX2_gets wsX2_no := goodIn_r _ [13, 14, 60, 61, 62, 63, 64, 65, 66, 67, 68, 69, 70, 71, 72, 73, 74, 75, 76, 77, 78, 79, 80, 81, 82, 83, 84, 85, 86, 87, 88, 89, 90] (by decide +kernel) (by decide +kernel)
set_option maxRecDepth 20000 in
theorem gX2_gets_X2_no : GoodIn wsX2_gets (wsV RX2 83 RX2 yX2_no wsX2_no) := goodIn_app (goodIn_of _ (by decide +kernel)) ggX2_gets_X2_no
set_option maxRecDepth 20000 in
theorem ggX2_gets_X2_getter : GoodIn wsX2_gets wsX2_getter := goodIn_r _ [18, 19, 20, 21, 22, 4, 23, 24, 25, 26, 27, 28, 29, 30, 31, 32, 33, 34, 35, 36, 37, 38, 39, 40, 41, 42, 43, 44, 45, 46, 47, 48, 49, 50, 51, 52, 53, 54, 55, 60, 61, 62, 63, 64, 65, 66, 67, 68, 69, 70, 71, 72, 73, 74, 75, 76, 77, 78, 79, 80, 81, 82, 83, 84, 85, 86, 87, 88, 89, 90] (by decide +kernel) (by decide +kernel)
set_option maxRecDepth 20000 in
theorem gX2_gets_X2_getter : GoodIn wsX2_gets (wsV RX2 201 RX2 yX2_getter wsX2_getter) := goodIn_app (goodIn_of _ (by decide +kernel)) ggX2_gets_X2_getter
set_option maxRecDepth 20000 in
theorem ggX2_gets_X2_priceFor : GoodIn wsX2_gets wsX2_priceFor := goodIn_r _ [59, 19, 20, 21, 22, 4, 23, 24, 25, 26, 27, 28, 29, 30, 31, 32, 33, 34, 35, 36, 37, 38, 39, 40, 41, 42, 43, 44, 45, 46, 47, 48, 49, 50, 51, 52, 53, 54, 55, 60, 61, 62, 63, 64, 65, 66, 67, 68, 69, 70, 71, 72, 73, 74, 75, 76, 77, 78, 79, 80, 81, 82, 83, 84, 85, 86, 87, 88, 89, 90] (by decide +kernel) (by decide +kernel)
set_option maxRecDepth 20000 in
theorem gX2_gets_X2_priceFor : GoodIn wsX2_gets (wsV RX2 204 RX2 yX2_priceFor wsX2_priceFor) := goodIn_app (goodIn_of _ (by decide +kernel)) ggX2_gets_X2_priceFor
theorem dX2_gets_0 : decode cX2_gets 0 = .ok (.aload_n 0, 1) := by decide +kernel
theorem dX2_gets_1 : decode cX2_gets 1 = .ok (.iload_n 1, 1) := by decide +kernel
theorem dX2_gets_2 : decode cX2_gets 2 = .ok (.invokevirtual 118, 3) := by decide +kernel
theorem dX2_gets_5 : decode cX2_gets 5 = .ok (.ifCond .ne 7, 3) := by decide +kernel
theorem dX2_gets_8 : decode cX2_gets 8 = .ok (.iconst (-1), 1) := by decide +kernel
theorem dX2_gets_9 : decode cX2_gets 9 = .ok (.goto 18, 3) := by decide +kernel
theorem dX2_gets_12 : decode cX2_gets 12 = .ok (.iload_n 2, 1) := by decide +kernel
theorem dX2_gets_13 : decode cX2_gets 13 = .ok (.iconst 0, 1) := by decide +kernel
theorem dX2_gets_14 : decode cX2_gets 14 = .ok (.iconst 1, 1) := by decide +kernel
theorem dX2_gets_15 : decode cX2_gets 15 = .ok (.invokestatic 94, 3) := by decide +kernel
theorem dX2_gets_18 : decode cX2_gets 18 = .ok (.ifCond .ne 8, 3) := by decide +kernel
theorem dX2_gets_21 : decode cX2_gets 21 = .ok (.bipush (-2), 2) := by decide +kernel
theorem dX2_gets_23 : decode cX2_gets 23 = .ok (.goto 4, 3) := by decide +kernel
theorem dX2_gets_26 : decode cX2_gets 26 = .ok (.iconst 0, 1) := by decide +kernel
theorem dX2_gets_27 : decode cX2_gets 27 = .ok (.istore_n 3, 1) := by decide +kernel
theorem dX2_gets_28 : decode cX2_gets 28 = .ok (.iload_n 3, 1) := by decide +kernel
theorem dX2_gets_29 : decode cX2_gets 29 = .ok (.ifCond .eq 9, 3) := by decide +kernel
theorem dX2_gets_32 : decode cX2_gets 32 = .ok (.aload_n 0, 1) := by decide +kernel
theorem dX2_gets_33 : decode cX2_gets 33 = .ok (.iload_n 3, 1) := by decide +kernel
theorem dX2_gets_34 : decode cX2_gets 34 = .ok (.invokevirtual 83, 3) := by decide +kernel
theorem dX2_gets_37 : decode cX2_gets 37 = .ok (.ireturn, 1) := by decide +kernel
theorem dX2_gets_38 : decode cX2_gets 38 = .ok (.aload_n 0, 1) := by decide +kernel
theorem dX2_gets_39 : decode cX2_gets 39 = .ok (.iload_n 1, 1) := by decide +kernel
theorem dX2_gets_40 : decode cX2_gets 40 = .ok (.invokevirtual 201, 3) := by decide +kernel
theorem dX2_gets_43 : decode cX2_gets 43 = .ok (.istore 4, 2) := by decide +kernel
theorem dX2_gets_45 : decode cX2_gets 45 = .ok (.iload_n 2, 1) := by decide +kernel
theorem dX2_gets_46 : decode cX2_gets 46 = .ok (.ifCond .eq 8, 3) := by decide +kernel
theorem dX2_gets_49 : decode cX2_gets 49 = .ok (.iload 4, 2) := by decide +kernel
theorem dX2_gets_51 : decode cX2_gets 51 = .ok (.ifCond .ge 8, 3) := by decide +kernel
theorem dX2_gets_54 : decode cX2_gets 54 = .ok (.iload 4, 2) := by decide +kernel
theorem dX2_gets_56 : decode cX2_gets 56 = .ok (.goto 10, 3) := by decide +kernel
theorem dX2_gets_59 : decode cX2_gets 59 = .ok (.aload_n 0, 1) := by decide +kernel
theorem dX2_gets_60 : decode cX2_gets 60 = .ok (.iload 4, 2) := by decide +kernel
theorem dX2_gets_62 : decode cX2_gets 62 = .ok (.iload_n 1, 1) := by decide +kernel
theorem dX2_gets_63 : decode cX2_gets 63 = .ok (.invokevirtual 204, 3) := by decide +kernel
theorem dX2_gets_66 : decode cX2_gets 66 = .ok (.ireturn, 1) := by decide +kernel
set_option maxRecDepth 20000 in
theorem ggX2_out_X2_thinks : GoodIn wsX2_out wsX2_thinks := goodIn_r _ [5, 6, 7, 8, 4, 9, 10, 11, 12, 13, 14, 15, 16, 17, 18, 19, 20, 21, 22, 23, 24, 25, 26, 27, 28, 29, 30, 31, 32, 33, 90, 91, 92, 93, 94, 95, 96, 97, 98, 99, 100, 101, 102, 103, 104, 105, 106, 107, 108, 109, 110, 111, 112, 113, 114, 115, 116, 117, 118, 119, 120] (by decide +kernel) (by decide +kernel)
set_option maxRecDepth 20000 in
theorem gX2_out_X2_thinks : GoodIn wsX2_out (wsV RX2 235 RX2 yX2_thinks wsX2_thinks) := goodIn_app (goodIn_of _ (by decide +kernel)) ggX2_out_X2_thinks
set_option maxRecDepth 20000 in
theorem ggX2_out_X2_pile : GoodIn wsX2_out wsX2_pile := goodIn_r _ [37, 22, 16, 90, 91, 92, 93, 94, 95, 96, 97, 98, 99, 100, 101, 102, 103, 104, 105, 106, 107, 108, 109, 110, 111, 112, 113, 114, 115, 116, 117, 118, 119, 120] (by decide +kernel) (by decide +kernel)
set_option maxRecDepth 20000 in
theorem gX2_out_X2_pile : GoodIn wsX2_out (wsV RX2 229 RX2 yX2_pile wsX2_pile) := goodIn_app (goodIn_of _ (by decide +kernel)) ggX2_out_X2_pile
set_option maxRecDepth 20000 in
theorem ggX2_out_X2_goesMonth : GoodIn wsX2_out wsX2_goesMonth := goodIn_r _ [41, 24, 22, 16, 17, 15, 23, 20, 42, 43, 44, 4, 45, 46, 14, 21, 47, 48, 49, 50, 51, 52, 53, 54, 55, 56, 57, 58, 59, 60, 61, 62, 63, 64, 65, 66, 19, 18, 67, 68, 69, 70, 13, 12, 71, 72, 73, 74, 75, 76, 77, 78, 79, 80, 81, 82, 83, 84, 85, 90, 91, 92, 93, 94, 95, 96, 97, 98, 99, 100, 101, 102, 103, 104, 105, 106, 107, 108, 109, 110, 111, 112, 113, 114, 115, 116, 117, 118, 119, 120] (by decide +kernel) (by decide +kernel)
set_option maxRecDepth 20000 in
theorem gX2_out_X2_goesMonth : GoodIn wsX2_out (wsV RX2 213 RX2 yX2_goesMonth wsX2_goesMonth) := goodIn_app (goodIn_of _ (by decide +kernel)) ggX2_out_X2_goesMonth
set_option maxRecDepth 20000 in
theorem ggX2_out_X2_forgets : GoodIn wsX2_out wsX2_forgets := goodIn_r _ [89, 6, 7, 8, 4, 9, 10, 11, 12, 13, 14, 15, 16, 17, 18, 19, 20, 21, 22, 23, 24, 25, 26, 27, 28, 29, 30, 31, 32, 33, 90, 91, 92, 93, 94, 95, 96, 97, 98, 99, 100, 101, 102, 103, 104, 105, 106, 107, 108, 109, 110, 111, 112, 113, 114, 115, 116, 117, 118, 119, 120] (by decide +kernel) (by decide +kernel)
set_option maxRecDepth 20000 in
theorem gX2_out_X2_forgets : GoodIn wsX2_out (wsV RX2 238 RX2 yX2_forgets wsX2_forgets) := goodIn_app (goodIn_of _ (by decide +kernel)) ggX2_out_X2_forgets
theorem dX2_out_0 : decode cX2_out 0 = .ok (.aload_n 0, 1) := by decide +kernel
theorem dX2_out_1 : decode cX2_out 1 = .ok (.invokevirtual 235, 3) := by decide +kernel
theorem dX2_out_4 : decode cX2_out 4 = .ok (.bipush (-9), 2) := by decide +kernel
theorem dX2_out_6 : decode cX2_out 6 = .ok (.istore_n 1, 1) := by decide +kernel
theorem dX2_out_7 : decode cX2_out 7 = .ok (.iconst 0, 1) := by decide +kernel
theorem dX2_out_8 : decode cX2_out 8 = .ok (.istore_n 2, 1) := by decide +kernel
theorem dX2_out_9 : decode cX2_out 9 = .ok (.iload_n 2, 1) := by decide +kernel
theorem dX2_out_10 : decode cX2_out 10 = .ok (.bipush 60, 2) := by decide +kernel
theorem dX2_out_12 : decode cX2_out 12 = .ok (.if_icmp .gt 32, 3) := by decide +kernel
theorem dX2_out_15 : decode cX2_out 15 = .ok (.iload_n 1, 1) := by decide +kernel
theorem dX2_out_16 : decode cX2_out 16 = .ok (.ifCond .ge 28, 3) := by decide +kernel
theorem dX2_out_19 : decode cX2_out 19 = .ok (.aload_n 0, 1) := by decide +kernel
theorem dX2_out_20 : decode cX2_out 20 = .ok (.invokevirtual 229, 3) := by decide +kernel
theorem dX2_out_23 : decode cX2_out 23 = .ok (.ifCond .ne 7, 3) := by decide +kernel
theorem dX2_out_26 : decode cX2_out 26 = .ok (.iload_n 2, 1) := by decide +kernel
theorem dX2_out_27 : decode cX2_out 27 = .ok (.goto 5, 3) := by decide +kernel
theorem dX2_out_30 : decode cX2_out 30 = .ok (.bipush (-9), 2) := by decide +kernel
theorem dX2_out_32 : decode cX2_out 32 = .ok (.istore_n 1, 1) := by decide +kernel
theorem dX2_out_33 : decode cX2_out 33 = .ok (.aload_n 0, 1) := by decide +kernel
theorem dX2_out_34 : decode cX2_out 34 = .ok (.iconst 0, 1) := by decide +kernel
theorem dX2_out_35 : decode cX2_out 35 = .ok (.invokevirtual 213, 3) := by decide +kernel
theorem dX2_out_38 : decode cX2_out 38 = .ok (.iinc 2 1, 3) := by decide +kernel
theorem dX2_out_41 : decode cX2_out 41 = .ok (.goto (-32), 3) := by decide +kernel
theorem dX2_out_44 : decode cX2_out 44 = .ok (.aload_n 0, 1) := by decide +kernel
theorem dX2_out_45 : decode cX2_out 45 = .ok (.invokevirtual 238, 3) := by decide +kernel
theorem dX2_out_48 : decode cX2_out 48 = .ok (.iload_n 1, 1) := by decide +kernel
theorem dX2_out_49 : decode cX2_out 49 = .ok (.ireturn, 1) := by decide +kernel
set_option maxRecDepth 20000 in
theorem ggX2_ruined_X2_isBidder : GoodIn wsX2_ruined wsX2_isBidder := goodIn_r _ [6, 7, 91, 92, 93, 94, 95, 96, 97, 98, 99, 100, 101, 102, 103, 104, 105, 106, 107, 108, 109, 110, 111, 112, 113, 114, 115, 116, 117, 118, 119, 120, 121] (by decide +kernel) (by decide +kernel)
set_option maxRecDepth 20000 in
theorem gX2_ruined_X2_isBidder : GoodIn wsX2_ruined (wsV RX2 122 RX2 yX2_isBidder wsX2_isBidder) := goodIn_app (goodIn_of _ (by decide +kernel)) ggX2_ruined_X2_isBidder
set_option maxRecDepth 20000 in
theorem ggX2_ruined_X2_no : GoodIn wsX2_ruined wsX2_no := goodIn_r _ [11, 12, 91, 92, 93, 94, 95, 96, 97, 98, 99, 100, 101, 102, 103, 104, 105, 106, 107, 108, 109, 110, 111, 112, 113, 114, 115, 116, 117, 118, 119, 120, 121] (by decide +kernel) (by decide +kernel)
set_option maxRecDepth 20000 in
theorem gX2_ruined_X2_no : GoodIn wsX2_ruined (wsV RX2 83 RX2 yX2_no wsX2_no) := goodIn_app (goodIn_of _ (by decide +kernel)) ggX2_ruined_X2_no
set_option maxRecDepth 20000 in
theorem ggX2_ruined_X2_thinks : GoodIn wsX2_ruined wsX2_thinks := goodIn_r _ [16, 17, 18, 19, 5, 20, 21, 22, 23, 24, 25, 26, 27, 28, 29, 30, 31, 1, 32, 7, 33, 34, 35, 36, 37, 38, 39, 40, 41, 42, 91, 92, 93, 94, 95, 96, 97, 98, 99, 100, 101, 102, 103, 104, 105, 106, 107, 108, 109, 110, 111, 112, 113, 114, 115, 116, 117, 118, 119, 120, 121] (by decide +kernel) (by decide +kernel)
set_option maxRecDepth 20000 in
theorem gX2_ruined_X2_thinks : GoodIn wsX2_ruined (wsV RX2 235 RX2 yX2_thinks wsX2_thinks) := goodIn_app (goodIn_of _ (by decide +kernel)) ggX2_ruined_X2_thinks
set_option maxRecDepth 20000 in
theorem ggX2_ruined_X2_goesMonth : GoodIn wsX2_ruined wsX2_goesMonth := goodIn_r _ [46, 33, 32, 27, 28, 26, 7, 31, 47, 48, 49, 5, 50, 51, 25, 1, 52, 53, 54, 55, 56, 57, 58, 59, 60, 61, 62, 63, 64, 65, 66, 67, 68, 69, 70, 71, 30, 29, 72, 73, 74, 75, 24, 23, 76, 77, 78, 79, 2, 3, 4, 6, 80, 81, 82, 83, 84, 85, 86, 91, 92, 93, 94, 95, 96, 97, 98, 99, 100, 101, 102, 103, 104, 105, 106, 107, 108, 109, 110, 111, 112, 113, 114, 115, 116, 117, 118, 119, 120, 121] (by decide +kernel) (by decide +kernel)
set_option maxRecDepth 20000 in
theorem gX2_ruined_X2_goesMonth : GoodIn wsX2_ruined (wsV RX2 213 RX2 yX2_goesMonth wsX2_goesMonth) := goodIn_app (goodIn_of _ (by decide +kernel)) ggX2_ruined_X2_goesMonth
set_option maxRecDepth 20000 in
theorem ggX2_ruined_X2_forgets : GoodIn wsX2_ruined wsX2_forgets := goodIn_r _ [90, 17, 18, 19, 5, 20, 21, 22, 23, 24, 25, 26, 27, 28, 29, 30, 31, 1, 32, 7, 33, 34, 35, 36, 37, 38, 39, 40, 41, 42, 91, 92, 93, 94, 95, 96, 97, 98, 99, 100, 101, 102, 103, 104, 105, 106, 107, 108, 109, 110, 111, 112, 113, 114, 115, 116, 117, 118, 119, 120, 121] (by decide +kernel) (by decide +kernel)
set_option maxRecDepth 20000 in
theorem gX2_ruined_X2_forgets : GoodIn wsX2_ruined (wsV RX2 238 RX2 yX2_forgets wsX2_forgets) := goodIn_app (goodIn_of _ (by decide +kernel)) ggX2_ruined_X2_forgets
theorem dX2_ruined_0 : decode cX2_ruined 0 = .ok (.aload_n 0, 1) := by decide +kernel
theorem dX2_ruined_1 : decode cX2_ruined 1 = .ok (.iload_n 1, 1) := by decide +kernel
theorem dX2_ruined_2 : decode cX2_ruined 2 = .ok (.invokevirtual 122, 3) := by decide +kernel
theorem dX2_ruined_5 : decode cX2_ruined 5 = .ok (.ifCond .ne 9, 3) := by decide +kernel
theorem dX2_ruined_8 : decode cX2_ruined 8 = .ok (.aload_n 0, 1) := by decide +kernel
theorem dX2_ruined_9 : decode cX2_ruined 9 = .ok (.iconst (-1), 1) := by decide +kernel
theorem dX2_ruined_10 : decode cX2_ruined 10 = .ok (.invokevirtual 83, 3) := by decide +kernel
theorem dX2_ruined_13 : decode cX2_ruined 13 = .ok (.ireturn, 1) := by decide +kernel
theorem dX2_ruined_14 : decode cX2_ruined 14 = .ok (.aload_n 0, 1) := by decide +kernel
theorem dX2_ruined_15 : decode cX2_ruined 15 = .ok (.invokevirtual 235, 3) := by decide +kernel
theorem dX2_ruined_18 : decode cX2_ruined 18 = .ok (.bipush (-9), 2) := by decide +kernel
theorem dX2_ruined_20 : decode cX2_ruined 20 = .ok (.istore_n 2, 1) := by decide +kernel
theorem dX2_ruined_21 : decode cX2_ruined 21 = .ok (.iconst 0, 1) := by decide +kernel
theorem dX2_ruined_22 : decode cX2_ruined 22 = .ok (.istore_n 3, 1) := by decide +kernel
theorem dX2_ruined_23 : decode cX2_ruined 23 = .ok (.iload_n 3, 1) := by decide +kernel
theorem dX2_ruined_24 : decode cX2_ruined 24 = .ok (.bipush 60, 2) := by decide +kernel
theorem dX2_ruined_26 : decode cX2_ruined 26 = .ok (.if_icmp .gt 34, 3) := by decide +kernel
theorem dX2_ruined_29 : decode cX2_ruined 29 = .ok (.iload_n 2, 1) := by decide +kernel
theorem dX2_ruined_30 : decode cX2_ruined 30 = .ok (.ifCond .ge 30, 3) := by decide +kernel
theorem dX2_ruined_33 : decode cX2_ruined 33 = .ok (.aload_n 0, 1) := by decide +kernel
theorem dX2_ruined_34 : decode cX2_ruined 34 = .ok (.getfield 40, 3) := by decide +kernel
theorem dX2_ruined_37 : decode cX2_ruined 37 = .ok (.iload_n 1, 1) := by decide +kernel
theorem dX2_ruined_38 : decode cX2_ruined 38 = .ok (.iaload, 1) := by decide +kernel
theorem dX2_ruined_39 : decode cX2_ruined 39 = .ok (.ifCond .ne 7, 3) := by decide +kernel
theorem dX2_ruined_42 : decode cX2_ruined 42 = .ok (.iload_n 3, 1) := by decide +kernel
theorem dX2_ruined_43 : decode cX2_ruined 43 = .ok (.goto 5, 3) := by decide +kernel
theorem dX2_ruined_46 : decode cX2_ruined 46 = .ok (.bipush (-9), 2) := by decide +kernel
theorem dX2_ruined_48 : decode cX2_ruined 48 = .ok (.istore_n 2, 1) := by decide +kernel
theorem dX2_ruined_49 : decode cX2_ruined 49 = .ok (.aload_n 0, 1) := by decide +kernel
theorem dX2_ruined_50 : decode cX2_ruined 50 = .ok (.iconst 0, 1) := by decide +kernel
theorem dX2_ruined_51 : decode cX2_ruined 51 = .ok (.invokevirtual 213, 3) := by decide +kernel
theorem dX2_ruined_54 : decode cX2_ruined 54 = .ok (.iinc 3 1, 3) := by decide +kernel
theorem dX2_ruined_57 : decode cX2_ruined 57 = .ok (.goto (-34), 3) := by decide +kernel
theorem dX2_ruined_60 : decode cX2_ruined 60 = .ok (.aload_n 0, 1) := by decide +kernel
theorem dX2_ruined_61 : decode cX2_ruined 61 = .ok (.invokevirtual 238, 3) := by decide +kernel
theorem dX2_ruined_64 : decode cX2_ruined 64 = .ok (.iload_n 2, 1) := by decide +kernel
theorem dX2_ruined_65 : decode cX2_ruined 65 = .ok (.ireturn, 1) := by decide +kernel
set_option maxRecDepth 20000 in
theorem ggX2_isHisBy_X2_thinks : GoodIn wsX2_isHisBy wsX2_thinks := goodIn_r _ [7, 8, 9, 10, 6, 11, 12, 13, 14, 15, 16, 17, 2, 18, 19, 20, 1, 21, 22, 23, 24, 25, 26, 27, 28, 29, 30, 31, 32, 33, 86, 87, 88, 89, 90, 91, 92, 93, 94, 95, 96, 97, 98, 99, 100, 101, 102, 103, 104, 105, 106, 107, 108, 109, 110, 111, 112, 113, 114, 115, 116] (by decide +kernel) (by decide +kernel)
set_option maxRecDepth 20000 in
theorem gX2_isHisBy_X2_thinks : GoodIn wsX2_isHisBy (wsV RX2 235 RX2 yX2_thinks wsX2_thinks) := goodIn_app (goodIn_of _ (by decide +kernel)) ggX2_isHisBy_X2_thinks
set_option maxRecDepth 20000 in
theorem ggX2_isHisBy_X2_goesMonth : GoodIn wsX2_isHisBy wsX2_goesMonth := goodIn_r _ [37, 24, 22, 2, 18, 17, 23, 1, 38, 39, 40, 6, 41, 42, 16, 21, 43, 44, 45, 46, 47, 48, 49, 50, 51, 52, 53, 54, 55, 56, 57, 58, 59, 60, 61, 62, 20, 19, 63, 64, 65, 66, 15, 14, 67, 68, 69, 70, 71, 72, 73, 74, 75, 76, 77, 78, 79, 80, 81, 86, 87, 88, 89, 90, 91, 92, 93, 94, 95, 96, 97, 98, 99, 100, 101, 102, 103, 104, 105, 106, 107, 108, 109, 110, 111, 112, 113, 114, 115, 116] (by decide +kernel) (by decide +kernel)
set_option maxRecDepth 20000 in
theorem gX2_isHisBy_X2_goesMonth : GoodIn wsX2_isHisBy (wsV RX2 213 RX2 yX2_goesMonth wsX2_goesMonth) := goodIn_app (goodIn_of _ (by decide +kernel)) ggX2_isHisBy_X2_goesMonth
set_option maxRecDepth 20000 in
theorem ggX2_isHisBy_X2_forgets : GoodIn wsX2_isHisBy wsX2_forgets := goodIn_r _ [85, 8, 9, 10, 6, 11, 12, 13, 14, 15, 16, 17, 2, 18, 19, 20, 1, 21, 22, 23, 24, 25, 26, 27, 28, 29, 30, 31, 32, 33, 86, 87, 88, 89, 90, 91, 92, 93, 94, 95, 96, 97, 98, 99, 100, 101, 102, 103, 104, 105, 106, 107, 108, 109, 110, 111, 112, 113, 114, 115, 116] (by decide +kernel) (by decide +kernel)
set_option maxRecDepth 20000 in
theorem gX2_isHisBy_X2_forgets : GoodIn wsX2_isHisBy (wsV RX2 238 RX2 yX2_forgets wsX2_forgets) := goodIn_app (goodIn_of _ (by decide +kernel)) ggX2_isHisBy_X2_forgets
theorem dX2_isHisBy_0 : decode cX2_isHisBy 0 = .ok (.aload_n 0, 1) := by decide +kernel
theorem dX2_isHisBy_1 : decode cX2_isHisBy 1 = .ok (.invokevirtual 235, 3) := by decide +kernel
theorem dX2_isHisBy_4 : decode cX2_isHisBy 4 = .ok (.aload_n 0, 1) := by decide +kernel
theorem dX2_isHisBy_5 : decode cX2_isHisBy 5 = .ok (.getfield 37, 3) := by decide +kernel
theorem dX2_isHisBy_8 : decode cX2_isHisBy 8 = .ok (.iload_n 1, 1) := by decide +kernel
theorem dX2_isHisBy_9 : decode cX2_isHisBy 9 = .ok (.iload_n 3, 1) := by decide +kernel
theorem dX2_isHisBy_10 : decode cX2_isHisBy 10 = .ok (.iastore, 1) := by decide +kernel
theorem dX2_isHisBy_11 : decode cX2_isHisBy 11 = .ok (.aload_n 0, 1) := by decide +kernel
theorem dX2_isHisBy_12 : decode cX2_isHisBy 12 = .ok (.iconst 0, 1) := by decide +kernel
theorem dX2_isHisBy_13 : decode cX2_isHisBy 13 = .ok (.invokevirtual 213, 3) := by decide +kernel
theorem dX2_isHisBy_16 : decode cX2_isHisBy 16 = .ok (.aload_n 0, 1) := by decide +kernel
theorem dX2_isHisBy_17 : decode cX2_isHisBy 17 = .ok (.getfield 25, 3) := by decide +kernel
theorem dX2_isHisBy_20 : decode cX2_isHisBy 20 = .ok (.iload_n 2, 1) := by decide +kernel
theorem dX2_isHisBy_21 : decode cX2_isHisBy 21 = .ok (.iaload, 1) := by decide +kernel
theorem dX2_isHisBy_22 : decode cX2_isHisBy 22 = .ok (.iload_n 1, 1) := by decide +kernel
theorem dX2_isHisBy_23 : decode cX2_isHisBy 23 = .ok (.iconst 1, 1) := by decide +kernel
theorem dX2_isHisBy_24 : decode cX2_isHisBy 24 = .ok (.iadd, 1) := by decide +kernel
theorem dX2_isHisBy_25 : decode cX2_isHisBy 25 = .ok (.if_icmp .ne 7, 3) := by decide +kernel
theorem dX2_isHisBy_28 : decode cX2_isHisBy 28 = .ok (.iconst 1, 1) := by decide +kernel
theorem dX2_isHisBy_29 : decode cX2_isHisBy 29 = .ok (.goto 4, 3) := by decide +kernel
theorem dX2_isHisBy_32 : decode cX2_isHisBy 32 = .ok (.iconst 0, 1) := by decide +kernel
theorem dX2_isHisBy_33 : decode cX2_isHisBy 33 = .ok (.istore 4, 2) := by decide +kernel
theorem dX2_isHisBy_35 : decode cX2_isHisBy 35 = .ok (.aload_n 0, 1) := by decide +kernel
theorem dX2_isHisBy_36 : decode cX2_isHisBy 36 = .ok (.invokevirtual 238, 3) := by decide +kernel
theorem dX2_isHisBy_39 : decode cX2_isHisBy 39 = .ok (.iload 4, 2) := by decide +kernel
theorem dX2_isHisBy_41 : decode cX2_isHisBy 41 = .ok (.ireturn, 1) := by decide +kernel
set_option maxRecDepth 20000 in
theorem ggX2_purseFor_X2_areTold : GoodIn wsX2_purseFor wsX2_areTold := goodIn_r _ [6, 7, 8, 9, 5, 10, 11, 12, 13, 14, 15, 16, 103, 104, 105, 106, 107, 108, 109, 110, 111, 112, 113, 114, 115, 116, 117, 118, 119, 120, 121, 122, 123, 124, 125, 126, 127, 128, 129, 130, 131, 132, 133] (by decide +kernel) (by decide +kernel)
set_option maxRecDepth 20000 in
theorem gX2_purseFor_X2_areTold : GoodIn wsX2_purseFor (wsV RX2 226 RX2 yX2_areTold wsX2_areTold) := goodIn_app (goodIn_of _ (by decide +kernel)) ggX2_purseFor_X2_areTold
set_option maxRecDepth 20000 in
theorem ggX2_purseFor_X2_no : GoodIn wsX2_purseFor wsX2_no := goodIn_r _ [20, 21, 103, 104, 105, 106, 107, 108, 109, 110, 111, 112, 113, 114, 115, 116, 117, 118, 119, 120, 121, 122, 123, 124, 125, 126, 127, 128, 129, 130, 131, 132, 133] (by decide +kernel) (by decide +kernel)
set_option maxRecDepth 20000 in
theorem gX2_purseFor_X2_no : GoodIn wsX2_purseFor (wsV RX2 83 RX2 yX2_no wsX2_no) := goodIn_app (goodIn_of _ (by decide +kernel)) ggX2_purseFor_X2_no
set_option maxRecDepth 20000 in
theorem ggX2_purseFor_X2_isHisBy : GoodIn wsX2_purseFor wsX2_isHisBy := goodIn_r _ [25, 26, 1, 27, 28, 29, 5, 30, 31, 32, 33, 34, 35, 36, 37, 38, 39, 40, 41, 42, 43, 44, 16, 11, 45, 46, 47, 48, 49, 50, 51, 52, 53, 54, 55, 56, 57, 58, 59, 60, 61, 62, 63, 64, 65, 66, 67, 68, 69, 70, 71, 72, 73, 74, 75, 76, 77, 78, 79, 80, 81, 82, 83, 84, 85, 86, 87, 88, 89, 90, 91, 7, 8, 9, 10, 92, 93, 94, 95, 96, 97, 98, 99, 100, 101, 102, 103, 104, 105, 106, 107, 108, 109, 110, 111, 112, 113, 114, 115, 116, 117, 118, 119, 120, 121, 122, 123, 124, 125, 126, 127, 128, 129, 130, 131, 132, 133] (by decide +kernel) (by decide +kernel)
set_option maxRecDepth 20000 in
theorem gX2_purseFor_X2_isHisBy : GoodIn wsX2_purseFor (wsV RX2 241 RX2 yX2_isHisBy wsX2_isHisBy) := goodIn_app (goodIn_of _ (by decide +kernel)) ggX2_purseFor_X2_isHisBy
theorem dX2_purseFor_0 : decode cX2_purseFor 0 = .ok (.aload_n 0, 1) := by decide +kernel
theorem dX2_purseFor_1 : decode cX2_purseFor 1 = .ok (.iload_n 1, 1) := by decide +kernel
theorem dX2_purseFor_2 : decode cX2_purseFor 2 = .ok (.iload_n 2, 1) := by decide +kernel
theorem dX2_purseFor_3 : decode cX2_purseFor 3 = .ok (.invokevirtual 226, 3) := by decide +kernel
theorem dX2_purseFor_6 : decode cX2_purseFor 6 = .ok (.ifCond .ne 7, 3) := by decide +kernel
theorem dX2_purseFor_9 : decode cX2_purseFor 9 = .ok (.iconst (-1), 1) := by decide +kernel
theorem dX2_purseFor_10 : decode cX2_purseFor 10 = .ok (.goto 18, 3) := by decide +kernel
theorem dX2_purseFor_13 : decode cX2_purseFor 13 = .ok (.aload_n 0, 1) := by decide +kernel
theorem dX2_purseFor_14 : decode cX2_purseFor 14 = .ok (.getfield 25, 3) := by decide +kernel
theorem dX2_purseFor_17 : decode cX2_purseFor 17 = .ok (.iload_n 2, 1) := by decide +kernel
theorem dX2_purseFor_18 : decode cX2_purseFor 18 = .ok (.iaload, 1) := by decide +kernel
theorem dX2_purseFor_19 : decode cX2_purseFor 19 = .ok (.ifCond .eq 8, 3) := by decide +kernel
theorem dX2_purseFor_22 : decode cX2_purseFor 22 = .ok (.bipush (-3), 2) := by decide +kernel
theorem dX2_purseFor_24 : decode cX2_purseFor 24 = .ok (.goto 4, 3) := by decide +kernel
theorem dX2_purseFor_27 : decode cX2_purseFor 27 = .ok (.iconst 0, 1) := by decide +kernel
theorem dX2_purseFor_28 : decode cX2_purseFor 28 = .ok (.istore_n 3, 1) := by decide +kernel
theorem dX2_purseFor_29 : decode cX2_purseFor 29 = .ok (.iload_n 3, 1) := by decide +kernel
theorem dX2_purseFor_30 : decode cX2_purseFor 30 = .ok (.ifCond .eq 9, 3) := by decide +kernel
theorem dX2_purseFor_33 : decode cX2_purseFor 33 = .ok (.aload_n 0, 1) := by decide +kernel
theorem dX2_purseFor_34 : decode cX2_purseFor 34 = .ok (.iload_n 3, 1) := by decide +kernel
theorem dX2_purseFor_35 : decode cX2_purseFor 35 = .ok (.invokevirtual 83, 3) := by decide +kernel
theorem dX2_purseFor_38 : decode cX2_purseFor 38 = .ok (.ireturn, 1) := by decide +kernel
theorem dX2_purseFor_39 : decode cX2_purseFor 39 = .ok (.iconst 0, 1) := by decide +kernel
theorem dX2_purseFor_40 : decode cX2_purseFor 40 = .ok (.istore 4, 2) := by decide +kernel
theorem dX2_purseFor_42 : decode cX2_purseFor 42 = .ok (.iload 4, 2) := by decide +kernel
theorem dX2_purseFor_44 : decode cX2_purseFor 44 = .ok (.bipush 99, 2) := by decide +kernel
theorem dX2_purseFor_46 : decode cX2_purseFor 46 = .ok (.if_icmp .gt 23, 3) := by decide +kernel
theorem dX2_purseFor_49 : decode cX2_purseFor 49 = .ok (.aload_n 0, 1) := by decide +kernel
theorem dX2_purseFor_50 : decode cX2_purseFor 50 = .ok (.iload_n 1, 1) := by decide +kernel
theorem dX2_purseFor_51 : decode cX2_purseFor 51 = .ok (.iload_n 2, 1) := by decide +kernel
theorem dX2_purseFor_52 : decode cX2_purseFor 52 = .ok (.iload 4, 2) := by decide +kernel
theorem dX2_purseFor_54 : decode cX2_purseFor 54 = .ok (.invokevirtual 241, 3) := by decide +kernel
theorem dX2_purseFor_57 : decode cX2_purseFor 57 = .ok (.ifCond .eq 6, 3) := by decide +kernel
theorem dX2_purseFor_60 : decode cX2_purseFor 60 = .ok (.iload 4, 2) := by decide +kernel
theorem dX2_purseFor_62 : decode cX2_purseFor 62 = .ok (.ireturn, 1) := by decide +kernel
theorem dX2_purseFor_63 : decode cX2_purseFor 63 = .ok (.iinc 4 1, 3) := by decide +kernel
theorem dX2_purseFor_66 : decode cX2_purseFor 66 = .ok (.goto (-24), 3) := by decide +kernel
theorem dX2_purseFor_69 : decode cX2_purseFor 69 = .ok (.bipush (-9), 2) := by decide +kernel
theorem dX2_purseFor_71 : decode cX2_purseFor 71 = .ok (.ireturn, 1) := by decide +kernel
set_option maxRecDepth 20000 in
theorem ggX2_manyIn_X2_thinks : GoodIn wsX2_manyIn wsX2_thinks := goodIn_r _ [5, 6, 7, 8, 4, 9, 10, 11, 12, 13, 14, 15, 16, 17, 18, 19, 20, 21, 22, 23, 24, 25, 26, 27, 28, 29, 30, 31, 32, 33, 97, 98, 99, 100, 101, 102, 103, 104, 105, 106, 107, 108, 109, 110, 111, 112, 113, 114, 115, 116, 117, 118, 119, 120, 121, 122, 123, 124, 125, 126, 127] (by decide +kernel) (by decide +kernel)
set_option maxRecDepth 20000 in
theorem gX2_manyIn_X2_thinks : GoodIn wsX2_manyIn (wsV RX2 235 RX2 yX2_thinks wsX2_thinks) := goodIn_app (goodIn_of _ (by decide +kernel)) ggX2_manyIn_X2_thinks
set_option maxRecDepth 20000 in
theorem ggX2_manyIn_X2_goes : GoodIn wsX2_manyIn wsX2_goes := goodIn_r _ [37, 38, 39, 40, 4, 41, 24, 22, 16, 17, 15, 23, 20, 42, 43, 44, 45, 46, 14, 21, 47, 48, 49, 50, 51, 52, 53, 54, 55, 56, 57, 58, 59, 60, 61, 62, 63, 64, 65, 66, 19, 18, 67, 68, 69, 70, 13, 12, 71, 72, 73, 74, 75, 76, 77, 78, 79, 80, 81, 82, 83, 84, 85, 97, 98, 99, 100, 101, 102, 103, 104, 105, 106, 107, 108, 109, 110, 111, 112, 113, 114, 115, 116, 117, 118, 119, 120, 121, 122, 123, 124, 125, 126, 127] (by decide +kernel) (by decide +kernel)
set_option maxRecDepth 20000 in
theorem gX2_manyIn_X2_goes : GoodIn wsX2_manyIn (wsV RX2 132 RX2 yX2_goes wsX2_goes) := goodIn_app (goodIn_of _ (by decide +kernel)) ggX2_manyIn_X2_goes
set_option maxRecDepth 20000 in
theorem ggX2_manyIn_X2_heldBy : GoodIn wsX2_manyIn wsX2_heldBy := goodIn_r _ [89, 22, 16, 97, 98, 99, 100, 101, 102, 103, 104, 105, 106, 107, 108, 109, 110, 111, 112, 113, 114, 115, 116, 117, 118, 119, 120, 121, 122, 123, 124, 125, 126, 127] (by decide +kernel) (by decide +kernel)
set_option maxRecDepth 20000 in
theorem gX2_manyIn_X2_heldBy : GoodIn wsX2_manyIn (wsV RX2 223 RX2 yX2_heldBy wsX2_heldBy) := goodIn_app (goodIn_of _ (by decide +kernel)) ggX2_manyIn_X2_heldBy
set_option maxRecDepth 20000 in
theorem ggX2_manyIn_X2_bits : GoodIn wsX2_manyIn wsX2_bits := goodIn_r _ [92] (by decide +kernel) (by decide +kernel)
set_option maxRecDepth 20000 in
theorem gX2_manyIn_X2_bits : GoodIn wsX2_manyIn (va_wsS RX2 232 yX2_bits wsX2_bits) := goodIn_app (goodIn_of _ (by decide +kernel)) ggX2_manyIn_X2_bits
set_option maxRecDepth 20000 in
theorem ggX2_manyIn_X2_forgets : GoodIn wsX2_manyIn wsX2_forgets := goodIn_r _ [96, 6, 7, 8, 4, 9, 10, 11, 12, 13, 14, 15, 16, 17, 18, 19, 20, 21, 22, 23, 24, 25, 26, 27, 28, 29, 30, 31, 32, 33, 97, 98, 99, 100, 101, 102, 103, 104, 105, 106, 107, 108, 109, 110, 111, 112, 113, 114, 115, 116, 117, 118, 119, 120, 121, 122, 123, 124, 125, 126, 127] (by decide +kernel) (by decide +kernel)
set_option maxRecDepth 20000 in
theorem gX2_manyIn_X2_forgets : GoodIn wsX2_manyIn (wsV RX2 238 RX2 yX2_forgets wsX2_forgets) := goodIn_app (goodIn_of _ (by decide +kernel)) ggX2_manyIn_X2_forgets
theorem dX2_manyIn_0 : decode cX2_manyIn 0 = .ok (.aload_n 0, 1) := by decide +kernel
theorem dX2_manyIn_1 : decode cX2_manyIn 1 = .ok (.invokevirtual 235, 3) := by decide +kernel
theorem dX2_manyIn_4 : decode cX2_manyIn 4 = .ok (.aload_n 0, 1) := by decide +kernel
theorem dX2_manyIn_5 : decode cX2_manyIn 5 = .ok (.iload_n 2, 1) := by decide +kernel
theorem dX2_manyIn_6 : decode cX2_manyIn 6 = .ok (.invokevirtual 132, 3) := by decide +kernel
theorem dX2_manyIn_9 : decode cX2_manyIn 9 = .ok (.aload_n 0, 1) := by decide +kernel
theorem dX2_manyIn_10 : decode cX2_manyIn 10 = .ok (.iload_n 1, 1) := by decide +kernel
theorem dX2_manyIn_11 : decode cX2_manyIn 11 = .ok (.invokevirtual 223, 3) := by decide +kernel
theorem dX2_manyIn_14 : decode cX2_manyIn 14 = .ok (.invokestatic 232, 3) := by decide +kernel
theorem dX2_manyIn_17 : decode cX2_manyIn 17 = .ok (.istore_n 3, 1) := by decide +kernel
theorem dX2_manyIn_18 : decode cX2_manyIn 18 = .ok (.aload_n 0, 1) := by decide +kernel
theorem dX2_manyIn_19 : decode cX2_manyIn 19 = .ok (.invokevirtual 238, 3) := by decide +kernel
theorem dX2_manyIn_22 : decode cX2_manyIn 22 = .ok (.iload_n 3, 1) := by decide +kernel
theorem dX2_manyIn_23 : decode cX2_manyIn 23 = .ok (.ireturn, 1) := by decide +kernel
set_option maxRecDepth 20000 in
theorem ggX2_allBeliefIn_X2_thinks : GoodIn wsX2_allBeliefIn wsX2_thinks := goodIn_r _ [7, 8, 9, 10, 6, 11, 12, 13, 14, 15, 16, 17, 18, 19, 20, 21, 22, 1, 23, 2, 24, 25, 26, 27, 28, 29, 30, 31, 32, 33, 94, 95, 96, 97, 98, 99, 100, 101, 102, 103, 104, 105, 106, 107, 108, 109, 110, 111, 112, 113, 114, 115, 116, 117, 118, 119, 120, 121, 122, 123, 124] (by decide +kernel) (by decide +kernel)
set_option maxRecDepth 20000 in
theorem gX2_allBeliefIn_X2_thinks : GoodIn wsX2_allBeliefIn (wsV RX2 235 RX2 yX2_thinks wsX2_thinks) := goodIn_app (goodIn_of _ (by decide +kernel)) ggX2_allBeliefIn_X2_thinks
set_option maxRecDepth 20000 in
theorem ggX2_allBeliefIn_X2_goes : GoodIn wsX2_allBeliefIn wsX2_goes := goodIn_r _ [37, 38, 39, 40, 6, 41, 24, 23, 18, 19, 17, 2, 22, 42, 43, 44, 45, 46, 16, 1, 47, 48, 49, 50, 51, 52, 53, 54, 55, 56, 57, 58, 59, 60, 61, 62, 63, 64, 65, 66, 21, 20, 67, 68, 69, 70, 15, 14, 71, 72, 73, 74, 75, 76, 77, 78, 79, 80, 81, 82, 83, 84, 85, 94, 95, 96, 97, 98, 99, 100, 101, 102, 103, 104, 105, 106, 107, 108, 109, 110, 111, 112, 113, 114, 115, 116, 117, 118, 119, 120, 121, 122, 123, 124] (by decide +kernel) (by decide +kernel)
set_option maxRecDepth 20000 in
theorem gX2_allBeliefIn_X2_goes : GoodIn wsX2_allBeliefIn (wsV RX2 132 RX2 yX2_goes wsX2_goes) := goodIn_app (goodIn_of _ (by decide +kernel)) ggX2_allBeliefIn_X2_goes
set_option maxRecDepth 20000 in
theorem ggX2_allBeliefIn_X2_allOf : GoodIn wsX2_allBeliefIn wsX2_allOf := goodIn_r _ [89] (by decide +kernel) (by decide +kernel)
set_option maxRecDepth 20000 in
theorem gX2_allBeliefIn_X2_allOf : GoodIn wsX2_allBeliefIn (wsV RX2 244 RX2 yX2_allOf wsX2_allOf) := goodIn_app (goodIn_of _ (by decide +kernel)) ggX2_allBeliefIn_X2_allOf
set_option maxRecDepth 20000 in
theorem ggX2_allBeliefIn_X2_forgets : GoodIn wsX2_allBeliefIn wsX2_forgets := goodIn_r _ [93, 8, 9, 10, 6, 11, 12, 13, 14, 15, 16, 17, 18, 19, 20, 21, 22, 1, 23, 2, 24, 25, 26, 27, 28, 29, 30, 31, 32, 33, 94, 95, 96, 97, 98, 99, 100, 101, 102, 103, 104, 105, 106, 107, 108, 109, 110, 111, 112, 113, 114, 115, 116, 117, 118, 119, 120, 121, 122, 123, 124] (by decide +kernel) (by decide +kernel)
set_option maxRecDepth 20000 in
theorem gX2_allBeliefIn_X2_forgets : GoodIn wsX2_allBeliefIn (wsV RX2 238 RX2 yX2_forgets wsX2_forgets) := goodIn_app (goodIn_of _ (by decide +kernel)) ggX2_allBeliefIn_X2_forgets
theorem dX2_allBeliefIn_0 : decode cX2_allBeliefIn 0 = .ok (.aload_n 0, 1) := by decide +kernel
theorem dX2_allBeliefIn_1 : decode cX2_allBeliefIn 1 = .ok (.invokevirtual 235, 3) := by decide +kernel
theorem dX2_allBeliefIn_4 : decode cX2_allBeliefIn 4 = .ok (.aload_n 0, 1) := by decide +kernel
theorem dX2_allBeliefIn_5 : decode cX2_allBeliefIn 5 = .ok (.iload_n 1, 1) := by decide +kernel
theorem dX2_allBeliefIn_6 : decode cX2_allBeliefIn 6 = .ok (.invokevirtual 132, 3) := by decide +kernel
theorem dX2_allBeliefIn_9 : decode cX2_allBeliefIn 9 = .ok (.aload_n 0, 1) := by decide +kernel
theorem dX2_allBeliefIn_10 : decode cX2_allBeliefIn 10 = .ok (.aload_n 0, 1) := by decide +kernel
theorem dX2_allBeliefIn_11 : decode cX2_allBeliefIn 11 = .ok (.getfield 40, 3) := by decide +kernel
theorem dX2_allBeliefIn_14 : decode cX2_allBeliefIn 14 = .ok (.aload_n 0, 1) := by decide +kernel
theorem dX2_allBeliefIn_15 : decode cX2_allBeliefIn 15 = .ok (.getfield 73, 3) := by decide +kernel
theorem dX2_allBeliefIn_18 : decode cX2_allBeliefIn 18 = .ok (.invokevirtual 244, 3) := by decide +kernel
theorem dX2_allBeliefIn_21 : decode cX2_allBeliefIn 21 = .ok (.istore_n 2, 1) := by decide +kernel
theorem dX2_allBeliefIn_22 : decode cX2_allBeliefIn 22 = .ok (.aload_n 0, 1) := by decide +kernel
theorem dX2_allBeliefIn_23 : decode cX2_allBeliefIn 23 = .ok (.invokevirtual 238, 3) := by decide +kernel
theorem dX2_allBeliefIn_26 : decode cX2_allBeliefIn 26 = .ok (.iload_n 2, 1) := by decide +kernel
theorem dX2_allBeliefIn_27 : decode cX2_allBeliefIn 27 = .ok (.ireturn, 1) := by decide +kernel
set_option maxRecDepth 20000 in
theorem ggX2_first_X2_isBidder : GoodIn wsX2_first wsX2_isBidder := goodIn_r _ [7, 8, 125, 126, 127, 128, 129, 130, 131, 132, 133, 134, 135, 136, 137, 138, 139, 140, 141, 142, 143, 144, 145, 146, 147, 148, 149, 150, 151, 152, 153, 154, 155] (by decide +kernel) (by decide +kernel)
set_option maxRecDepth 20000 in
theorem gX2_first_X2_isBidder : GoodIn wsX2_first (wsV RX2 122 RX2 yX2_isBidder wsX2_isBidder) := goodIn_app (goodIn_of _ (by decide +kernel)) ggX2_first_X2_isBidder
set_option maxRecDepth 20000 in
theorem ggX2_first_X2_bound : GoodIn wsX2_first wsX2_bound := goodIn_r _ [11] (by decide +kernel) (by decide +kernel)
set_option maxRecDepth 20000 in
theorem gX2_first_X2_bound : GoodIn wsX2_first (va_wsS RX2 76 yX2_bound wsX2_bound) := goodIn_app (goodIn_of _ (by decide +kernel)) ggX2_first_X2_bound
set_option maxRecDepth 20000 in
theorem ggX2_first_X2_no : GoodIn wsX2_first wsX2_no := goodIn_r _ [15, 16, 125, 126, 127, 128, 129, 130, 131, 132, 133, 134, 135, 136, 137, 138, 139, 140, 141, 142, 143, 144, 145, 146, 147, 148, 149, 150, 151, 152, 153, 154, 155] (by decide +kernel) (by decide +kernel)
set_option maxRecDepth 20000 in
theorem gX2_first_X2_no : GoodIn wsX2_first (wsV RX2 83 RX2 yX2_no wsX2_no) := goodIn_app (goodIn_of _ (by decide +kernel)) ggX2_first_X2_no
set_option maxRecDepth 20000 in
theorem ggX2_first_X2_manyIn : GoodIn wsX2_first wsX2_manyIn := goodIn_r _ [20, 21, 22, 23, 6, 24, 25, 26, 27, 28, 29, 30, 31, 32, 33, 34, 2, 35, 36, 37, 38, 39, 1, 8, 40, 41, 42, 43, 44, 45, 46, 47, 48, 49, 50, 51, 52, 53, 54, 55, 56, 57, 58, 59, 60, 61, 62, 63, 64, 65, 66, 67, 68, 69, 70, 71, 72, 73, 74, 75, 76, 77, 78, 79, 80, 81, 82, 83, 84, 85, 86, 87, 88, 89, 90, 3, 4, 5, 7, 91, 92, 93, 94, 95, 96, 97, 98, 99, 100, 101, 102, 103, 104, 105, 106, 107, 108, 125, 126, 127, 128, 129, 130, 131, 132, 133, 134, 135, 136, 137, 138, 139, 140, 141, 142, 143, 144, 145, 146, 147, 148, 149, 150, 151, 152, 153, 154, 155] (by decide +kernel) (by decide +kernel)
set_option maxRecDepth 20000 in
theorem gX2_first_X2_manyIn : GoodIn wsX2_first (wsV RX2 248 RX2 yX2_manyIn wsX2_manyIn) := goodIn_app (goodIn_of _ (by decide +kernel)) ggX2_first_X2_manyIn
set_option maxRecDepth 20000 in
theorem ggX2_first_X2_changes : GoodIn wsX2_first wsX2_changes := goodIn_r _ [112, 25, 26, 27, 6, 28, 29, 30, 31, 32, 33, 34, 2, 35, 36, 37, 38, 39, 1, 8, 40, 41, 42, 43, 44, 45, 46, 47, 48, 49, 125, 126, 127, 128, 129, 130, 131, 132, 133, 134, 135, 136, 137, 138, 139, 140, 141, 142, 143, 144, 145, 146, 147, 148, 149, 150, 151, 152, 153, 154, 155] (by decide +kernel) (by decide +kernel)
set_option maxRecDepth 20000 in
theorem gX2_first_X2_changes : GoodIn wsX2_first (wsV RX2 251 RX2 yX2_changes wsX2_changes) := goodIn_app (goodIn_of _ (by decide +kernel)) ggX2_first_X2_changes
set_option maxRecDepth 20000 in
theorem ggX2_first_X2_putsFirst : GoodIn wsX2_first wsX2_putsFirst := goodIn_r _ [116, 35, 117, 118, 119, 6, 120, 125, 126, 127, 128, 129, 130, 131, 132, 133, 134, 135, 136, 137, 138, 139, 140, 141, 142, 143, 144, 145, 146, 147, 148, 149, 150, 151, 152, 153, 154, 155] (by decide +kernel) (by decide +kernel)
set_option maxRecDepth 20000 in
theorem gX2_first_X2_putsFirst : GoodIn wsX2_first (wsV RX2 254 RX2 yX2_putsFirst wsX2_putsFirst) := goodIn_app (goodIn_of _ (by decide +kernel)) ggX2_first_X2_putsFirst
set_option maxRecDepth 20000 in
theorem ggX2_first_X2_changesBack : GoodIn wsX2_first wsX2_changesBack := goodIn_r _ [124, 25, 26, 27, 6, 28, 29, 30, 31, 32, 33, 34, 2, 35, 36, 37, 38, 39, 1, 8, 40, 41, 42, 43, 44, 45, 46, 47, 48, 49, 125, 126, 127, 128, 129, 130, 131, 132, 133, 134, 135, 136, 137, 138, 139, 140, 141, 142, 143, 144, 145, 146, 147, 148, 149, 150, 151, 152, 153, 154, 155] (by decide +kernel) (by decide +kernel)
set_option maxRecDepth 20000 in
theorem gX2_first_X2_changesBack : GoodIn wsX2_first (wsV RX2 257 RX2 yX2_changesBack wsX2_changesBack) := goodIn_app (goodIn_of _ (by decide +kernel)) ggX2_first_X2_changesBack
theorem dX2_first_0 : decode cX2_first 0 = .ok (.aload_n 0, 1) := by decide +kernel
theorem dX2_first_1 : decode cX2_first 1 = .ok (.iload_n 1, 1) := by decide +kernel
theorem dX2_first_2 : decode cX2_first 2 = .ok (.invokevirtual 122, 3) := by decide +kernel
theorem dX2_first_5 : decode cX2_first 5 = .ok (.ifCond .ne 7, 3) := by decide +kernel
theorem dX2_first_8 : decode cX2_first 8 = .ok (.iconst (-1), 1) := by decide +kernel
theorem dX2_first_9 : decode cX2_first 9 = .ok (.goto 10, 3) := by decide +kernel
theorem dX2_first_12 : decode cX2_first 12 = .ok (.iload_n 2, 1) := by decide +kernel
theorem dX2_first_13 : decode cX2_first 13 = .ok (.iconst 0, 1) := by decide +kernel
theorem dX2_first_14 : decode cX2_first 14 = .ok (.bipush 20, 2) := by decide +kernel
