theorem dX2_first_16 : decode cX2_first 16 = .ok (.invokestatic 76, 3) := by decide +kernel
theorem dX2_first_19 : decode cX2_first 19 = .ok (.istore_n 3, 1) := by decide +kernel
theorem dX2_first_20 : decode cX2_first 20 = .ok (.iload_n 3, 1) := by decide +kernel
theorem dX2_first_21 : decode cX2_first 21 = .ok (.ifCond .eq 9, 3) := by decide +kernel
theorem dX2_first_24 : decode cX2_first 24 = .ok (.aload_n 0, 1) := by decide +kernel
theorem dX2_first_25 : decode cX2_first 25 = .ok (.iload_n 3, 1) := by decide +kernel
theorem dX2_first_26 : decode cX2_first 26 = .ok (.invokevirtual 83, 3) := by decide +kernel
theorem dX2_first_29 : decode cX2_first 29 = .ok (.ireturn, 1) := by decide +kernel
theorem dX2_first_30 : decode cX2_first 30 = .ok (.bipush (-9), 2) := by decide +kernel
theorem dX2_first_32 : decode cX2_first 32 = .ok (.istore 4, 2) := by decide +kernel
theorem dX2_first_34 : decode cX2_first 34 = .ok (.aload_n 0, 1) := by decide +kernel
theorem dX2_first_35 : decode cX2_first 35 = .ok (.iload_n 1, 1) := by decide +kernel
theorem dX2_first_36 : decode cX2_first 36 = .ok (.iload_n 2, 1) := by decide +kernel
theorem dX2_first_37 : decode cX2_first 37 = .ok (.invokevirtual 248, 3) := by decide +kernel
theorem dX2_first_40 : decode cX2_first 40 = .ok (.istore 5, 2) := by decide +kernel
theorem dX2_first_42 : decode cX2_first 42 = .ok (.iconst 0, 1) := by decide +kernel
theorem dX2_first_43 : decode cX2_first 43 = .ok (.istore 6, 2) := by decide +kernel
theorem dX2_first_45 : decode cX2_first 45 = .ok (.iload 6, 2) := by decide +kernel
theorem dX2_first_47 : decode cX2_first 47 = .ok (.aload_n 0, 1) := by decide +kernel
theorem dX2_first_48 : decode cX2_first 48 = .ok (.getfield 67, 3) := by decide +kernel
theorem dX2_first_51 : decode cX2_first 51 = .ok (.if_icmp .ge 62, 3) := by decide +kernel
theorem dX2_first_54 : decode cX2_first 54 = .ok (.aload_n 0, 1) := by decide +kernel
theorem dX2_first_55 : decode cX2_first 55 = .ok (.getfield 25, 3) := by decide +kernel
theorem dX2_first_58 : decode cX2_first 58 = .ok (.iload 6, 2) := by decide +kernel
theorem dX2_first_60 : decode cX2_first 60 = .ok (.iaload, 1) := by decide +kernel
theorem dX2_first_61 : decode cX2_first 61 = .ok (.ifCond .eq 6, 3) := by decide +kernel
theorem dX2_first_64 : decode cX2_first 64 = .ok (.goto 43, 3) := by decide +kernel
theorem dX2_first_67 : decode cX2_first 67 = .ok (.aload_n 0, 1) := by decide +kernel
theorem dX2_first_68 : decode cX2_first 68 = .ok (.invokevirtual 251, 3) := by decide +kernel
theorem dX2_first_71 : decode cX2_first 71 = .ok (.aload_n 0, 1) := by decide +kernel
theorem dX2_first_72 : decode cX2_first 72 = .ok (.iload 6, 2) := by decide +kernel
theorem dX2_first_74 : decode cX2_first 74 = .ok (.invokevirtual 254, 3) := by decide +kernel
theorem dX2_first_77 : decode cX2_first 77 = .ok (.aload_n 0, 1) := by decide +kernel
theorem dX2_first_78 : decode cX2_first 78 = .ok (.iload_n 1, 1) := by decide +kernel
theorem dX2_first_79 : decode cX2_first 79 = .ok (.iload_n 2, 1) := by decide +kernel
theorem dX2_first_80 : decode cX2_first 80 = .ok (.invokevirtual 248, 3) := by decide +kernel
theorem dX2_first_83 : decode cX2_first 83 = .ok (.istore 7, 2) := by decide +kernel
theorem dX2_first_85 : decode cX2_first 85 = .ok (.aload_n 0, 1) := by decide +kernel
theorem dX2_first_86 : decode cX2_first 86 = .ok (.invokevirtual 257, 3) := by decide +kernel
theorem dX2_first_89 : decode cX2_first 89 = .ok (.iload 7, 2) := by decide +kernel
theorem dX2_first_91 : decode cX2_first 91 = .ok (.iload 5, 2) := by decide +kernel
theorem dX2_first_93 : decode cX2_first 93 = .ok (.if_icmp .gt 6, 3) := by decide +kernel
theorem dX2_first_96 : decode cX2_first 96 = .ok (.goto 11, 3) := by decide +kernel
theorem dX2_first_99 : decode cX2_first 99 = .ok (.iload 6, 2) := by decide +kernel
theorem dX2_first_101 : decode cX2_first 101 = .ok (.istore 4, 2) := by decide +kernel
theorem dX2_first_103 : decode cX2_first 103 = .ok (.iload 7, 2) := by decide +kernel
theorem dX2_first_105 : decode cX2_first 105 = .ok (.istore 5, 2) := by decide +kernel
theorem dX2_first_107 : decode cX2_first 107 = .ok (.iinc 6 1, 3) := by decide +kernel
theorem dX2_first_110 : decode cX2_first 110 = .ok (.goto (-65), 3) := by decide +kernel
theorem dX2_first_113 : decode cX2_first 113 = .ok (.iload 4, 2) := by decide +kernel
theorem dX2_first_115 : decode cX2_first 115 = .ok (.ireturn, 1) := by decide +kernel
set_option maxRecDepth 20000 in
theorem ggX2_give_X2_bound : GoodIn wsX2_give wsX2_bound := goodIn_r _ [7] (by decide +kernel) (by decide +kernel)
set_option maxRecDepth 20000 in
theorem gX2_give_X2_bound : GoodIn wsX2_give (va_wsS RX2 76 yX2_bound wsX2_bound) := goodIn_app (goodIn_of _ (by decide +kernel)) ggX2_give_X2_bound
set_option maxRecDepth 20000 in
theorem ggX2_give_X2_no : GoodIn wsX2_give wsX2_no := goodIn_r _ [11, 12, 106, 107, 108, 109, 110, 111, 112, 113, 114, 115, 116, 117, 118, 119, 120, 121, 122, 123, 124, 125, 126, 127, 128, 129, 130, 131, 132, 133, 134, 135, 136] (by decide +kernel) (by decide +kernel)
set_option maxRecDepth 20000 in
theorem gX2_give_X2_no : GoodIn wsX2_give (wsV RX2 83 RX2 yX2_no wsX2_no) := goodIn_app (goodIn_of _ (by decide +kernel)) ggX2_give_X2_no
set_option maxRecDepth 20000 in
theorem ggX2_give_X2_allBeliefIn : GoodIn wsX2_give wsX2_allBeliefIn := goodIn_r _ [16, 17, 18, 19, 20, 21, 6, 22, 23, 24, 25, 26, 27, 28, 29, 30, 3, 31, 2, 32, 33, 34, 35, 1, 36, 37, 38, 39, 40, 41, 42, 43, 44, 45, 46, 47, 48, 49, 50, 51, 52, 53, 54, 55, 56, 57, 58, 59, 60, 61, 62, 63, 64, 65, 66, 67, 68, 69, 70, 71, 72, 73, 74, 75, 76, 77, 78, 79, 80, 81, 82, 83, 84, 85, 86, 87, 88, 89, 90, 91, 92, 93, 94, 95, 96, 97, 98, 99, 100, 101, 102, 103, 104, 105, 106, 107, 108, 109, 110, 111, 112, 113, 114, 115, 116, 117, 118, 119, 120, 121, 122, 123, 124, 125, 126, 127, 128, 129, 130, 131, 132, 133, 134, 135, 136] (by decide +kernel) (by decide +kernel)
set_option maxRecDepth 20000 in
theorem gX2_give_X2_allBeliefIn : GoodIn wsX2_give (wsV RX2 260 RX2 yX2_allBeliefIn wsX2_allBeliefIn) := goodIn_app (goodIn_of _ (by decide +kernel)) ggX2_give_X2_allBeliefIn
set_option maxRecDepth 20000 in
theorem ggX2_give_X2_isBidder : GoodIn wsX2_give wsX2_isBidder := goodIn_r _ [90, 18, 106, 107, 108, 109, 110, 111, 112, 113, 114, 115, 116, 117, 118, 119, 120, 121, 122, 123, 124, 125, 126, 127, 128, 129, 130, 131, 132, 133, 134, 135, 136] (by decide +kernel) (by decide +kernel)
set_option maxRecDepth 20000 in
theorem gX2_give_X2_isBidder : GoodIn wsX2_give (wsV RX2 122 RX2 yX2_isBidder wsX2_isBidder) := goodIn_app (goodIn_of _ (by decide +kernel)) ggX2_give_X2_isBidder
theorem dX2_give_0 : decode cX2_give 0 = .ok (.iload_n 1, 1) := by decide +kernel
theorem dX2_give_1 : decode cX2_give 1 = .ok (.iconst 0, 1) := by decide +kernel
theorem dX2_give_2 : decode cX2_give 2 = .ok (.bipush 20, 2) := by decide +kernel
theorem dX2_give_4 : decode cX2_give 4 = .ok (.invokestatic 76, 3) := by decide +kernel
theorem dX2_give_7 : decode cX2_give 7 = .ok (.istore_n 2, 1) := by decide +kernel
theorem dX2_give_8 : decode cX2_give 8 = .ok (.iload_n 2, 1) := by decide +kernel
theorem dX2_give_9 : decode cX2_give 9 = .ok (.ifCond .eq 9, 3) := by decide +kernel
theorem dX2_give_12 : decode cX2_give 12 = .ok (.aload_n 0, 1) := by decide +kernel
theorem dX2_give_13 : decode cX2_give 13 = .ok (.iload_n 2, 1) := by decide +kernel
theorem dX2_give_14 : decode cX2_give 14 = .ok (.invokevirtual 83, 3) := by decide +kernel
theorem dX2_give_17 : decode cX2_give 17 = .ok (.ireturn, 1) := by decide +kernel
theorem dX2_give_18 : decode cX2_give 18 = .ok (.bipush (-9), 2) := by decide +kernel
theorem dX2_give_20 : decode cX2_give 20 = .ok (.istore_n 3, 1) := by decide +kernel
theorem dX2_give_21 : decode cX2_give 21 = .ok (.aload_n 0, 1) := by decide +kernel
theorem dX2_give_22 : decode cX2_give 22 = .ok (.iload_n 1, 1) := by decide +kernel
theorem dX2_give_23 : decode cX2_give 23 = .ok (.invokevirtual 260, 3) := by decide +kernel
theorem dX2_give_26 : decode cX2_give 26 = .ok (.istore 4, 2) := by decide +kernel
theorem dX2_give_28 : decode cX2_give 28 = .ok (.iconst 0, 1) := by decide +kernel
theorem dX2_give_29 : decode cX2_give 29 = .ok (.istore 5, 2) := by decide +kernel
theorem dX2_give_31 : decode cX2_give 31 = .ok (.iload 5, 2) := by decide +kernel
theorem dX2_give_33 : decode cX2_give 33 = .ok (.aload_n 0, 1) := by decide +kernel
theorem dX2_give_34 : decode cX2_give 34 = .ok (.getfield 67, 3) := by decide +kernel
theorem dX2_give_37 : decode cX2_give 37 = .ok (.if_icmp .ge 84, 3) := by decide +kernel
theorem dX2_give_40 : decode cX2_give 40 = .ok (.aload_n 0, 1) := by decide +kernel
theorem dX2_give_41 : decode cX2_give 41 = .ok (.getfield 25, 3) := by decide +kernel
theorem dX2_give_44 : decode cX2_give 44 = .ok (.iload 5, 2) := by decide +kernel
theorem dX2_give_46 : decode cX2_give 46 = .ok (.iaload, 1) := by decide +kernel
theorem dX2_give_47 : decode cX2_give 47 = .ok (.ifCond .ne 68, 3) := by decide +kernel
theorem dX2_give_50 : decode cX2_give 50 = .ok (.aload_n 0, 1) := by decide +kernel
theorem dX2_give_51 : decode cX2_give 51 = .ok (.aload_n 0, 1) := by decide +kernel
theorem dX2_give_52 : decode cX2_give 52 = .ok (.getfield 19, 3) := by decide +kernel
theorem dX2_give_55 : decode cX2_give 55 = .ok (.iload 5, 2) := by decide +kernel
theorem dX2_give_57 : decode cX2_give 57 = .ok (.iaload, 1) := by decide +kernel
theorem dX2_give_58 : decode cX2_give 58 = .ok (.invokevirtual 122, 3) := by decide +kernel
theorem dX2_give_61 : decode cX2_give 61 = .ok (.ifCond .ne 6, 3) := by decide +kernel
theorem dX2_give_64 : decode cX2_give 64 = .ok (.goto 51, 3) := by decide +kernel
theorem dX2_give_67 : decode cX2_give 67 = .ok (.aload_n 0, 1) := by decide +kernel
theorem dX2_give_68 : decode cX2_give 68 = .ok (.getfield 25, 3) := by decide +kernel
theorem dX2_give_71 : decode cX2_give 71 = .ok (.iload 5, 2) := by decide +kernel
theorem dX2_give_73 : decode cX2_give 73 = .ok (.aload_n 0, 1) := by decide +kernel
theorem dX2_give_74 : decode cX2_give 74 = .ok (.getfield 19, 3) := by decide +kernel
theorem dX2_give_77 : decode cX2_give 77 = .ok (.iload 5, 2) := by decide +kernel
theorem dX2_give_79 : decode cX2_give 79 = .ok (.iaload, 1) := by decide +kernel
theorem dX2_give_80 : decode cX2_give 80 = .ok (.iconst 1, 1) := by decide +kernel
theorem dX2_give_81 : decode cX2_give 81 = .ok (.iadd, 1) := by decide +kernel
theorem dX2_give_82 : decode cX2_give 82 = .ok (.iastore, 1) := by decide +kernel
theorem dX2_give_83 : decode cX2_give 83 = .ok (.aload_n 0, 1) := by decide +kernel
theorem dX2_give_84 : decode cX2_give 84 = .ok (.iload_n 1, 1) := by decide +kernel
theorem dX2_give_85 : decode cX2_give 85 = .ok (.invokevirtual 260, 3) := by decide +kernel
theorem dX2_give_88 : decode cX2_give 88 = .ok (.istore 6, 2) := by decide +kernel
theorem dX2_give_90 : decode cX2_give 90 = .ok (.aload_n 0, 1) := by decide +kernel
theorem dX2_give_91 : decode cX2_give 91 = .ok (.getfield 25, 3) := by decide +kernel
theorem dX2_give_94 : decode cX2_give 94 = .ok (.iload 5, 2) := by decide +kernel
theorem dX2_give_96 : decode cX2_give 96 = .ok (.iconst 0, 1) := by decide +kernel
theorem dX2_give_97 : decode cX2_give 97 = .ok (.iastore, 1) := by decide +kernel
theorem dX2_give_98 : decode cX2_give 98 = .ok (.iload 6, 2) := by decide +kernel
theorem dX2_give_100 : decode cX2_give 100 = .ok (.iload 4, 2) := by decide +kernel
theorem dX2_give_102 : decode cX2_give 102 = .ok (.if_icmp .gt 6, 3) := by decide +kernel
theorem dX2_give_105 : decode cX2_give 105 = .ok (.goto 10, 3) := by decide +kernel
theorem dX2_give_108 : decode cX2_give 108 = .ok (.iload 5, 2) := by decide +kernel
theorem dX2_give_110 : decode cX2_give 110 = .ok (.istore_n 3, 1) := by decide +kernel
theorem dX2_give_111 : decode cX2_give 111 = .ok (.iload 6, 2) := by decide +kernel
theorem dX2_give_113 : decode cX2_give 113 = .ok (.istore 4, 2) := by decide +kernel
theorem dX2_give_115 : decode cX2_give 115 = .ok (.iinc 5 1, 3) := by decide +kernel
theorem dX2_give_118 : decode cX2_give 118 = .ok (.goto (-87), 3) := by decide +kernel
theorem dX2_give_121 : decode cX2_give 121 = .ok (.iload_n 3, 1) := by decide +kernel
theorem dX2_give_122 : decode cX2_give 122 = .ok (.ireturn, 1) := by decide +kernel
set_option maxRecDepth 20000 in
theorem ggX2_pool_X2_isBidder : GoodIn wsX2_pool wsX2_isBidder := goodIn_r _ [7, 2, 109, 110, 111, 112, 113, 114, 115, 116, 117, 118, 119, 120, 121, 122, 123, 124, 125, 126, 127, 128, 129, 130, 131, 132, 133, 134, 135, 136, 137, 138, 139] (by decide +kernel) (by decide +kernel)
set_option maxRecDepth 20000 in
theorem gX2_pool_X2_isBidder : GoodIn wsX2_pool (wsV RX2 122 RX2 yX2_isBidder wsX2_isBidder) := goodIn_app (goodIn_of _ (by decide +kernel)) ggX2_pool_X2_isBidder
set_option maxRecDepth 20000 in
theorem ggX2_pool_X2_bound : GoodIn wsX2_pool wsX2_bound := goodIn_r _ [10] (by decide +kernel) (by decide +kernel)
set_option maxRecDepth 20000 in
theorem gX2_pool_X2_bound : GoodIn wsX2_pool (va_wsS RX2 76 yX2_bound wsX2_bound) := goodIn_app (goodIn_of _ (by decide +kernel)) ggX2_pool_X2_bound
set_option maxRecDepth 20000 in
theorem ggX2_pool_X2_no : GoodIn wsX2_pool wsX2_no := goodIn_r _ [14, 15, 109, 110, 111, 112, 113, 114, 115, 116, 117, 118, 119, 120, 121, 122, 123, 124, 125, 126, 127, 128, 129, 130, 131, 132, 133, 134, 135, 136, 137, 138, 139] (by decide +kernel) (by decide +kernel)
set_option maxRecDepth 20000 in
theorem gX2_pool_X2_no : GoodIn wsX2_pool (wsV RX2 83 RX2 yX2_no wsX2_no) := goodIn_app (goodIn_of _ (by decide +kernel)) ggX2_pool_X2_no
set_option maxRecDepth 20000 in
theorem ggX2_pool_X2_manyIn : GoodIn wsX2_pool wsX2_manyIn := goodIn_r _ [19, 20, 21, 22, 6, 23, 24, 25, 26, 27, 28, 29, 30, 31, 32, 33, 34, 35, 36, 37, 1, 38, 39, 2, 40, 41, 42, 43, 44, 45, 46, 47, 48, 49, 50, 51, 52, 53, 54, 55, 56, 57, 58, 59, 60, 61, 62, 63, 64, 65, 66, 67, 68, 69, 70, 71, 72, 73, 74, 75, 76, 77, 78, 79, 80, 81, 82, 83, 84, 85, 86, 87, 88, 89, 90, 3, 4, 5, 7, 91, 92, 93, 94, 95, 96, 97, 98, 99, 100, 101, 102, 103, 104, 105, 106, 107, 108, 109, 110, 111, 112, 113, 114, 115, 116, 117, 118, 119, 120, 121, 122, 123, 124, 125, 126, 127, 128, 129, 130, 131, 132, 133, 134, 135, 136, 137, 138, 139] (by decide +kernel) (by decide +kernel)
set_option maxRecDepth 20000 in
theorem gX2_pool_X2_manyIn : GoodIn wsX2_pool (wsV RX2 248 RX2 yX2_manyIn wsX2_manyIn) := goodIn_app (goodIn_of _ (by decide +kernel)) ggX2_pool_X2_manyIn
set_option maxRecDepth 20000 in
theorem ggX2_pool_X2_held : GoodIn wsX2_pool wsX2_held := goodIn_r _ [97] (by decide +kernel) (by decide +kernel)
set_option maxRecDepth 20000 in
theorem gX2_pool_X2_held : GoodIn wsX2_pool (va_wsS RX2 207 yX2_held wsX2_held) := goodIn_app (goodIn_of _ (by decide +kernel)) ggX2_pool_X2_held
theorem dX2_pool_0 : decode cX2_pool 0 = .ok (.aload_n 0, 1) := by decide +kernel
theorem dX2_pool_1 : decode cX2_pool 1 = .ok (.iload_n 1, 1) := by decide +kernel
theorem dX2_pool_2 : decode cX2_pool 2 = .ok (.invokevirtual 122, 3) := by decide +kernel
theorem dX2_pool_5 : decode cX2_pool 5 = .ok (.ifCond .ne 7, 3) := by decide +kernel
theorem dX2_pool_8 : decode cX2_pool 8 = .ok (.iconst (-1), 1) := by decide +kernel
theorem dX2_pool_9 : decode cX2_pool 9 = .ok (.goto 10, 3) := by decide +kernel
theorem dX2_pool_12 : decode cX2_pool 12 = .ok (.iload_n 2, 1) := by decide +kernel
theorem dX2_pool_13 : decode cX2_pool 13 = .ok (.iconst 0, 1) := by decide +kernel
theorem dX2_pool_14 : decode cX2_pool 14 = .ok (.bipush 20, 2) := by decide +kernel
theorem dX2_pool_16 : decode cX2_pool 16 = .ok (.invokestatic 76, 3) := by decide +kernel
theorem dX2_pool_19 : decode cX2_pool 19 = .ok (.istore_n 3, 1) := by decide +kernel
theorem dX2_pool_20 : decode cX2_pool 20 = .ok (.iload_n 3, 1) := by decide +kernel
theorem dX2_pool_21 : decode cX2_pool 21 = .ok (.ifCond .eq 9, 3) := by decide +kernel
theorem dX2_pool_24 : decode cX2_pool 24 = .ok (.aload_n 0, 1) := by decide +kernel
theorem dX2_pool_25 : decode cX2_pool 25 = .ok (.iload_n 3, 1) := by decide +kernel
theorem dX2_pool_26 : decode cX2_pool 26 = .ok (.invokevirtual 83, 3) := by decide +kernel
theorem dX2_pool_29 : decode cX2_pool 29 = .ok (.ireturn, 1) := by decide +kernel
theorem dX2_pool_30 : decode cX2_pool 30 = .ok (.bipush (-9), 2) := by decide +kernel
theorem dX2_pool_32 : decode cX2_pool 32 = .ok (.istore 4, 2) := by decide +kernel
theorem dX2_pool_34 : decode cX2_pool 34 = .ok (.aload_n 0, 1) := by decide +kernel
theorem dX2_pool_35 : decode cX2_pool 35 = .ok (.iload_n 1, 1) := by decide +kernel
theorem dX2_pool_36 : decode cX2_pool 36 = .ok (.iload_n 2, 1) := by decide +kernel
theorem dX2_pool_37 : decode cX2_pool 37 = .ok (.invokevirtual 248, 3) := by decide +kernel
theorem dX2_pool_40 : decode cX2_pool 40 = .ok (.istore 5, 2) := by decide +kernel
theorem dX2_pool_42 : decode cX2_pool 42 = .ok (.aload_n 0, 1) := by decide +kernel
theorem dX2_pool_43 : decode cX2_pool 43 = .ok (.getfield 37, 3) := by decide +kernel
theorem dX2_pool_46 : decode cX2_pool 46 = .ok (.iload_n 1, 1) := by decide +kernel
theorem dX2_pool_47 : decode cX2_pool 47 = .ok (.iaload, 1) := by decide +kernel
theorem dX2_pool_48 : decode cX2_pool 48 = .ok (.istore 6, 2) := by decide +kernel
theorem dX2_pool_50 : decode cX2_pool 50 = .ok (.iconst 0, 1) := by decide +kernel
theorem dX2_pool_51 : decode cX2_pool 51 = .ok (.istore 7, 2) := by decide +kernel
theorem dX2_pool_53 : decode cX2_pool 53 = .ok (.iload 7, 2) := by decide +kernel
theorem dX2_pool_55 : decode cX2_pool 55 = .ok (.aload_n 0, 1) := by decide +kernel
theorem dX2_pool_56 : decode cX2_pool 56 = .ok (.getfield 73, 3) := by decide +kernel
theorem dX2_pool_59 : decode cX2_pool 59 = .ok (.if_icmp .ge 95, 3) := by decide +kernel
theorem dX2_pool_62 : decode cX2_pool 62 = .ok (.iload 7, 2) := by decide +kernel
theorem dX2_pool_64 : decode cX2_pool 64 = .ok (.iload_n 1, 1) := by decide +kernel
theorem dX2_pool_65 : decode cX2_pool 65 = .ok (.if_icmp .ne 6, 3) := by decide +kernel
theorem dX2_pool_68 : decode cX2_pool 68 = .ok (.goto 80, 3) := by decide +kernel
theorem dX2_pool_71 : decode cX2_pool 71 = .ok (.aload_n 0, 1) := by decide +kernel
theorem dX2_pool_72 : decode cX2_pool 72 = .ok (.getfield 37, 3) := by decide +kernel
theorem dX2_pool_75 : decode cX2_pool 75 = .ok (.iload 7, 2) := by decide +kernel
theorem dX2_pool_77 : decode cX2_pool 77 = .ok (.iaload, 1) := by decide +kernel
theorem dX2_pool_78 : decode cX2_pool 78 = .ok (.istore 8, 2) := by decide +kernel
theorem dX2_pool_80 : decode cX2_pool 80 = .ok (.aload_n 0, 1) := by decide +kernel
theorem dX2_pool_81 : decode cX2_pool 81 = .ok (.getfield 37, 3) := by decide +kernel
theorem dX2_pool_84 : decode cX2_pool 84 = .ok (.iload_n 1, 1) := by decide +kernel
theorem dX2_pool_85 : decode cX2_pool 85 = .ok (.iload 6, 2) := by decide +kernel
theorem dX2_pool_87 : decode cX2_pool 87 = .ok (.iload 8, 2) := by decide +kernel
theorem dX2_pool_89 : decode cX2_pool 89 = .ok (.iadd, 1) := by decide +kernel
theorem dX2_pool_90 : decode cX2_pool 90 = .ok (.sipush 999, 3) := by decide +kernel
theorem dX2_pool_93 : decode cX2_pool 93 = .ok (.invokestatic 207, 3) := by decide +kernel
theorem dX2_pool_96 : decode cX2_pool 96 = .ok (.iastore, 1) := by decide +kernel
theorem dX2_pool_97 : decode cX2_pool 97 = .ok (.aload_n 0, 1) := by decide +kernel
theorem dX2_pool_98 : decode cX2_pool 98 = .ok (.getfield 37, 3) := by decide +kernel
theorem dX2_pool_101 : decode cX2_pool 101 = .ok (.iload 7, 2) := by decide +kernel
theorem dX2_pool_103 : decode cX2_pool 103 = .ok (.iconst 0, 1) := by decide +kernel
theorem dX2_pool_104 : decode cX2_pool 104 = .ok (.iastore, 1) := by decide +kernel
theorem dX2_pool_105 : decode cX2_pool 105 = .ok (.aload_n 0, 1) := by decide +kernel
theorem dX2_pool_106 : decode cX2_pool 106 = .ok (.iload_n 1, 1) := by decide +kernel
theorem dX2_pool_107 : decode cX2_pool 107 = .ok (.iload_n 2, 1) := by decide +kernel
theorem dX2_pool_108 : decode cX2_pool 108 = .ok (.invokevirtual 248, 3) := by decide +kernel
theorem dX2_pool_111 : decode cX2_pool 111 = .ok (.istore 9, 2) := by decide +kernel
theorem dX2_pool_113 : decode cX2_pool 113 = .ok (.aload_n 0, 1) := by decide +kernel
theorem dX2_pool_114 : decode cX2_pool 114 = .ok (.getfield 37, 3) := by decide +kernel
theorem dX2_pool_117 : decode cX2_pool 117 = .ok (.iload_n 1, 1) := by decide +kernel
theorem dX2_pool_118 : decode cX2_pool 118 = .ok (.iload 6, 2) := by decide +kernel
theorem dX2_pool_120 : decode cX2_pool 120 = .ok (.iastore, 1) := by decide +kernel
theorem dX2_pool_121 : decode cX2_pool 121 = .ok (.aload_n 0, 1) := by decide +kernel
theorem dX2_pool_122 : decode cX2_pool 122 = .ok (.getfield 37, 3) := by decide +kernel
theorem dX2_pool_125 : decode cX2_pool 125 = .ok (.iload 7, 2) := by decide +kernel
theorem dX2_pool_127 : decode cX2_pool 127 = .ok (.iload 8, 2) := by decide +kernel
theorem dX2_pool_129 : decode cX2_pool 129 = .ok (.iastore, 1) := by decide +kernel
theorem dX2_pool_130 : decode cX2_pool 130 = .ok (.iload 9, 2) := by decide +kernel
theorem dX2_pool_132 : decode cX2_pool 132 = .ok (.iload 5, 2) := by decide +kernel
theorem dX2_pool_134 : decode cX2_pool 134 = .ok (.if_icmp .gt 6, 3) := by decide +kernel
theorem dX2_pool_137 : decode cX2_pool 137 = .ok (.goto 11, 3) := by decide +kernel
theorem dX2_pool_140 : decode cX2_pool 140 = .ok (.iload 7, 2) := by decide +kernel
theorem dX2_pool_142 : decode cX2_pool 142 = .ok (.istore 4, 2) := by decide +kernel
theorem dX2_pool_144 : decode cX2_pool 144 = .ok (.iload 9, 2) := by decide +kernel
theorem dX2_pool_146 : decode cX2_pool 146 = .ok (.istore 5, 2) := by decide +kernel
theorem dX2_pool_148 : decode cX2_pool 148 = .ok (.iinc 7 1, 3) := by decide +kernel
theorem dX2_pool_151 : decode cX2_pool 151 = .ok (.goto (-98), 3) := by decide +kernel
theorem dX2_pool_154 : decode cX2_pool 154 = .ok (.iload 4, 2) := by decide +kernel
theorem dX2_pool_156 : decode cX2_pool 156 = .ok (.ireturn, 1) := by decide +kernel
set_option maxRecDepth 20000 in
theorem ggX2_paidWithout_X2_thinks : GoodIn wsX2_paidWithout wsX2_thinks := goodIn_r _ [8, 9, 10, 11, 7, 12, 13, 14, 15, 16, 17, 18, 19, 20, 21, 22, 1, 23, 24, 3, 25, 26, 27, 28, 29, 30, 31, 32, 33, 34, 90, 91, 92, 93, 94, 95, 96, 97, 98, 99, 100, 101, 102, 103, 104, 105, 106, 107, 108, 109, 110, 111, 112, 113, 114, 115, 116, 117, 118, 119, 120] (by decide +kernel) (by decide +kernel)
set_option maxRecDepth 20000 in
theorem gX2_paidWithout_X2_thinks : GoodIn wsX2_paidWithout (wsV RX2 235 RX2 yX2_thinks wsX2_thinks) := goodIn_app (goodIn_of _ (by decide +kernel)) ggX2_paidWithout_X2_thinks
set_option maxRecDepth 20000 in
theorem ggX2_paidWithout_X2_goesMonth : GoodIn wsX2_paidWithout wsX2_goesMonth := goodIn_r _ [38, 25, 24, 19, 20, 18, 3, 1, 39, 40, 41, 7, 42, 2, 17, 23, 43, 44, 45, 46, 47, 48, 49, 50, 51, 52, 53, 54, 55, 56, 57, 58, 59, 60, 61, 62, 22, 21, 63, 64, 65, 66, 16, 15, 67, 68, 69, 70, 71, 72, 73, 74, 75, 76, 77, 78, 79, 80, 81, 90, 91, 92, 93, 94, 95, 96, 97, 98, 99, 100, 101, 102, 103, 104, 105, 106, 107, 108, 109, 110, 111, 112, 113, 114, 115, 116, 117, 118, 119, 120] (by decide +kernel) (by decide +kernel)
set_option maxRecDepth 20000 in
theorem gX2_paidWithout_X2_goesMonth : GoodIn wsX2_paidWithout (wsV RX2 213 RX2 yX2_goesMonth wsX2_goesMonth) := goodIn_app (goodIn_of _ (by decide +kernel)) ggX2_paidWithout_X2_goesMonth
set_option maxRecDepth 20000 in
theorem ggX2_paidWithout_X2_allOf : GoodIn wsX2_paidWithout wsX2_allOf := goodIn_r _ [85] (by decide +kernel) (by decide +kernel)
set_option maxRecDepth 20000 in
theorem gX2_paidWithout_X2_allOf : GoodIn wsX2_paidWithout (wsV RX2 244 RX2 yX2_allOf wsX2_allOf) := goodIn_app (goodIn_of _ (by decide +kernel)) ggX2_paidWithout_X2_allOf
set_option maxRecDepth 20000 in
theorem ggX2_paidWithout_X2_forgets : GoodIn wsX2_paidWithout wsX2_forgets := goodIn_r _ [89, 9, 10, 11, 7, 12, 13, 14, 15, 16, 17, 18, 19, 20, 21, 22, 1, 23, 24, 3, 25, 26, 27, 28, 29, 30, 31, 32, 33, 34, 90, 91, 92, 93, 94, 95, 96, 97, 98, 99, 100, 101, 102, 103, 104, 105, 106, 107, 108, 109, 110, 111, 112, 113, 114, 115, 116, 117, 118, 119, 120] (by decide +kernel) (by decide +kernel)
set_option maxRecDepth 20000 in
theorem gX2_paidWithout_X2_forgets : GoodIn wsX2_paidWithout (wsV RX2 238 RX2 yX2_forgets wsX2_forgets) := goodIn_app (goodIn_of _ (by decide +kernel)) ggX2_paidWithout_X2_forgets
theorem dX2_paidWithout_0 : decode cX2_paidWithout 0 = .ok (.aload_n 0, 1) := by decide +kernel
theorem dX2_paidWithout_1 : decode cX2_paidWithout 1 = .ok (.invokevirtual 235, 3) := by decide +kernel
theorem dX2_paidWithout_4 : decode cX2_paidWithout 4 = .ok (.aload_n 0, 1) := by decide +kernel
theorem dX2_paidWithout_5 : decode cX2_paidWithout 5 = .ok (.getfield 37, 3) := by decide +kernel
theorem dX2_paidWithout_8 : decode cX2_paidWithout 8 = .ok (.iload_n 1, 1) := by decide +kernel
theorem dX2_paidWithout_9 : decode cX2_paidWithout 9 = .ok (.iconst 0, 1) := by decide +kernel
theorem dX2_paidWithout_10 : decode cX2_paidWithout 10 = .ok (.iastore, 1) := by decide +kernel
theorem dX2_paidWithout_11 : decode cX2_paidWithout 11 = .ok (.iconst 0, 1) := by decide +kernel
theorem dX2_paidWithout_12 : decode cX2_paidWithout 12 = .ok (.istore_n 2, 1) := by decide +kernel
theorem dX2_paidWithout_13 : decode cX2_paidWithout 13 = .ok (.iload_n 2, 1) := by decide +kernel
theorem dX2_paidWithout_14 : decode cX2_paidWithout 14 = .ok (.bipush 6, 2) := by decide +kernel
theorem dX2_paidWithout_16 : decode cX2_paidWithout 16 = .ok (.if_icmp .ge 16, 3) := by decide +kernel
theorem dX2_paidWithout_19 : decode cX2_paidWithout 19 = .ok (.aload_n 0, 1) := by decide +kernel
theorem dX2_paidWithout_20 : decode cX2_paidWithout 20 = .ok (.getfield 58, 3) := by decide +kernel
theorem dX2_paidWithout_23 : decode cX2_paidWithout 23 = .ok (.iload_n 2, 1) := by decide +kernel
theorem dX2_paidWithout_24 : decode cX2_paidWithout 24 = .ok (.iconst 0, 1) := by decide +kernel
theorem dX2_paidWithout_25 : decode cX2_paidWithout 25 = .ok (.iastore, 1) := by decide +kernel
theorem dX2_paidWithout_26 : decode cX2_paidWithout 26 = .ok (.iinc 2 1, 3) := by decide +kernel
theorem dX2_paidWithout_29 : decode cX2_paidWithout 29 = .ok (.goto (-16), 3) := by decide +kernel
theorem dX2_paidWithout_32 : decode cX2_paidWithout 32 = .ok (.aload_n 0, 1) := by decide +kernel
theorem dX2_paidWithout_33 : decode cX2_paidWithout 33 = .ok (.iconst 0, 1) := by decide +kernel
theorem dX2_paidWithout_34 : decode cX2_paidWithout 34 = .ok (.invokevirtual 213, 3) := by decide +kernel
theorem dX2_paidWithout_37 : decode cX2_paidWithout 37 = .ok (.aload_n 0, 1) := by decide +kernel
theorem dX2_paidWithout_38 : decode cX2_paidWithout 38 = .ok (.aload_n 0, 1) := by decide +kernel
theorem dX2_paidWithout_39 : decode cX2_paidWithout 39 = .ok (.getfield 58, 3) := by decide +kernel
theorem dX2_paidWithout_42 : decode cX2_paidWithout 42 = .ok (.aload_n 0, 1) := by decide +kernel
theorem dX2_paidWithout_43 : decode cX2_paidWithout 43 = .ok (.getfield 73, 3) := by decide +kernel
theorem dX2_paidWithout_46 : decode cX2_paidWithout 46 = .ok (.invokevirtual 244, 3) := by decide +kernel
theorem dX2_paidWithout_49 : decode cX2_paidWithout 49 = .ok (.aload_n 0, 1) := by decide +kernel
theorem dX2_paidWithout_50 : decode cX2_paidWithout 50 = .ok (.getfield 58, 3) := by decide +kernel
theorem dX2_paidWithout_53 : decode cX2_paidWithout 53 = .ok (.iload_n 1, 1) := by decide +kernel
theorem dX2_paidWithout_54 : decode cX2_paidWithout 54 = .ok (.iaload, 1) := by decide +kernel
theorem dX2_paidWithout_55 : decode cX2_paidWithout 55 = .ok (.isub, 1) := by decide +kernel
theorem dX2_paidWithout_56 : decode cX2_paidWithout 56 = .ok (.istore_n 2, 1) := by decide +kernel
theorem dX2_paidWithout_57 : decode cX2_paidWithout 57 = .ok (.aload_n 0, 1) := by decide +kernel
theorem dX2_paidWithout_58 : decode cX2_paidWithout 58 = .ok (.invokevirtual 238, 3) := by decide +kernel
theorem dX2_paidWithout_61 : decode cX2_paidWithout 61 = .ok (.iload_n 2, 1) := by decide +kernel
theorem dX2_paidWithout_62 : decode cX2_paidWithout 62 = .ok (.ireturn, 1) := by decide +kernel
set_option maxRecDepth 20000 in
theorem ggX2_stay_X2_isIn : GoodIn wsX2_stay wsX2_isIn := goodIn_r _ [5] (by decide +kernel) (by decide +kernel)
set_option maxRecDepth 20000 in
theorem gX2_stay_X2_isIn : GoodIn wsX2_stay (va_wsS RX2 94 yX2_isIn wsX2_isIn) := goodIn_app (goodIn_of _ (by decide +kernel)) ggX2_stay_X2_isIn
set_option maxRecDepth 20000 in
theorem ggX2_stay_X2_no : GoodIn wsX2_stay wsX2_no := goodIn_r _ [9, 10, 102, 103, 104, 105, 106, 107, 108, 109, 110, 111, 112, 113, 114, 115, 116, 117, 118, 119, 120, 121, 122, 123, 124, 125, 126, 127, 128, 129, 130, 131, 132] (by decide +kernel) (by decide +kernel)
set_option maxRecDepth 20000 in
theorem gX2_stay_X2_no : GoodIn wsX2_stay (wsV RX2 83 RX2 yX2_no wsX2_no) := goodIn_app (goodIn_of _ (by decide +kernel)) ggX2_stay_X2_no
set_option maxRecDepth 20000 in
theorem ggX2_stay_X2_paidWithout : GoodIn wsX2_stay wsX2_paidWithout := goodIn_r _ [14, 15, 16, 1, 17, 18, 19, 4, 20, 21, 22, 23, 24, 25, 26, 27, 28, 29, 30, 31, 32, 33, 34, 35, 36, 37, 38, 39, 40, 41, 42, 43, 44, 45, 46, 47, 48, 49, 50, 51, 52, 53, 54, 55, 56, 57, 58, 59, 60, 61, 62, 63, 64, 65, 66, 67, 68, 69, 70, 71, 72, 73, 74, 75, 76, 77, 78, 79, 80, 81, 82, 83, 84, 85, 86, 87, 88, 89, 90, 91, 92, 93, 94, 95, 96, 97, 98, 99, 100, 101, 102, 103, 104, 105, 106, 107, 108, 109, 110, 111, 112, 113, 114, 115, 116, 117, 118, 119, 120, 121, 122, 123, 124, 125, 126, 127, 128, 129, 130, 131, 132] (by decide +kernel) (by decide +kernel)
set_option maxRecDepth 20000 in
theorem gX2_stay_X2_paidWithout : GoodIn wsX2_stay (wsV RX2 263 RX2 yX2_paidWithout wsX2_paidWithout) := goodIn_app (goodIn_of _ (by decide +kernel)) ggX2_stay_X2_paidWithout
theorem dX2_stay_0 : decode cX2_stay 0 = .ok (.iload_n 1, 1) := by decide +kernel
theorem dX2_stay_1 : decode cX2_stay 1 = .ok (.iconst 0, 1) := by decide +kernel
theorem dX2_stay_2 : decode cX2_stay 2 = .ok (.iconst 1, 1) := by decide +kernel
theorem dX2_stay_3 : decode cX2_stay 3 = .ok (.invokestatic 94, 3) := by decide +kernel
theorem dX2_stay_6 : decode cX2_stay 6 = .ok (.ifCond .ne 10, 3) := by decide +kernel
theorem dX2_stay_9 : decode cX2_stay 9 = .ok (.aload_n 0, 1) := by decide +kernel
theorem dX2_stay_10 : decode cX2_stay 10 = .ok (.bipush (-2), 2) := by decide +kernel
theorem dX2_stay_12 : decode cX2_stay 12 = .ok (.invokevirtual 83, 3) := by decide +kernel
theorem dX2_stay_15 : decode cX2_stay 15 = .ok (.ireturn, 1) := by decide +kernel
theorem dX2_stay_16 : decode cX2_stay 16 = .ok (.bipush (-9), 2) := by decide +kernel
theorem dX2_stay_18 : decode cX2_stay 18 = .ok (.istore_n 2, 1) := by decide +kernel
theorem dX2_stay_19 : decode cX2_stay 19 = .ok (.bipush (-9), 2) := by decide +kernel
theorem dX2_stay_21 : decode cX2_stay 21 = .ok (.istore_n 3, 1) := by decide +kernel
theorem dX2_stay_22 : decode cX2_stay 22 = .ok (.iconst 0, 1) := by decide +kernel
theorem dX2_stay_23 : decode cX2_stay 23 = .ok (.istore 4, 2) := by decide +kernel
theorem dX2_stay_25 : decode cX2_stay 25 = .ok (.iload 4, 2) := by decide +kernel
theorem dX2_stay_27 : decode cX2_stay 27 = .ok (.aload_n 0, 1) := by decide +kernel
theorem dX2_stay_28 : decode cX2_stay 28 = .ok (.getfield 73, 3) := by decide +kernel
theorem dX2_stay_31 : decode cX2_stay 31 = .ok (.if_icmp .ge 36, 3) := by decide +kernel
theorem dX2_stay_34 : decode cX2_stay 34 = .ok (.aload_n 0, 1) := by decide +kernel
theorem dX2_stay_35 : decode cX2_stay 35 = .ok (.iload 4, 2) := by decide +kernel
theorem dX2_stay_37 : decode cX2_stay 37 = .ok (.invokevirtual 263, 3) := by decide +kernel
theorem dX2_stay_40 : decode cX2_stay 40 = .ok (.istore 5, 2) := by decide +kernel
theorem dX2_stay_42 : decode cX2_stay 42 = .ok (.iload_n 2, 1) := by decide +kernel
theorem dX2_stay_43 : decode cX2_stay 43 = .ok (.ifCond .lt 12, 3) := by decide +kernel
theorem dX2_stay_46 : decode cX2_stay 46 = .ok (.iload 5, 2) := by decide +kernel
theorem dX2_stay_48 : decode cX2_stay 48 = .ok (.iload_n 3, 1) := by decide +kernel
theorem dX2_stay_49 : decode cX2_stay 49 = .ok (.if_icmp .lt 6, 3) := by decide +kernel
theorem dX2_stay_52 : decode cX2_stay 52 = .ok (.goto 9, 3) := by decide +kernel
theorem dX2_stay_55 : decode cX2_stay 55 = .ok (.iload 4, 2) := by decide +kernel
theorem dX2_stay_57 : decode cX2_stay 57 = .ok (.istore_n 2, 1) := by decide +kernel
theorem dX2_stay_58 : decode cX2_stay 58 = .ok (.iload 5, 2) := by decide +kernel
theorem dX2_stay_60 : decode cX2_stay 60 = .ok (.istore_n 3, 1) := by decide +kernel
theorem dX2_stay_61 : decode cX2_stay 61 = .ok (.iinc 4 1, 3) := by decide +kernel
theorem dX2_stay_64 : decode cX2_stay 64 = .ok (.goto (-39), 3) := by decide +kernel
theorem dX2_stay_67 : decode cX2_stay 67 = .ok (.iload_n 1, 1) := by decide +kernel
theorem dX2_stay_68 : decode cX2_stay 68 = .ok (.ifCond .ne 7, 3) := by decide +kernel
theorem dX2_stay_71 : decode cX2_stay 71 = .ok (.iload_n 2, 1) := by decide +kernel
theorem dX2_stay_72 : decode cX2_stay 72 = .ok (.goto 4, 3) := by decide +kernel
theorem dX2_stay_75 : decode cX2_stay 75 = .ok (.iload_n 3, 1) := by decide +kernel
theorem dX2_stay_76 : decode cX2_stay 76 = .ok (.ireturn, 1) := by decide +kernel
theorem dX2_mostOf_0 : decode cX2_mostOf 0 = .ok (.bipush (-9), 2) := by decide +kernel
theorem dX2_mostOf_2 : decode cX2_mostOf 2 = .ok (.istore_n 2, 1) := by decide +kernel
theorem dX2_mostOf_3 : decode cX2_mostOf 3 = .ok (.iconst 0, 1) := by decide +kernel
theorem dX2_mostOf_4 : decode cX2_mostOf 4 = .ok (.istore_n 3, 1) := by decide +kernel
theorem dX2_mostOf_5 : decode cX2_mostOf 5 = .ok (.iload_n 3, 1) := by decide +kernel
theorem dX2_mostOf_6 : decode cX2_mostOf 6 = .ok (.aload_n 0, 1) := by decide +kernel
theorem dX2_mostOf_7 : decode cX2_mostOf 7 = .ok (.getfield 73, 3) := by decide +kernel
theorem dX2_mostOf_10 : decode cX2_mostOf 10 = .ok (.if_icmp .ge 28, 3) := by decide +kernel
theorem dX2_mostOf_13 : decode cX2_mostOf 13 = .ok (.iload_n 2, 1) := by decide +kernel
theorem dX2_mostOf_14 : decode cX2_mostOf 14 = .ok (.ifCond .lt 12, 3) := by decide +kernel
theorem dX2_mostOf_17 : decode cX2_mostOf 17 = .ok (.aload_n 1, 1) := by decide +kernel
theorem dX2_mostOf_18 : decode cX2_mostOf 18 = .ok (.iload_n 3, 1) := by decide +kernel
theorem dX2_mostOf_19 : decode cX2_mostOf 19 = .ok (.iaload, 1) := by decide +kernel
theorem dX2_mostOf_20 : decode cX2_mostOf 20 = .ok (.aload_n 1, 1) := by decide +kernel
theorem dX2_mostOf_21 : decode cX2_mostOf 21 = .ok (.iload_n 2, 1) := by decide +kernel
theorem dX2_mostOf_22 : decode cX2_mostOf 22 = .ok (.iaload, 1) := by decide +kernel
theorem dX2_mostOf_23 : decode cX2_mostOf 23 = .ok (.if_icmp .le 7, 3) := by decide +kernel
theorem dX2_mostOf_26 : decode cX2_mostOf 26 = .ok (.iload_n 3, 1) := by decide +kernel
theorem dX2_mostOf_27 : decode cX2_mostOf 27 = .ok (.goto 4, 3) := by decide +kernel
theorem dX2_mostOf_30 : decode cX2_mostOf 30 = .ok (.iload_n 2, 1) := by decide +kernel
theorem dX2_mostOf_31 : decode cX2_mostOf 31 = .ok (.istore_n 2, 1) := by decide +kernel
theorem dX2_mostOf_32 : decode cX2_mostOf 32 = .ok (.iinc 3 1, 3) := by decide +kernel
theorem dX2_mostOf_35 : decode cX2_mostOf 35 = .ok (.goto (-30), 3) := by decide +kernel
theorem dX2_mostOf_38 : decode cX2_mostOf 38 = .ok (.iload_n 2, 1) := by decide +kernel
theorem dX2_mostOf_39 : decode cX2_mostOf 39 = .ok (.ireturn, 1) := by decide +kernel
set_option maxRecDepth 20000 in
theorem ggX2_dearest_X2_worth : GoodIn wsX2_dearest wsX2_worth := goodIn_r _ [6, 7, 8, 9, 10, 11, 12, 13, 14, 15, 16, 17, 18, 19, 20, 21, 22, 23, 24, 25, 26, 27, 28, 29, 30, 31, 32, 33, 34, 35, 36, 37, 38, 39, 40] (by decide +kernel) (by decide +kernel)
set_option maxRecDepth 20000 in
theorem gX2_dearest_X2_worth : GoodIn wsX2_dearest (wsV RX2 179 RX2 yX2_worth wsX2_worth) := goodIn_app (goodIn_of _ (by decide +kernel)) ggX2_dearest_X2_worth
theorem dX2_dearest_0 : decode cX2_dearest 0 = .ok (.bipush (-9), 2) := by decide +kernel
theorem dX2_dearest_2 : decode cX2_dearest 2 = .ok (.istore_n 1, 1) := by decide +kernel
theorem dX2_dearest_3 : decode cX2_dearest 3 = .ok (.iconst 0, 1) := by decide +kernel
theorem dX2_dearest_4 : decode cX2_dearest 4 = .ok (.istore_n 2, 1) := by decide +kernel
theorem dX2_dearest_5 : decode cX2_dearest 5 = .ok (.iload_n 2, 1) := by decide +kernel
theorem dX2_dearest_6 : decode cX2_dearest 6 = .ok (.aload_n 0, 1) := by decide +kernel
theorem dX2_dearest_7 : decode cX2_dearest 7 = .ok (.getfield 67, 3) := by decide +kernel
theorem dX2_dearest_10 : decode cX2_dearest 10 = .ok (.if_icmp .ge 32, 3) := by decide +kernel
theorem dX2_dearest_13 : decode cX2_dearest 13 = .ok (.iload_n 1, 1) := by decide +kernel
theorem dX2_dearest_14 : decode cX2_dearest 14 = .ok (.ifCond .lt 16, 3) := by decide +kernel
theorem dX2_dearest_17 : decode cX2_dearest 17 = .ok (.aload_n 0, 1) := by decide +kernel
theorem dX2_dearest_18 : decode cX2_dearest 18 = .ok (.iload_n 2, 1) := by decide +kernel
theorem dX2_dearest_19 : decode cX2_dearest 19 = .ok (.invokevirtual 179, 3) := by decide +kernel
theorem dX2_dearest_22 : decode cX2_dearest 22 = .ok (.aload_n 0, 1) := by decide +kernel
theorem dX2_dearest_23 : decode cX2_dearest 23 = .ok (.iload_n 1, 1) := by decide +kernel
theorem dX2_dearest_24 : decode cX2_dearest 24 = .ok (.invokevirtual 179, 3) := by decide +kernel
theorem dX2_dearest_27 : decode cX2_dearest 27 = .ok (.if_icmp .le 7, 3) := by decide +kernel
theorem dX2_dearest_30 : decode cX2_dearest 30 = .ok (.iload_n 2, 1) := by decide +kernel
theorem dX2_dearest_31 : decode cX2_dearest 31 = .ok (.goto 4, 3) := by decide +kernel
theorem dX2_dearest_34 : decode cX2_dearest 34 = .ok (.iload_n 1, 1) := by decide +kernel
theorem dX2_dearest_35 : decode cX2_dearest 35 = .ok (.istore_n 1, 1) := by decide +kernel
theorem dX2_dearest_36 : decode cX2_dearest 36 = .ok (.iinc 2 1, 3) := by decide +kernel
theorem dX2_dearest_39 : decode cX2_dearest 39 = .ok (.goto (-34), 3) := by decide +kernel
theorem dX2_dearest_42 : decode cX2_dearest 42 = .ok (.iload_n 1, 1) := by decide +kernel
theorem dX2_dearest_43 : decode cX2_dearest 43 = .ok (.ireturn, 1) := by decide +kernel
set_option maxRecDepth 20000 in
theorem ggX2_richest_X2_isIn : GoodIn wsX2_richest wsX2_isIn := goodIn_r _ [6] (by decide +kernel) (by decide +kernel)
set_option maxRecDepth 20000 in
theorem gX2_richest_X2_isIn : GoodIn wsX2_richest (va_wsS RX2 94 yX2_isIn wsX2_isIn) := goodIn_app (goodIn_of _ (by decide +kernel)) ggX2_richest_X2_isIn
set_option maxRecDepth 20000 in
theorem ggX2_richest_X2_no : GoodIn wsX2_richest wsX2_no := goodIn_r _ [10, 11, 29, 30, 31, 32, 33, 34, 35, 36, 37, 38, 39, 40, 41, 42, 43, 44, 45, 46, 47, 48, 49, 50, 51, 52, 53, 54, 55, 56, 57, 58, 59] (by decide +kernel) (by decide +kernel)
set_option maxRecDepth 20000 in
theorem gX2_richest_X2_no : GoodIn wsX2_richest (wsV RX2 83 RX2 yX2_no wsX2_no) := goodIn_app (goodIn_of _ (by decide +kernel)) ggX2_richest_X2_no
set_option maxRecDepth 20000 in
theorem ggX2_richest_X2_mostOf : GoodIn wsX2_richest wsX2_mostOf := goodIn_r _ [15, 16, 29, 30, 31, 32, 33, 34, 35, 36, 37, 38, 39, 40, 41, 42, 43, 44, 45, 46, 47, 48, 49, 50, 51, 52, 53, 54, 55, 56, 57, 58, 59] (by decide +kernel) (by decide +kernel)
set_option maxRecDepth 20000 in
theorem gX2_richest_X2_mostOf : GoodIn wsX2_richest (wsV RX2 266 RX2 yX2_mostOf wsX2_mostOf) := goodIn_app (goodIn_of _ (by decide +kernel)) ggX2_richest_X2_mostOf
set_option maxRecDepth 20000 in
theorem ggX2_richest_X2_dearest : GoodIn wsX2_richest wsX2_dearest := goodIn_r _ [20, 21, 22, 23, 24, 5, 25, 26, 27, 28, 29, 30, 31, 32, 33, 34, 35, 36, 37, 38, 39, 40, 41, 42, 43, 44, 45, 46, 47, 48, 49, 50, 51, 52, 53, 54, 55, 56, 57, 58, 59] (by decide +kernel) (by decide +kernel)
set_option maxRecDepth 20000 in
theorem gX2_richest_X2_dearest : GoodIn wsX2_richest (wsV RX2 270 RX2 yX2_dearest wsX2_dearest) := goodIn_app (goodIn_of _ (by decide +kernel)) ggX2_richest_X2_dearest
theorem dX2_richest_0 : decode cX2_richest 0 = .ok (.iload_n 1, 1) := by decide +kernel
theorem dX2_richest_1 : decode cX2_richest 1 = .ok (.iconst 0, 1) := by decide +kernel
theorem dX2_richest_2 : decode cX2_richest 2 = .ok (.iconst 2, 1) := by decide +kernel
theorem dX2_richest_3 : decode cX2_richest 3 = .ok (.invokestatic 94, 3) := by decide +kernel
theorem dX2_richest_6 : decode cX2_richest 6 = .ok (.ifCond .ne 10, 3) := by decide +kernel
theorem dX2_richest_9 : decode cX2_richest 9 = .ok (.aload_n 0, 1) := by decide +kernel
theorem dX2_richest_10 : decode cX2_richest 10 = .ok (.bipush (-2), 2) := by decide +kernel
theorem dX2_richest_12 : decode cX2_richest 12 = .ok (.invokevirtual 83, 3) := by decide +kernel
theorem dX2_richest_15 : decode cX2_richest 15 = .ok (.ireturn, 1) := by decide +kernel
theorem dX2_richest_16 : decode cX2_richest 16 = .ok (.iload_n 1, 1) := by decide +kernel
theorem dX2_richest_17 : decode cX2_richest 17 = .ok (.ifCond .ne 14, 3) := by decide +kernel
theorem dX2_richest_20 : decode cX2_richest 20 = .ok (.aload_n 0, 1) := by decide +kernel
theorem dX2_richest_21 : decode cX2_richest 21 = .ok (.aload_n 0, 1) := by decide +kernel
theorem dX2_richest_22 : decode cX2_richest 22 = .ok (.getfield 37, 3) := by decide +kernel
theorem dX2_richest_25 : decode cX2_richest 25 = .ok (.invokevirtual 266, 3) := by decide +kernel
theorem dX2_richest_28 : decode cX2_richest 28 = .ok (.goto 23, 3) := by decide +kernel
theorem dX2_richest_31 : decode cX2_richest 31 = .ok (.iload_n 1, 1) := by decide +kernel
theorem dX2_richest_32 : decode cX2_richest 32 = .ok (.iconst 1, 1) := by decide +kernel
theorem dX2_richest_33 : decode cX2_richest 33 = .ok (.if_icmp .ne 14, 3) := by decide +kernel
theorem dX2_richest_36 : decode cX2_richest 36 = .ok (.aload_n 0, 1) := by decide +kernel
theorem dX2_richest_37 : decode cX2_richest 37 = .ok (.aload_n 0, 1) := by decide +kernel
theorem dX2_richest_38 : decode cX2_richest 38 = .ok (.getfield 40, 3) := by decide +kernel
theorem dX2_richest_41 : decode cX2_richest 41 = .ok (.invokevirtual 266, 3) := by decide +kernel
theorem dX2_richest_44 : decode cX2_richest 44 = .ok (.goto 7, 3) := by decide +kernel
theorem dX2_richest_47 : decode cX2_richest 47 = .ok (.aload_n 0, 1) := by decide +kernel
theorem dX2_richest_48 : decode cX2_richest 48 = .ok (.invokevirtual 270, 3) := by decide +kernel
theorem dX2_richest_51 : decode cX2_richest 51 = .ok (.ireturn, 1) := by decide +kernel
theorem dX2_ownCards_0 : decode cX2_ownCards 0 = .ok (.iconst 0, 1) := by decide +kernel
theorem dX2_ownCards_1 : decode cX2_ownCards 1 = .ok (.istore_n 2, 1) := by decide +kernel
theorem dX2_ownCards_2 : decode cX2_ownCards 2 = .ok (.iconst 0, 1) := by decide +kernel
theorem dX2_ownCards_3 : decode cX2_ownCards 3 = .ok (.istore_n 3, 1) := by decide +kernel
theorem dX2_ownCards_4 : decode cX2_ownCards 4 = .ok (.iload_n 3, 1) := by decide +kernel
theorem dX2_ownCards_5 : decode cX2_ownCards 5 = .ok (.aload_n 0, 1) := by decide +kernel
theorem dX2_ownCards_6 : decode cX2_ownCards 6 = .ok (.getfield 67, 3) := by decide +kernel
theorem dX2_ownCards_9 : decode cX2_ownCards 9 = .ok (.if_icmp .ge 54, 3) := by decide +kernel
theorem dX2_ownCards_12 : decode cX2_ownCards 12 = .ok (.iload_n 2, 1) := by decide +kernel
theorem dX2_ownCards_13 : decode cX2_ownCards 13 = .ok (.aload_n 0, 1) := by decide +kernel
theorem dX2_ownCards_14 : decode cX2_ownCards 14 = .ok (.getfield 25, 3) := by decide +kernel
theorem dX2_ownCards_17 : decode cX2_ownCards 17 = .ok (.iload_n 3, 1) := by decide +kernel
theorem dX2_ownCards_18 : decode cX2_ownCards 18 = .ok (.iaload, 1) := by decide +kernel
theorem dX2_ownCards_19 : decode cX2_ownCards 19 = .ok (.ifCond .eq 35, 3) := by decide +kernel
theorem dX2_ownCards_22 : decode cX2_ownCards 22 = .ok (.aload_n 0, 1) := by decide +kernel
theorem dX2_ownCards_23 : decode cX2_ownCards 23 = .ok (.getfield 25, 3) := by decide +kernel
theorem dX2_ownCards_26 : decode cX2_ownCards 26 = .ok (.iload_n 3, 1) := by decide +kernel
theorem dX2_ownCards_27 : decode cX2_ownCards 27 = .ok (.iaload, 1) := by decide +kernel
theorem dX2_ownCards_28 : decode cX2_ownCards 28 = .ok (.aload_n 0, 1) := by decide +kernel
theorem dX2_ownCards_29 : decode cX2_ownCards 29 = .ok (.getfield 19, 3) := by decide +kernel
theorem dX2_ownCards_32 : decode cX2_ownCards 32 = .ok (.iload_n 3, 1) := by decide +kernel
theorem dX2_ownCards_33 : decode cX2_ownCards 33 = .ok (.iaload, 1) := by decide +kernel
theorem dX2_ownCards_34 : decode cX2_ownCards 34 = .ok (.iconst 1, 1) := by decide +kernel
theorem dX2_ownCards_35 : decode cX2_ownCards 35 = .ok (.iadd, 1) := by decide +kernel
theorem dX2_ownCards_36 : decode cX2_ownCards 36 = .ok (.if_icmp .ne 7, 3) := by decide +kernel
theorem dX2_ownCards_39 : decode cX2_ownCards 39 = .ok (.iconst 1, 1) := by decide +kernel
theorem dX2_ownCards_40 : decode cX2_ownCards 40 = .ok (.goto 4, 3) := by decide +kernel
theorem dX2_ownCards_43 : decode cX2_ownCards 43 = .ok (.iconst 0, 1) := by decide +kernel
theorem dX2_ownCards_44 : decode cX2_ownCards 44 = .ok (.iload_n 1, 1) := by decide +kernel
theorem dX2_ownCards_45 : decode cX2_ownCards 45 = .ok (.if_icmp .ne 9, 3) := by decide +kernel
theorem dX2_ownCards_48 : decode cX2_ownCards 48 = .ok (.iconst 1, 1) := by decide +kernel
theorem dX2_ownCards_49 : decode cX2_ownCards 49 = .ok (.iload_n 3, 1) := by decide +kernel
theorem dX2_ownCards_50 : decode cX2_ownCards 50 = .ok (.ishl, 1) := by decide +kernel
theorem dX2_ownCards_51 : decode cX2_ownCards 51 = .ok (.goto 4, 3) := by decide +kernel
theorem dX2_ownCards_54 : decode cX2_ownCards 54 = .ok (.iconst 0, 1) := by decide +kernel
theorem dX2_ownCards_55 : decode cX2_ownCards 55 = .ok (.ior, 1) := by decide +kernel
theorem dX2_ownCards_56 : decode cX2_ownCards 56 = .ok (.istore_n 2, 1) := by decide +kernel
theorem dX2_ownCards_57 : decode cX2_ownCards 57 = .ok (.iinc 3 1, 3) := by decide +kernel
theorem dX2_ownCards_60 : decode cX2_ownCards 60 = .ok (.goto (-56), 3) := by decide +kernel
theorem dX2_ownCards_63 : decode cX2_ownCards 63 = .ok (.iload_n 2, 1) := by decide +kernel
theorem dX2_ownCards_64 : decode cX2_ownCards 64 = .ok (.ireturn, 1) := by decide +kernel
theorem dX2_cleanOnes_0 : decode cX2_cleanOnes 0 = .ok (.iconst 1, 1) := by decide +kernel
theorem dX2_cleanOnes_1 : decode cX2_cleanOnes 1 = .ok (.aload_n 0, 1) := by decide +kernel
theorem dX2_cleanOnes_2 : decode cX2_cleanOnes 2 = .ok (.getfield 73, 3) := by decide +kernel
theorem dX2_cleanOnes_5 : decode cX2_cleanOnes 5 = .ok (.ishl, 1) := by decide +kernel
theorem dX2_cleanOnes_6 : decode cX2_cleanOnes 6 = .ok (.iconst 1, 1) := by decide +kernel
theorem dX2_cleanOnes_7 : decode cX2_cleanOnes 7 = .ok (.isub, 1) := by decide +kernel
theorem dX2_cleanOnes_8 : decode cX2_cleanOnes 8 = .ok (.istore_n 1, 1) := by decide +kernel
theorem dX2_cleanOnes_9 : decode cX2_cleanOnes 9 = .ok (.iconst 0, 1) := by decide +kernel
theorem dX2_cleanOnes_10 : decode cX2_cleanOnes 10 = .ok (.istore_n 2, 1) := by decide +kernel
theorem dX2_cleanOnes_11 : decode cX2_cleanOnes 11 = .ok (.iload_n 2, 1) := by decide +kernel
theorem dX2_cleanOnes_12 : decode cX2_cleanOnes 12 = .ok (.aload_n 0, 1) := by decide +kernel
theorem dX2_cleanOnes_13 : decode cX2_cleanOnes 13 = .ok (.getfield 67, 3) := by decide +kernel
theorem dX2_cleanOnes_16 : decode cX2_cleanOnes 16 = .ok (.if_icmp .ge 22, 3) := by decide +kernel
theorem dX2_cleanOnes_19 : decode cX2_cleanOnes 19 = .ok (.iload_n 1, 1) := by decide +kernel
theorem dX2_cleanOnes_20 : decode cX2_cleanOnes 20 = .ok (.iconst 1, 1) := by decide +kernel
theorem dX2_cleanOnes_21 : decode cX2_cleanOnes 21 = .ok (.aload_n 0, 1) := by decide +kernel
theorem dX2_cleanOnes_22 : decode cX2_cleanOnes 22 = .ok (.getfield 19, 3) := by decide +kernel
theorem dX2_cleanOnes_25 : decode cX2_cleanOnes 25 = .ok (.iload_n 2, 1) := by decide +kernel
theorem dX2_cleanOnes_26 : decode cX2_cleanOnes 26 = .ok (.iaload, 1) := by decide +kernel
theorem dX2_cleanOnes_27 : decode cX2_cleanOnes 27 = .ok (.ishl, 1) := by decide +kernel
theorem dX2_cleanOnes_28 : decode cX2_cleanOnes 28 = .ok (.iconst (-1), 1) := by decide +kernel
theorem dX2_cleanOnes_29 : decode cX2_cleanOnes 29 = .ok (.ixor, 1) := by decide +kernel
theorem dX2_cleanOnes_30 : decode cX2_cleanOnes 30 = .ok (.iand, 1) := by decide +kernel
theorem dX2_cleanOnes_31 : decode cX2_cleanOnes 31 = .ok (.istore_n 1, 1) := by decide +kernel
theorem dX2_cleanOnes_32 : decode cX2_cleanOnes 32 = .ok (.iinc 2 1, 3) := by decide +kernel
theorem dX2_cleanOnes_35 : decode cX2_cleanOnes 35 = .ok (.goto (-24), 3) := by decide +kernel
theorem dX2_cleanOnes_38 : decode cX2_cleanOnes 38 = .ok (.iload_n 1, 1) := by decide +kernel
theorem dX2_cleanOnes_39 : decode cX2_cleanOnes 39 = .ok (.ireturn, 1) := by decide +kernel
set_option maxRecDepth 20000 in
theorem ggX2_owned_X2_ownCards : GoodIn wsX2_owned wsX2_ownCards := goodIn_r _ [7, 8, 9, 10, 24, 25, 26, 27, 28, 29, 30, 31, 32, 33, 34, 35, 36, 37, 38, 39, 40, 41, 42, 43, 44, 45, 46, 47, 48, 49, 50, 51, 52, 53, 54] (by decide +kernel) (by decide +kernel)
set_option maxRecDepth 20000 in
theorem gX2_owned_X2_ownCards : GoodIn wsX2_owned (wsV RX2 273 RX2 yX2_ownCards wsX2_ownCards) := goodIn_app (goodIn_of _ (by decide +kernel)) ggX2_owned_X2_ownCards
set_option maxRecDepth 20000 in
theorem ggX2_owned_X2_cleanOnes : GoodIn wsX2_owned wsX2_cleanOnes := goodIn_r _ [14, 2, 8, 10, 24, 25, 26, 27, 28, 29, 30, 31, 32, 33, 34, 35, 36, 37, 38, 39, 40, 41, 42, 43, 44, 45, 46, 47, 48, 49, 50, 51, 52, 53, 54] (by decide +kernel) (by decide +kernel)
set_option maxRecDepth 20000 in
theorem gX2_owned_X2_cleanOnes : GoodIn wsX2_owned (wsV RX2 277 RX2 yX2_cleanOnes wsX2_cleanOnes) := goodIn_app (goodIn_of _ (by decide +kernel)) ggX2_owned_X2_cleanOnes
set_option maxRecDepth 20000 in
theorem ggX2_owned_X2_allOf : GoodIn wsX2_owned wsX2_allOf := goodIn_r _ [18] (by decide +kernel) (by decide +kernel)
set_option maxRecDepth 20000 in
theorem gX2_owned_X2_allOf : GoodIn wsX2_owned (wsV RX2 244 RX2 yX2_allOf wsX2_allOf) := goodIn_app (goodIn_of _ (by decide +kernel)) ggX2_owned_X2_allOf
set_option maxRecDepth 20000 in
theorem ggX2_owned_X2_no : GoodIn wsX2_owned wsX2_no := goodIn_r _ [22, 23, 24, 25, 26, 27, 28, 29, 30, 31, 32, 33, 34, 35, 36, 37, 38, 39, 40, 41, 42, 43, 44, 45, 46, 47, 48, 49, 50, 51, 52, 53, 54] (by decide +kernel) (by decide +kernel)
set_option maxRecDepth 20000 in
theorem gX2_owned_X2_no : GoodIn wsX2_owned (wsV RX2 83 RX2 yX2_no wsX2_no) := goodIn_app (goodIn_of _ (by decide +kernel)) ggX2_owned_X2_no
theorem dX2_owned_0 : decode cX2_owned 0 = .ok (.iload_n 1, 1) := by decide +kernel
theorem dX2_owned_1 : decode cX2_owned 1 = .ok (.tableswitch 63 0 3 #[31, 31, 45, 50], 31) := by decide +kernel
theorem dX2_owned_32 : decode cX2_owned 32 = .ok (.aload_n 0, 1) := by decide +kernel
theorem dX2_owned_33 : decode cX2_owned 33 = .ok (.iload_n 1, 1) := by decide +kernel
theorem dX2_owned_34 : decode cX2_owned 34 = .ok (.ifCond .ne 7, 3) := by decide +kernel
theorem dX2_owned_37 : decode cX2_owned 37 = .ok (.iconst 1, 1) := by decide +kernel
theorem dX2_owned_38 : decode cX2_owned 38 = .ok (.goto 4, 3) := by decide +kernel
theorem dX2_owned_41 : decode cX2_owned 41 = .ok (.iconst 0, 1) := by decide +kernel
theorem dX2_owned_42 : decode cX2_owned 42 = .ok (.invokevirtual 273, 3) := by decide +kernel
theorem dX2_owned_45 : decode cX2_owned 45 = .ok (.ireturn, 1) := by decide +kernel
theorem dX2_owned_46 : decode cX2_owned 46 = .ok (.aload_n 0, 1) := by decide +kernel
theorem dX2_owned_47 : decode cX2_owned 47 = .ok (.invokevirtual 277, 3) := by decide +kernel
theorem dX2_owned_50 : decode cX2_owned 50 = .ok (.ireturn, 1) := by decide +kernel
theorem dX2_owned_51 : decode cX2_owned 51 = .ok (.aload_n 0, 1) := by decide +kernel
theorem dX2_owned_52 : decode cX2_owned 52 = .ok (.aload_n 0, 1) := by decide +kernel
theorem dX2_owned_53 : decode cX2_owned 53 = .ok (.getfield 37, 3) := by decide +kernel
theorem dX2_owned_56 : decode cX2_owned 56 = .ok (.aload_n 0, 1) := by decide +kernel
theorem dX2_owned_57 : decode cX2_owned 57 = .ok (.getfield 73, 3) := by decide +kernel
theorem dX2_owned_60 : decode cX2_owned 60 = .ok (.invokevirtual 244, 3) := by decide +kernel
theorem dX2_owned_63 : decode cX2_owned 63 = .ok (.ireturn, 1) := by decide +kernel
theorem dX2_owned_64 : decode cX2_owned 64 = .ok (.aload_n 0, 1) := by decide +kernel
theorem dX2_owned_65 : decode cX2_owned 65 = .ok (.bipush (-2), 2) := by decide +kernel
theorem dX2_owned_67 : decode cX2_owned 67 = .ok (.invokevirtual 83, 3) := by decide +kernel
theorem dX2_owned_70 : decode cX2_owned 70 = .ok (.ireturn, 1) := by decide +kernel
set_option maxRecDepth 20000 in
theorem ggX2_endFor_X2_worth : GoodIn wsX2_endFor wsX2_worth := goodIn_r _ [6, 7, 8, 9, 43, 44, 45, 46, 47, 48, 49, 50, 51, 52, 53, 54, 55, 56, 57, 58, 59, 60, 61, 62, 63, 64, 65, 66, 67, 68, 69, 70, 71, 72, 73] (by decide +kernel) (by decide +kernel)
set_option maxRecDepth 20000 in
theorem gX2_endFor_X2_worth : GoodIn wsX2_endFor (wsV RX2 179 RX2 yX2_worth wsX2_worth) := goodIn_app (goodIn_of _ (by decide +kernel)) ggX2_endFor_X2_worth
set_option maxRecDepth 20000 in
theorem ggX2_endFor_X2_priceFor : GoodIn wsX2_endFor wsX2_priceFor := goodIn_r _ [13, 14, 15, 16, 17, 5, 18, 19, 20, 21, 22, 23, 24, 25, 26, 27, 28, 29, 30, 31, 1, 32, 33, 2, 3, 4, 6, 7, 8, 9, 34, 35, 36, 37, 38, 39, 40, 41, 42, 43, 44, 45, 46, 47, 48, 49, 50, 51, 52, 53, 54, 55, 56, 57, 58, 59, 60, 61, 62, 63, 64, 65, 66, 67, 68, 69, 70, 71, 72, 73] (by decide +kernel) (by decide +kernel)
set_option maxRecDepth 20000 in
theorem gX2_endFor_X2_priceFor : GoodIn wsX2_endFor (wsV RX2 204 RX2 yX2_priceFor wsX2_priceFor) := goodIn_app (goodIn_of _ (by decide +kernel)) ggX2_endFor_X2_priceFor
theorem dX2_endFor_0 : decode cX2_endFor 0 = .ok (.iload_n 3, 1) := by decide +kernel
theorem dX2_endFor_1 : decode cX2_endFor 1 = .ok (.iload_n 1, 1) := by decide +kernel
theorem dX2_endFor_2 : decode cX2_endFor 2 = .ok (.if_icmp .ne 16, 3) := by decide +kernel
theorem dX2_endFor_5 : decode cX2_endFor 5 = .ok (.aload_n 0, 1) := by decide +kernel
theorem dX2_endFor_6 : decode cX2_endFor 6 = .ok (.iload_n 2, 1) := by decide +kernel
theorem dX2_endFor_7 : decode cX2_endFor 7 = .ok (.invokevirtual 179, 3) := by decide +kernel
theorem dX2_endFor_10 : decode cX2_endFor 10 = .ok (.aload_n 0, 1) := by decide +kernel
theorem dX2_endFor_11 : decode cX2_endFor 11 = .ok (.iload_n 1, 1) := by decide +kernel
theorem dX2_endFor_12 : decode cX2_endFor 12 = .ok (.iload_n 2, 1) := by decide +kernel
theorem dX2_endFor_13 : decode cX2_endFor 13 = .ok (.invokevirtual 204, 3) := by decide +kernel
theorem dX2_endFor_16 : decode cX2_endFor 16 = .ok (.isub, 1) := by decide +kernel
theorem dX2_endFor_17 : decode cX2_endFor 17 = .ok (.ireturn, 1) := by decide +kernel
theorem dX2_endFor_18 : decode cX2_endFor 18 = .ok (.iload_n 3, 1) := by decide +kernel
theorem dX2_endFor_19 : decode cX2_endFor 19 = .ok (.ifCond .lt 18, 3) := by decide +kernel
theorem dX2_endFor_22 : decode cX2_endFor 22 = .ok (.aload_n 0, 1) := by decide +kernel
theorem dX2_endFor_23 : decode cX2_endFor 23 = .ok (.getfield 19, 3) := by decide +kernel
theorem dX2_endFor_26 : decode cX2_endFor 26 = .ok (.iload_n 2, 1) := by decide +kernel
theorem dX2_endFor_27 : decode cX2_endFor 27 = .ok (.iaload, 1) := by decide +kernel
theorem dX2_endFor_28 : decode cX2_endFor 28 = .ok (.iload_n 1, 1) := by decide +kernel
theorem dX2_endFor_29 : decode cX2_endFor 29 = .ok (.if_icmp .ne 8, 3) := by decide +kernel
theorem dX2_endFor_32 : decode cX2_endFor 32 = .ok (.bipush (-3), 2) := by decide +kernel
theorem dX2_endFor_34 : decode cX2_endFor 34 = .ok (.goto 4, 3) := by decide +kernel
theorem dX2_endFor_37 : decode cX2_endFor 37 = .ok (.iconst 0, 1) := by decide +kernel
theorem dX2_endFor_38 : decode cX2_endFor 38 = .ok (.ireturn, 1) := by decide +kernel
set_option maxRecDepth 20000 in
theorem ggX2_findEnds_X2_getter : GoodIn wsX2_findEnds wsX2_getter := goodIn_r _ [7, 8, 9, 10, 11, 6, 12, 1, 13, 14, 15, 16, 17, 18, 19, 20, 21, 22, 23, 24, 25, 26, 27, 28, 29, 30, 31, 32, 33, 34, 35, 36, 37, 38, 39, 40, 41, 42, 43, 52, 53, 54, 55, 56, 57, 58, 59, 60, 61, 62, 63, 64, 65, 66, 67, 68, 69, 70, 71, 72, 73, 74, 75, 76, 77, 78, 79, 80, 81, 82] (by decide +kernel) (by decide +kernel)
set_option maxRecDepth 20000 in
theorem gX2_findEnds_X2_getter : GoodIn wsX2_findEnds (wsV RX2 201 RX2 yX2_getter wsX2_getter) := goodIn_app (goodIn_of _ (by decide +kernel)) ggX2_findEnds_X2_getter
set_option maxRecDepth 20000 in
theorem ggX2_findEnds_X2_endFor : GoodIn wsX2_findEnds wsX2_endFor := goodIn_r _ [47, 25, 28, 29, 30, 6, 31, 32, 33, 34, 48, 49, 50, 51, 8, 9, 10, 11, 12, 1, 13, 14, 15, 16, 17, 18, 19, 20, 21, 22, 23, 24, 26, 27, 35, 36, 37, 38, 39, 40, 41, 42, 43, 52, 53, 54, 55, 56, 57, 58, 59, 60, 61, 62, 63, 64, 65, 66, 67, 68, 69, 70, 71, 72, 73, 74, 75, 76, 77, 78, 79, 80, 81, 82] (by decide +kernel) (by decide +kernel)
set_option maxRecDepth 20000 in
theorem gX2_findEnds_X2_endFor : GoodIn wsX2_findEnds (wsV RX2 280 RX2 yX2_endFor wsX2_endFor) := goodIn_app (goodIn_of _ (by decide +kernel)) ggX2_findEnds_X2_endFor
theorem dX2_findEnds_0 : decode cX2_findEnds 0 = .ok (.iconst 0, 1) := by decide +kernel
theorem dX2_findEnds_1 : decode cX2_findEnds 1 = .ok (.istore 4, 2) := by decide +kernel
theorem dX2_findEnds_3 : decode cX2_findEnds 3 = .ok (.iload 4, 2) := by decide +kernel
theorem dX2_findEnds_5 : decode cX2_findEnds 5 = .ok (.iconst 4, 1) := by decide +kernel
theorem dX2_findEnds_6 : decode cX2_findEnds 6 = .ok (.if_icmp .ge 73, 3) := by decide +kernel
theorem dX2_findEnds_9 : decode cX2_findEnds 9 = .ok (.aload_n 0, 1) := by decide +kernel
theorem dX2_findEnds_10 : decode cX2_findEnds 10 = .ok (.iconst 1, 1) := by decide +kernel
theorem dX2_findEnds_11 : decode cX2_findEnds 11 = .ok (.iload 4, 2) := by decide +kernel
theorem dX2_findEnds_13 : decode cX2_findEnds 13 = .ok (.iconst 2, 1) := by decide +kernel
theorem dX2_findEnds_14 : decode cX2_findEnds 14 = .ok (.idiv, 1) := by decide +kernel
theorem dX2_findEnds_15 : decode cX2_findEnds 15 = .ok (.isub, 1) := by decide +kernel
theorem dX2_findEnds_16 : decode cX2_findEnds 16 = .ok (.iload_n 1, 1) := by decide +kernel
theorem dX2_findEnds_17 : decode cX2_findEnds 17 = .ok (.ishl, 1) := by decide +kernel
theorem dX2_findEnds_18 : decode cX2_findEnds 18 = .ok (.iconst 1, 1) := by decide +kernel
theorem dX2_findEnds_19 : decode cX2_findEnds 19 = .ok (.iload 4, 2) := by decide +kernel
theorem dX2_findEnds_21 : decode cX2_findEnds 21 = .ok (.iconst 2, 1) := by decide +kernel
theorem dX2_findEnds_22 : decode cX2_findEnds 22 = .ok (.irem, 1) := by decide +kernel
theorem dX2_findEnds_23 : decode cX2_findEnds 23 = .ok (.isub, 1) := by decide +kernel
theorem dX2_findEnds_24 : decode cX2_findEnds 24 = .ok (.iload_n 2, 1) := by decide +kernel
theorem dX2_findEnds_25 : decode cX2_findEnds 25 = .ok (.ishl, 1) := by decide +kernel
theorem dX2_findEnds_26 : decode cX2_findEnds 26 = .ok (.ior, 1) := by decide +kernel
theorem dX2_findEnds_27 : decode cX2_findEnds 27 = .ok (.putfield 189, 3) := by decide +kernel
theorem dX2_findEnds_30 : decode cX2_findEnds 30 = .ok (.aload_n 0, 1) := by decide +kernel
theorem dX2_findEnds_31 : decode cX2_findEnds 31 = .ok (.iload_n 3, 1) := by decide +kernel
theorem dX2_findEnds_32 : decode cX2_findEnds 32 = .ok (.invokevirtual 201, 3) := by decide +kernel
theorem dX2_findEnds_35 : decode cX2_findEnds 35 = .ok (.istore 5, 2) := by decide +kernel
theorem dX2_findEnds_37 : decode cX2_findEnds 37 = .ok (.aload_n 0, 1) := by decide +kernel
theorem dX2_findEnds_38 : decode cX2_findEnds 38 = .ok (.getfield 61, 3) := by decide +kernel
theorem dX2_findEnds_41 : decode cX2_findEnds 41 = .ok (.iconst 2, 1) := by decide +kernel
theorem dX2_findEnds_42 : decode cX2_findEnds 42 = .ok (.iload 4, 2) := by decide +kernel
theorem dX2_findEnds_44 : decode cX2_findEnds 44 = .ok (.imul, 1) := by decide +kernel
theorem dX2_findEnds_45 : decode cX2_findEnds 45 = .ok (.aload_n 0, 1) := by decide +kernel
theorem dX2_findEnds_46 : decode cX2_findEnds 46 = .ok (.iload_n 1, 1) := by decide +kernel
theorem dX2_findEnds_47 : decode cX2_findEnds 47 = .ok (.iload_n 3, 1) := by decide +kernel
theorem dX2_findEnds_48 : decode cX2_findEnds 48 = .ok (.iload 5, 2) := by decide +kernel
theorem dX2_findEnds_50 : decode cX2_findEnds 50 = .ok (.invokevirtual 280, 3) := by decide +kernel
theorem dX2_findEnds_53 : decode cX2_findEnds 53 = .ok (.iastore, 1) := by decide +kernel
theorem dX2_findEnds_54 : decode cX2_findEnds 54 = .ok (.aload_n 0, 1) := by decide +kernel
theorem dX2_findEnds_55 : decode cX2_findEnds 55 = .ok (.getfield 61, 3) := by decide +kernel
theorem dX2_findEnds_58 : decode cX2_findEnds 58 = .ok (.iconst 2, 1) := by decide +kernel
theorem dX2_findEnds_59 : decode cX2_findEnds 59 = .ok (.iload 4, 2) := by decide +kernel
theorem dX2_findEnds_61 : decode cX2_findEnds 61 = .ok (.imul, 1) := by decide +kernel
theorem dX2_findEnds_62 : decode cX2_findEnds 62 = .ok (.iconst 1, 1) := by decide +kernel
theorem dX2_findEnds_63 : decode cX2_findEnds 63 = .ok (.iadd, 1) := by decide +kernel
theorem dX2_findEnds_64 : decode cX2_findEnds 64 = .ok (.aload_n 0, 1) := by decide +kernel
theorem dX2_findEnds_65 : decode cX2_findEnds 65 = .ok (.iload_n 2, 1) := by decide +kernel
theorem dX2_findEnds_66 : decode cX2_findEnds 66 = .ok (.iload_n 3, 1) := by decide +kernel
theorem dX2_findEnds_67 : decode cX2_findEnds 67 = .ok (.iload 5, 2) := by decide +kernel
theorem dX2_findEnds_69 : decode cX2_findEnds 69 = .ok (.invokevirtual 280, 3) := by decide +kernel
theorem dX2_findEnds_72 : decode cX2_findEnds 72 = .ok (.iastore, 1) := by decide +kernel
theorem dX2_findEnds_73 : decode cX2_findEnds 73 = .ok (.iinc 4 1, 3) := by decide +kernel
theorem dX2_findEnds_76 : decode cX2_findEnds 76 = .ok (.goto (-73), 3) := by decide +kernel
theorem dX2_findEnds_79 : decode cX2_findEnds 79 = .ok (.aload_n 0, 1) := by decide +kernel
theorem dX2_findEnds_80 : decode cX2_findEnds 80 = .ok (.iconst 0, 1) := by decide +kernel
theorem dX2_findEnds_81 : decode cX2_findEnds 81 = .ok (.putfield 189, 3) := by decide +kernel
theorem dX2_findEnds_84 : decode cX2_findEnds 84 = .ok (.return_, 1) := by decide +kernel
set_option maxRecDepth 20000 in
theorem ggX2_two_X2_isBidder : GoodIn wsX2_two wsX2_isBidder := goodIn_r _ [7, 8, 67, 68, 69, 70, 71, 72, 73, 74, 75, 76, 77, 78, 79, 80, 81, 82, 83, 84, 85, 86, 87, 88, 89, 90, 91, 92, 93, 94, 95, 96, 97] (by decide +kernel) (by decide +kernel)
set_option maxRecDepth 20000 in
theorem gX2_two_X2_isBidder : GoodIn wsX2_two (wsV RX2 122 RX2 yX2_isBidder wsX2_isBidder) := goodIn_app (goodIn_of _ (by decide +kernel)) ggX2_two_X2_isBidder
set_option maxRecDepth 20000 in
theorem ggX2_two_X2_isCard : GoodIn wsX2_two wsX2_isCard := goodIn_r _ [12, 13, 67, 68, 69, 70, 71, 72, 73, 74, 75, 76, 77, 78, 79, 80, 81, 82, 83, 84, 85, 86, 87, 88, 89, 90, 91, 92, 93, 94, 95, 96, 97] (by decide +kernel) (by decide +kernel)
set_option maxRecDepth 20000 in
theorem gX2_two_X2_isCard : GoodIn wsX2_two (wsV RX2 118 RX2 yX2_isCard wsX2_isCard) := goodIn_app (goodIn_of _ (by decide +kernel)) ggX2_two_X2_isCard
set_option maxRecDepth 20000 in
theorem ggX2_two_X2_no : GoodIn wsX2_two wsX2_no := goodIn_r _ [17, 18, 67, 68, 69, 70, 71, 72, 73, 74, 75, 76, 77, 78, 79, 80, 81, 82, 83, 84, 85, 86, 87, 88, 89, 90, 91, 92, 93, 94, 95, 96, 97] (by decide +kernel) (by decide +kernel)
set_option maxRecDepth 20000 in
theorem gX2_two_X2_no : GoodIn wsX2_two (wsV RX2 83 RX2 yX2_no wsX2_no) := goodIn_app (goodIn_of _ (by decide +kernel)) ggX2_two_X2_no
set_option maxRecDepth 20000 in
theorem ggX2_two_X2_findEnds : GoodIn wsX2_two wsX2_findEnds := goodIn_r _ [22, 23, 2, 24, 25, 26, 6, 27, 8, 28, 29, 30, 31, 32, 33, 34, 35, 36, 37, 38, 39, 40, 41, 42, 43, 44, 45, 46, 47, 48, 49, 50, 51, 52, 53, 54, 55, 56, 57, 58, 3, 4, 5, 7, 59, 60, 61, 62, 63, 64, 65, 66, 67, 68, 69, 70, 71, 72, 73, 74, 75, 76, 77, 78, 79, 80, 81, 82, 83, 84, 85, 86, 87, 88, 89, 90, 91, 92, 93, 94, 95, 96, 97] (by decide +kernel) (by decide +kernel)
set_option maxRecDepth 20000 in
theorem gX2_two_X2_findEnds : GoodIn wsX2_two (wsV RX2 283 RX2 yX2_findEnds wsX2_findEnds) := goodIn_app (goodIn_of _ (by decide +kernel)) ggX2_two_X2_findEnds
theorem dX2_two_0 : decode cX2_two 0 = .ok (.aload_n 0, 1) := by decide +kernel
theorem dX2_two_1 : decode cX2_two 1 = .ok (.iload_n 1, 1) := by decide +kernel
theorem dX2_two_2 : decode cX2_two 2 = .ok (.invokevirtual 122, 3) := by decide +kernel
theorem dX2_two_5 : decode cX2_two 5 = .ok (.ifCond .eq 24, 3) := by decide +kernel
theorem dX2_two_8 : decode cX2_two 8 = .ok (.aload_n 0, 1) := by decide +kernel
theorem dX2_two_9 : decode cX2_two 9 = .ok (.iload_n 2, 1) := by decide +kernel
theorem dX2_two_10 : decode cX2_two 10 = .ok (.invokevirtual 122, 3) := by decide +kernel
theorem dX2_two_13 : decode cX2_two 13 = .ok (.ifCond .eq 16, 3) := by decide +kernel
theorem dX2_two_16 : decode cX2_two 16 = .ok (.iload_n 1, 1) := by decide +kernel
theorem dX2_two_17 : decode cX2_two 17 = .ok (.iload_n 2, 1) := by decide +kernel
theorem dX2_two_18 : decode cX2_two 18 = .ok (.if_icmp .eq 11, 3) := by decide +kernel
theorem dX2_two_21 : decode cX2_two 21 = .ok (.aload_n 0, 1) := by decide +kernel
theorem dX2_two_22 : decode cX2_two 22 = .ok (.iload_n 3, 1) := by decide +kernel
theorem dX2_two_23 : decode cX2_two 23 = .ok (.invokevirtual 118, 3) := by decide +kernel
theorem dX2_two_26 : decode cX2_two 26 = .ok (.ifCond .ne 7, 3) := by decide +kernel
theorem dX2_two_29 : decode cX2_two 29 = .ok (.iconst (-1), 1) := by decide +kernel
theorem dX2_two_30 : decode cX2_two 30 = .ok (.goto 18, 3) := by decide +kernel
theorem dX2_two_33 : decode cX2_two 33 = .ok (.aload_n 0, 1) := by decide +kernel
theorem dX2_two_34 : decode cX2_two 34 = .ok (.getfield 25, 3) := by decide +kernel
theorem dX2_two_37 : decode cX2_two 37 = .ok (.iload_n 3, 1) := by decide +kernel
theorem dX2_two_38 : decode cX2_two 38 = .ok (.iaload, 1) := by decide +kernel
theorem dX2_two_39 : decode cX2_two 39 = .ok (.ifCond .eq 8, 3) := by decide +kernel
theorem dX2_two_42 : decode cX2_two 42 = .ok (.bipush (-3), 2) := by decide +kernel
theorem dX2_two_44 : decode cX2_two 44 = .ok (.goto 4, 3) := by decide +kernel
theorem dX2_two_47 : decode cX2_two 47 = .ok (.iconst 0, 1) := by decide +kernel
theorem dX2_two_48 : decode cX2_two 48 = .ok (.istore 4, 2) := by decide +kernel
theorem dX2_two_50 : decode cX2_two 50 = .ok (.iload 4, 2) := by decide +kernel
theorem dX2_two_52 : decode cX2_two 52 = .ok (.ifCond .eq 10, 3) := by decide +kernel
theorem dX2_two_55 : decode cX2_two 55 = .ok (.aload_n 0, 1) := by decide +kernel
theorem dX2_two_56 : decode cX2_two 56 = .ok (.iload 4, 2) := by decide +kernel
theorem dX2_two_58 : decode cX2_two 58 = .ok (.invokevirtual 83, 3) := by decide +kernel
theorem dX2_two_61 : decode cX2_two 61 = .ok (.ireturn, 1) := by decide +kernel
theorem dX2_two_62 : decode cX2_two 62 = .ok (.aload_n 0, 1) := by decide +kernel
theorem dX2_two_63 : decode cX2_two 63 = .ok (.iload_n 1, 1) := by decide +kernel
theorem dX2_two_64 : decode cX2_two 64 = .ok (.iload_n 2, 1) := by decide +kernel
theorem dX2_two_65 : decode cX2_two 65 = .ok (.iload_n 3, 1) := by decide +kernel
theorem dX2_two_66 : decode cX2_two 66 = .ok (.invokevirtual 283, 3) := by decide +kernel
theorem dX2_two_69 : decode cX2_two 69 = .ok (.iconst 0, 1) := by decide +kernel
theorem dX2_two_70 : decode cX2_two 70 = .ok (.istore 5, 2) := by decide +kernel
theorem dX2_two_72 : decode cX2_two 72 = .ok (.iload 5, 2) := by decide +kernel
theorem dX2_two_74 : decode cX2_two 74 = .ok (.iconst 4, 1) := by decide +kernel
theorem dX2_two_75 : decode cX2_two 75 = .ok (.if_icmp .ge 72, 3) := by decide +kernel
theorem dX2_two_78 : decode cX2_two 78 = .ok (.aload_n 0, 1) := by decide +kernel
theorem dX2_two_79 : decode cX2_two 79 = .ok (.getfield 61, 3) := by decide +kernel
theorem dX2_two_82 : decode cX2_two 82 = .ok (.iconst 2, 1) := by decide +kernel
theorem dX2_two_83 : decode cX2_two 83 = .ok (.iload 5, 2) := by decide +kernel
theorem dX2_two_85 : decode cX2_two 85 = .ok (.iconst 2, 1) := by decide +kernel
theorem dX2_two_86 : decode cX2_two 86 = .ok (.ixor, 1) := by decide +kernel
theorem dX2_two_87 : decode cX2_two 87 = .ok (.imul, 1) := by decide +kernel
theorem dX2_two_88 : decode cX2_two 88 = .ok (.iaload, 1) := by decide +kernel
theorem dX2_two_89 : decode cX2_two 89 = .ok (.aload_n 0, 1) := by decide +kernel
theorem dX2_two_90 : decode cX2_two 90 = .ok (.getfield 61, 3) := by decide +kernel
theorem dX2_two_93 : decode cX2_two 93 = .ok (.iconst 2, 1) := by decide +kernel
theorem dX2_two_94 : decode cX2_two 94 = .ok (.iload 5, 2) := by decide +kernel
theorem dX2_two_96 : decode cX2_two 96 = .ok (.imul, 1) := by decide +kernel
theorem dX2_two_97 : decode cX2_two 97 = .ok (.iaload, 1) := by decide +kernel
theorem dX2_two_98 : decode cX2_two 98 = .ok (.if_icmp .gt 43, 3) := by decide +kernel
theorem dX2_two_101 : decode cX2_two 101 = .ok (.aload_n 0, 1) := by decide +kernel
theorem dX2_two_102 : decode cX2_two 102 = .ok (.getfield 61, 3) := by decide +kernel
theorem dX2_two_105 : decode cX2_two 105 = .ok (.iconst 2, 1) := by decide +kernel
theorem dX2_two_106 : decode cX2_two 106 = .ok (.iload 5, 2) := by decide +kernel
theorem dX2_two_108 : decode cX2_two 108 = .ok (.iconst 1, 1) := by decide +kernel
theorem dX2_two_109 : decode cX2_two 109 = .ok (.ixor, 1) := by decide +kernel
theorem dX2_two_110 : decode cX2_two 110 = .ok (.imul, 1) := by decide +kernel
theorem dX2_two_111 : decode cX2_two 111 = .ok (.iconst 1, 1) := by decide +kernel
theorem dX2_two_112 : decode cX2_two 112 = .ok (.iadd, 1) := by decide +kernel
theorem dX2_two_113 : decode cX2_two 113 = .ok (.iaload, 1) := by decide +kernel
theorem dX2_two_114 : decode cX2_two 114 = .ok (.aload_n 0, 1) := by decide +kernel
theorem dX2_two_115 : decode cX2_two 115 = .ok (.getfield 61, 3) := by decide +kernel
theorem dX2_two_118 : decode cX2_two 118 = .ok (.iconst 2, 1) := by decide +kernel
theorem dX2_two_119 : decode cX2_two 119 = .ok (.iload 5, 2) := by decide +kernel
theorem dX2_two_121 : decode cX2_two 121 = .ok (.imul, 1) := by decide +kernel
theorem dX2_two_122 : decode cX2_two 122 = .ok (.iconst 1, 1) := by decide +kernel
theorem dX2_two_123 : decode cX2_two 123 = .ok (.iadd, 1) := by decide +kernel
theorem dX2_two_124 : decode cX2_two 124 = .ok (.iaload, 1) := by decide +kernel
theorem dX2_two_125 : decode cX2_two 125 = .ok (.if_icmp .gt 16, 3) := by decide +kernel
theorem dX2_two_128 : decode cX2_two 128 = .ok (.bipush 10, 2) := by decide +kernel
theorem dX2_two_130 : decode cX2_two 130 = .ok (.iload 5, 2) := by decide +kernel
theorem dX2_two_132 : decode cX2_two 132 = .ok (.iconst 2, 1) := by decide +kernel
theorem dX2_two_133 : decode cX2_two 133 = .ok (.idiv, 1) := by decide +kernel
theorem dX2_two_134 : decode cX2_two 134 = .ok (.imul, 1) := by decide +kernel
theorem dX2_two_135 : decode cX2_two 135 = .ok (.iload 5, 2) := by decide +kernel
theorem dX2_two_137 : decode cX2_two 137 = .ok (.iconst 2, 1) := by decide +kernel
theorem dX2_two_138 : decode cX2_two 138 = .ok (.irem, 1) := by decide +kernel
theorem dX2_two_139 : decode cX2_two 139 = .ok (.iadd, 1) := by decide +kernel
theorem dX2_two_140 : decode cX2_two 140 = .ok (.ireturn, 1) := by decide +kernel
theorem dX2_two_141 : decode cX2_two 141 = .ok (.iinc 5 1, 3) := by decide +kernel
theorem dX2_two_144 : decode cX2_two 144 = .ok (.goto (-72), 3) := by decide +kernel
theorem dX2_two_147 : decode cX2_two 147 = .ok (.bipush (-9), 2) := by decide +kernel
theorem dX2_two_149 : decode cX2_two 149 = .ok (.ireturn, 1) := by decide +kernel
theorem dX2_divisor_0 : decode cX2_divisor 0 = .ok (.lload_n 0, 1) := by decide +kernel
theorem dX2_divisor_1 : decode cX2_divisor 1 = .ok (.lstore 4, 2) := by decide +kernel
theorem dX2_divisor_3 : decode cX2_divisor 3 = .ok (.lload_n 2, 1) := by decide +kernel
theorem dX2_divisor_4 : decode cX2_divisor 4 = .ok (.lstore 6, 2) := by decide +kernel
theorem dX2_divisor_6 : decode cX2_divisor 6 = .ok (.lload 6, 2) := by decide +kernel
theorem dX2_divisor_8 : decode cX2_divisor 8 = .ok (.lconst 0, 1) := by decide +kernel
theorem dX2_divisor_9 : decode cX2_divisor 9 = .ok (.lcmp, 1) := by decide +kernel
theorem dX2_divisor_10 : decode cX2_divisor 10 = .ok (.ifCond .eq 21, 3) := by decide +kernel
theorem dX2_divisor_13 : decode cX2_divisor 13 = .ok (.lload 4, 2) := by decide +kernel
theorem dX2_divisor_15 : decode cX2_divisor 15 = .ok (.lload 6, 2) := by decide +kernel
theorem dX2_divisor_17 : decode cX2_divisor 17 = .ok (.lrem, 1) := by decide +kernel
theorem dX2_divisor_18 : decode cX2_divisor 18 = .ok (.lstore 8, 2) := by decide +kernel
theorem dX2_divisor_20 : decode cX2_divisor 20 = .ok (.lload 6, 2) := by decide +kernel
theorem dX2_divisor_22 : decode cX2_divisor 22 = .ok (.lstore 4, 2) := by decide +kernel
theorem dX2_divisor_24 : decode cX2_divisor 24 = .ok (.lload 8, 2) := by decide +kernel
theorem dX2_divisor_26 : decode cX2_divisor 26 = .ok (.lstore 6, 2) := by decide +kernel
theorem dX2_divisor_28 : decode cX2_divisor 28 = .ok (.goto (-22), 3) := by decide +kernel
theorem dX2_divisor_31 : decode cX2_divisor 31 = .ok (.lload 4, 2) := by decide +kernel
theorem dX2_divisor_33 : decode cX2_divisor 33 = .ok (.lreturn, 1) := by decide +kernel
set_option maxRecDepth 20000 in
theorem ggX2_partOf_X2_divisor : GoodIn wsX2_partOf wsX2_divisor := goodIn_r _ [4] (by decide +kernel) (by decide +kernel)
set_option maxRecDepth 20000 in
theorem gX2_partOf_X2_divisor : GoodIn wsX2_partOf (va_wsS RX2 287 yX2_divisor wsX2_divisor) := goodIn_app (goodIn_of _ (by decide +kernel)) ggX2_partOf_X2_divisor
theorem dX2_partOf_0 : decode cX2_partOf 0 = .ok (.iload 4, 2) := by decide +kernel
theorem dX2_partOf_2 : decode cX2_partOf 2 = .ok (.ifCond .ne 7, 3) := by decide +kernel
theorem dX2_partOf_5 : decode cX2_partOf 5 = .ok (.lload_n 0, 1) := by decide +kernel
theorem dX2_partOf_6 : decode cX2_partOf 6 = .ok (.goto 4, 3) := by decide +kernel
theorem dX2_partOf_9 : decode cX2_partOf 9 = .ok (.lload_n 2, 1) := by decide +kernel
theorem dX2_partOf_10 : decode cX2_partOf 10 = .ok (.lload_n 0, 1) := by decide +kernel
theorem dX2_partOf_11 : decode cX2_partOf 11 = .ok (.lload_n 2, 1) := by decide +kernel
theorem dX2_partOf_12 : decode cX2_partOf 12 = .ok (.invokestatic 287, 3) := by decide +kernel
theorem dX2_partOf_15 : decode cX2_partOf 15 = .ok (.ldiv, 1) := by decide +kernel
theorem dX2_partOf_16 : decode cX2_partOf 16 = .ok (.lreturn, 1) := by decide +kernel
set_option maxRecDepth 20000 in
theorem ggX2_stutter_X2_areTold : GoodIn wsX2_stutter wsX2_areTold := goodIn_r _ [6, 7, 8, 9, 5, 10, 11, 12, 13, 14, 15, 16, 109, 110, 111, 112, 113, 114, 115, 116, 117, 118, 119, 120, 121, 122, 123, 124, 125, 126, 127, 128, 129, 130, 131, 132, 133, 134, 135, 136, 137, 138, 139] (by decide +kernel) (by decide +kernel)
set_option maxRecDepth 20000 in
theorem gX2_stutter_X2_areTold : GoodIn wsX2_stutter (wsV RX2 226 RX2 yX2_areTold wsX2_areTold) := goodIn_app (goodIn_of _ (by decide +kernel)) ggX2_stutter_X2_areTold
set_option maxRecDepth 20000 in
theorem ggX2_stutter_X2_isIn : GoodIn wsX2_stutter wsX2_isIn := goodIn_r _ [19] (by decide +kernel) (by decide +kernel)
set_option maxRecDepth 20000 in
theorem gX2_stutter_X2_isIn : GoodIn wsX2_stutter (va_wsS RX2 94 yX2_isIn wsX2_isIn) := goodIn_app (goodIn_of _ (by decide +kernel)) ggX2_stutter_X2_isIn
set_option maxRecDepth 20000 in
theorem ggX2_stutter_X2_lowestOf : GoodIn wsX2_stutter wsX2_lowestOf := goodIn_r _ [23, 24, 25, 109, 110, 111, 112, 113, 114, 115, 116, 117, 118, 119, 120, 121, 122, 123, 124, 125, 126, 127, 128, 129, 130, 131, 132, 133, 134, 135, 136, 137, 138, 139] (by decide +kernel) (by decide +kernel)
set_option maxRecDepth 20000 in
theorem gX2_stutter_X2_lowestOf : GoodIn wsX2_stutter (wsV RX2 291 RX2 yX2_lowestOf wsX2_lowestOf) := goodIn_app (goodIn_of _ (by decide +kernel)) ggX2_stutter_X2_lowestOf
set_option maxRecDepth 20000 in
theorem ggX2_stutter_X2_thinks : GoodIn wsX2_stutter wsX2_thinks := goodIn_r _ [29, 30, 31, 32, 5, 33, 34, 35, 36, 37, 38, 39, 1, 40, 41, 42, 43, 44, 16, 11, 45, 46, 47, 48, 49, 50, 51, 52, 53, 54, 109, 110, 111, 112, 113, 114, 115, 116, 117, 118, 119, 120, 121, 122, 123, 124, 125, 126, 127, 128, 129, 130, 131, 132, 133, 134, 135, 136, 137, 138, 139] (by decide +kernel) (by decide +kernel)
set_option maxRecDepth 20000 in
theorem gX2_stutter_X2_thinks : GoodIn wsX2_stutter (wsV RX2 235 RX2 yX2_thinks wsX2_thinks) := goodIn_app (goodIn_of _ (by decide +kernel)) ggX2_stutter_X2_thinks
set_option maxRecDepth 20000 in
theorem ggX2_stutter_X2_has : GoodIn wsX2_stutter wsX2_has := goodIn_r _ [57] (by decide +kernel) (by decide +kernel)
set_option maxRecDepth 20000 in
theorem gX2_stutter_X2_has : GoodIn wsX2_stutter (va_wsS RX2 192 yX2_has wsX2_has) := goodIn_app (goodIn_of _ (by decide +kernel)) ggX2_stutter_X2_has
set_option maxRecDepth 20000 in
theorem ggX2_stutter_X2_goesMonth : GoodIn wsX2_stutter wsX2_goesMonth := goodIn_r _ [61, 45, 16, 1, 40, 39, 11, 43, 62, 63, 64, 5, 65, 66, 38, 44, 67, 68, 69, 70, 71, 72, 73, 74, 75, 55, 56, 57, 76, 77, 78, 79, 80, 81, 82, 83, 42, 41, 84, 85, 86, 87, 37, 36, 88, 89, 90, 91, 7, 8, 9, 10, 92, 93, 94, 95, 96, 97, 98, 109, 110, 111, 112, 113, 114, 115, 116, 117, 118, 119, 120, 121, 122, 123, 124, 125, 126, 127, 128, 129, 130, 131, 132, 133, 134, 135, 136, 137, 138, 139] (by decide +kernel) (by decide +kernel)
set_option maxRecDepth 20000 in
theorem gX2_stutter_X2_goesMonth : GoodIn wsX2_stutter (wsV RX2 213 RX2 yX2_goesMonth wsX2_goesMonth) := goodIn_app (goodIn_of _ (by decide +kernel)) ggX2_stutter_X2_goesMonth
set_option maxRecDepth 20000 in
theorem ggX2_stutter_X2_forgets : GoodIn wsX2_stutter wsX2_forgets := goodIn_r _ [102, 30, 31, 32, 5, 33, 34, 35, 36, 37, 38, 39, 1, 40, 41, 42, 43, 44, 16, 11, 45, 46, 47, 48, 49, 50, 51, 52, 53, 54, 109, 110, 111, 112, 113, 114, 115, 116, 117, 118, 119, 120, 121, 122, 123, 124, 125, 126, 127, 128, 129, 130, 131, 132, 133, 134, 135, 136, 137, 138, 139] (by decide +kernel) (by decide +kernel)
set_option maxRecDepth 20000 in
theorem gX2_stutter_X2_forgets : GoodIn wsX2_stutter (wsV RX2 238 RX2 yX2_forgets wsX2_forgets) := goodIn_app (goodIn_of _ (by decide +kernel)) ggX2_stutter_X2_forgets
set_option maxRecDepth 20000 in
theorem ggX2_stutter_X2_partOf : GoodIn wsX2_stutter wsX2_partOf := goodIn_r _ [105, 106, 107, 5, 108] (by decide +kernel) (by decide +kernel)
set_option maxRecDepth 20000 in
theorem gX2_stutter_X2_partOf : GoodIn wsX2_stutter (va_wsS RX2 295 yX2_partOf wsX2_partOf) := goodIn_app (goodIn_of _ (by decide +kernel)) ggX2_stutter_X2_partOf
theorem dX2_stutter_0 : decode cX2_stutter 0 = .ok (.aload_n 0, 1) := by decide +kernel
theorem dX2_stutter_1 : decode cX2_stutter 1 = .ok (.iload_n 1, 1) := by decide +kernel
theorem dX2_stutter_2 : decode cX2_stutter 2 = .ok (.iload_n 2, 1) := by decide +kernel
theorem dX2_stutter_3 : decode cX2_stutter 3 = .ok (.invokevirtual 226, 3) := by decide +kernel
theorem dX2_stutter_6 : decode cX2_stutter 6 = .ok (.ifCond .ne 7, 3) := by decide +kernel
theorem dX2_stutter_9 : decode cX2_stutter 9 = .ok (.iconst (-1), 1) := by decide +kernel
theorem dX2_stutter_10 : decode cX2_stutter 10 = .ok (.goto 52, 3) := by decide +kernel
theorem dX2_stutter_13 : decode cX2_stutter 13 = .ok (.iload_n 3, 1) := by decide +kernel
theorem dX2_stutter_14 : decode cX2_stutter 14 = .ok (.ifCond .lt 9, 3) := by decide +kernel
theorem dX2_stutter_17 : decode cX2_stutter 17 = .ok (.iload 4, 2) := by decide +kernel
theorem dX2_stutter_19 : decode cX2_stutter 19 = .ok (.iconst 2, 1) := by decide +kernel
theorem dX2_stutter_20 : decode cX2_stutter 20 = .ok (.if_icmp .ge 8, 3) := by decide +kernel
theorem dX2_stutter_23 : decode cX2_stutter 23 = .ok (.bipush (-4), 2) := by decide +kernel
theorem dX2_stutter_25 : decode cX2_stutter 25 = .ok (.goto 37, 3) := by decide +kernel
theorem dX2_stutter_28 : decode cX2_stutter 28 = .ok (.iload_n 3, 1) := by decide +kernel
theorem dX2_stutter_29 : decode cX2_stutter 29 = .ok (.bipush 7, 2) := by decide +kernel
theorem dX2_stutter_31 : decode cX2_stutter 31 = .ok (.if_icmp .gt 10, 3) := by decide +kernel
theorem dX2_stutter_34 : decode cX2_stutter 34 = .ok (.iload 4, 2) := by decide +kernel
theorem dX2_stutter_36 : decode cX2_stutter 36 = .ok (.bipush 20, 2) := by decide +kernel
theorem dX2_stutter_38 : decode cX2_stutter 38 = .ok (.if_icmp .le 8, 3) := by decide +kernel
theorem dX2_stutter_41 : decode cX2_stutter 41 = .ok (.bipush (-6), 2) := by decide +kernel
theorem dX2_stutter_43 : decode cX2_stutter 43 = .ok (.goto 19, 3) := by decide +kernel
theorem dX2_stutter_46 : decode cX2_stutter 46 = .ok (.iload 5, 2) := by decide +kernel
theorem dX2_stutter_48 : decode cX2_stutter 48 = .ok (.iconst 0, 1) := by decide +kernel
theorem dX2_stutter_49 : decode cX2_stutter 49 = .ok (.iconst 1, 1) := by decide +kernel
theorem dX2_stutter_50 : decode cX2_stutter 50 = .ok (.invokestatic 94, 3) := by decide +kernel
theorem dX2_stutter_53 : decode cX2_stutter 53 = .ok (.ifCond .ne 8, 3) := by decide +kernel
theorem dX2_stutter_56 : decode cX2_stutter 56 = .ok (.bipush (-2), 2) := by decide +kernel
theorem dX2_stutter_58 : decode cX2_stutter 58 = .ok (.goto 4, 3) := by decide +kernel
theorem dX2_stutter_61 : decode cX2_stutter 61 = .ok (.iconst 0, 1) := by decide +kernel
theorem dX2_stutter_62 : decode cX2_stutter 62 = .ok (.istore 6, 2) := by decide +kernel
theorem dX2_stutter_64 : decode cX2_stutter 64 = .ok (.iload 6, 2) := by decide +kernel
theorem dX2_stutter_66 : decode cX2_stutter 66 = .ok (.ifCond .eq 10, 3) := by decide +kernel
theorem dX2_stutter_69 : decode cX2_stutter 69 = .ok (.aload_n 0, 1) := by decide +kernel
theorem dX2_stutter_70 : decode cX2_stutter 70 = .ok (.iload 6, 2) := by decide +kernel
theorem dX2_stutter_72 : decode cX2_stutter 72 = .ok (.invokevirtual 291, 3) := by decide +kernel
theorem dX2_stutter_75 : decode cX2_stutter 75 = .ok (.lreturn, 1) := by decide +kernel
theorem dX2_stutter_76 : decode cX2_stutter 76 = .ok (.lconst 0, 1) := by decide +kernel
theorem dX2_stutter_77 : decode cX2_stutter 77 = .ok (.lstore 7, 2) := by decide +kernel
theorem dX2_stutter_79 : decode cX2_stutter 79 = .ok (.lconst 1, 1) := by decide +kernel
theorem dX2_stutter_80 : decode cX2_stutter 80 = .ok (.lstore 9, 2) := by decide +kernel
theorem dX2_stutter_82 : decode cX2_stutter 82 = .ok (.iconst 0, 1) := by decide +kernel
theorem dX2_stutter_83 : decode cX2_stutter 83 = .ok (.istore 11, 2) := by decide +kernel
theorem dX2_stutter_85 : decode cX2_stutter 85 = .ok (.iload 11, 2) := by decide +kernel
theorem dX2_stutter_87 : decode cX2_stutter 87 = .ok (.iload_n 3, 1) := by decide +kernel
theorem dX2_stutter_88 : decode cX2_stutter 88 = .ok (.if_icmp .ge 17, 3) := by decide +kernel
theorem dX2_stutter_91 : decode cX2_stutter 91 = .ok (.lload 9, 2) := by decide +kernel
theorem dX2_stutter_93 : decode cX2_stutter 93 = .ok (.iload 4, 2) := by decide +kernel
theorem dX2_stutter_95 : decode cX2_stutter 95 = .ok (.i2l, 1) := by decide +kernel
theorem dX2_stutter_96 : decode cX2_stutter 96 = .ok (.lmul, 1) := by decide +kernel
theorem dX2_stutter_97 : decode cX2_stutter 97 = .ok (.lstore 9, 2) := by decide +kernel
theorem dX2_stutter_99 : decode cX2_stutter 99 = .ok (.iinc 11 1, 3) := by decide +kernel
theorem dX2_stutter_102 : decode cX2_stutter 102 = .ok (.goto (-17), 3) := by decide +kernel
theorem dX2_stutter_105 : decode cX2_stutter 105 = .ok (.iconst 0, 1) := by decide +kernel
theorem dX2_stutter_106 : decode cX2_stutter 106 = .ok (.istore 11, 2) := by decide +kernel
theorem dX2_stutter_108 : decode cX2_stutter 108 = .ok (.iload 11, 2) := by decide +kernel
theorem dX2_stutter_110 : decode cX2_stutter 110 = .ok (.iconst 1, 1) := by decide +kernel
theorem dX2_stutter_111 : decode cX2_stutter 111 = .ok (.iload_n 3, 1) := by decide +kernel
theorem dX2_stutter_112 : decode cX2_stutter 112 = .ok (.ishl, 1) := by decide +kernel
theorem dX2_stutter_113 : decode cX2_stutter 113 = .ok (.if_icmp .ge 93, 3) := by decide +kernel
theorem dX2_stutter_116 : decode cX2_stutter 116 = .ok (.aload_n 0, 1) := by decide +kernel
theorem dX2_stutter_117 : decode cX2_stutter 117 = .ok (.invokevirtual 235, 3) := by decide +kernel
theorem dX2_stutter_120 : decode cX2_stutter 120 = .ok (.lconst 1, 1) := by decide +kernel
theorem dX2_stutter_121 : decode cX2_stutter 121 = .ok (.lstore 12, 2) := by decide +kernel
theorem dX2_stutter_123 : decode cX2_stutter 123 = .ok (.iconst 0, 1) := by decide +kernel
theorem dX2_stutter_124 : decode cX2_stutter 124 = .ok (.istore 14, 2) := by decide +kernel
theorem dX2_stutter_126 : decode cX2_stutter 126 = .ok (.iload 14, 2) := by decide +kernel
theorem dX2_stutter_128 : decode cX2_stutter 128 = .ok (.iload_n 3, 1) := by decide +kernel
theorem dX2_stutter_129 : decode cX2_stutter 129 = .ok (.if_icmp .ge 44, 3) := by decide +kernel
theorem dX2_stutter_132 : decode cX2_stutter 132 = .ok (.lload 12, 2) := by decide +kernel
theorem dX2_stutter_134 : decode cX2_stutter 134 = .ok (.iload 11, 2) := by decide +kernel
theorem dX2_stutter_136 : decode cX2_stutter 136 = .ok (.iload 14, 2) := by decide +kernel
theorem dX2_stutter_138 : decode cX2_stutter 138 = .ok (.invokestatic 192, 3) := by decide +kernel
theorem dX2_stutter_141 : decode cX2_stutter 141 = .ok (.ifCond .eq 7, 3) := by decide +kernel
theorem dX2_stutter_144 : decode cX2_stutter 144 = .ok (.lconst 1, 1) := by decide +kernel
theorem dX2_stutter_145 : decode cX2_stutter 145 = .ok (.goto 8, 3) := by decide +kernel
theorem dX2_stutter_148 : decode cX2_stutter 148 = .ok (.iload 4, 2) := by decide +kernel
theorem dX2_stutter_150 : decode cX2_stutter 150 = .ok (.iconst 1, 1) := by decide +kernel
theorem dX2_stutter_151 : decode cX2_stutter 151 = .ok (.isub, 1) := by decide +kernel
theorem dX2_stutter_152 : decode cX2_stutter 152 = .ok (.i2l, 1) := by decide +kernel
theorem dX2_stutter_153 : decode cX2_stutter 153 = .ok (.lmul, 1) := by decide +kernel
theorem dX2_stutter_154 : decode cX2_stutter 154 = .ok (.lstore 12, 2) := by decide +kernel
theorem dX2_stutter_156 : decode cX2_stutter 156 = .ok (.aload_n 0, 1) := by decide +kernel
theorem dX2_stutter_157 : decode cX2_stutter 157 = .ok (.iload 11, 2) := by decide +kernel
theorem dX2_stutter_159 : decode cX2_stutter 159 = .ok (.iload 14, 2) := by decide +kernel
theorem dX2_stutter_161 : decode cX2_stutter 161 = .ok (.invokestatic 192, 3) := by decide +kernel
theorem dX2_stutter_164 : decode cX2_stutter 164 = .ok (.invokevirtual 213, 3) := by decide +kernel
theorem dX2_stutter_167 : decode cX2_stutter 167 = .ok (.iinc 14 1, 3) := by decide +kernel
theorem dX2_stutter_170 : decode cX2_stutter 170 = .ok (.goto (-44), 3) := by decide +kernel
theorem dX2_stutter_173 : decode cX2_stutter 173 = .ok (.lload 7, 2) := by decide +kernel
theorem dX2_stutter_175 : decode cX2_stutter 175 = .ok (.aload_n 0, 1) := by decide +kernel
theorem dX2_stutter_176 : decode cX2_stutter 176 = .ok (.getfield 25, 3) := by decide +kernel
theorem dX2_stutter_179 : decode cX2_stutter 179 = .ok (.iload_n 2, 1) := by decide +kernel
theorem dX2_stutter_180 : decode cX2_stutter 180 = .ok (.iaload, 1) := by decide +kernel
theorem dX2_stutter_181 : decode cX2_stutter 181 = .ok (.iload_n 1, 1) := by decide +kernel
theorem dX2_stutter_182 : decode cX2_stutter 182 = .ok (.iconst 1, 1) := by decide +kernel
theorem dX2_stutter_183 : decode cX2_stutter 183 = .ok (.iadd, 1) := by decide +kernel
theorem dX2_stutter_184 : decode cX2_stutter 184 = .ok (.if_icmp .ne 8, 3) := by decide +kernel
theorem dX2_stutter_187 : decode cX2_stutter 187 = .ok (.lload 12, 2) := by decide +kernel
theorem dX2_stutter_189 : decode cX2_stutter 189 = .ok (.goto 4, 3) := by decide +kernel
theorem dX2_stutter_192 : decode cX2_stutter 192 = .ok (.lconst 0, 1) := by decide +kernel
theorem dX2_stutter_193 : decode cX2_stutter 193 = .ok (.ladd, 1) := by decide +kernel
theorem dX2_stutter_194 : decode cX2_stutter 194 = .ok (.lstore 7, 2) := by decide +kernel
theorem dX2_stutter_196 : decode cX2_stutter 196 = .ok (.aload_n 0, 1) := by decide +kernel
theorem dX2_stutter_197 : decode cX2_stutter 197 = .ok (.invokevirtual 238, 3) := by decide +kernel
theorem dX2_stutter_200 : decode cX2_stutter 200 = .ok (.iinc 11 1, 3) := by decide +kernel
theorem dX2_stutter_203 : decode cX2_stutter 203 = .ok (.goto (-95), 3) := by decide +kernel
theorem dX2_stutter_206 : decode cX2_stutter 206 = .ok (.lload 7, 2) := by decide +kernel
theorem dX2_stutter_208 : decode cX2_stutter 208 = .ok (.lload 9, 2) := by decide +kernel
theorem dX2_stutter_210 : decode cX2_stutter 210 = .ok (.iload 5, 2) := by decide +kernel
theorem dX2_stutter_212 : decode cX2_stutter 212 = .ok (.invokestatic 295, 3) := by decide +kernel
theorem dX2_stutter_215 : decode cX2_stutter 215 = .ok (.lreturn, 1) := by decide +kernel
set_option maxRecDepth 20000 in
theorem ggX2_mean_X2_isIn : GoodIn wsX2_mean wsX2_isIn := goodIn_r _ [6] (by decide +kernel) (by decide +kernel)
set_option maxRecDepth 20000 in
theorem gX2_mean_X2_isIn : GoodIn wsX2_mean (va_wsS RX2 94 yX2_isIn wsX2_isIn) := goodIn_app (goodIn_of _ (by decide +kernel)) ggX2_mean_X2_isIn
set_option maxRecDepth 20000 in
theorem ggX2_mean_X2_lowestOf : GoodIn wsX2_mean wsX2_lowestOf := goodIn_r _ [10, 11, 12, 23, 24, 25, 26, 27, 28, 29, 30, 31, 32, 33, 34, 35, 36, 37, 38, 39, 40, 41, 42, 43, 44, 45, 46, 47, 48, 49, 50, 51, 52, 53] (by decide +kernel) (by decide +kernel)
set_option maxRecDepth 20000 in
theorem gX2_mean_X2_lowestOf : GoodIn wsX2_mean (wsV RX2 291 RX2 yX2_lowestOf wsX2_lowestOf) := goodIn_app (goodIn_of _ (by decide +kernel)) ggX2_mean_X2_lowestOf
set_option maxRecDepth 20000 in
theorem ggX2_mean_X2_allOf : GoodIn wsX2_mean wsX2_allOf := goodIn_r _ [16] (by decide +kernel) (by decide +kernel)
set_option maxRecDepth 20000 in
theorem gX2_mean_X2_allOf : GoodIn wsX2_mean (wsV RX2 244 RX2 yX2_allOf wsX2_allOf) := goodIn_app (goodIn_of _ (by decide +kernel)) ggX2_mean_X2_allOf
set_option maxRecDepth 20000 in
theorem ggX2_mean_X2_partOf : GoodIn wsX2_mean wsX2_partOf := goodIn_r _ [19, 20, 21, 5, 22] (by decide +kernel) (by decide +kernel)
set_option maxRecDepth 20000 in
theorem gX2_mean_X2_partOf : GoodIn wsX2_mean (va_wsS RX2 295 yX2_partOf wsX2_partOf) := goodIn_app (goodIn_of _ (by decide +kernel)) ggX2_mean_X2_partOf
theorem dX2_mean_0 : decode cX2_mean 0 = .ok (.iload_n 1, 1) := by decide +kernel
theorem dX2_mean_1 : decode cX2_mean 1 = .ok (.iconst 0, 1) := by decide +kernel
theorem dX2_mean_2 : decode cX2_mean 2 = .ok (.iconst 1, 1) := by decide +kernel
theorem dX2_mean_3 : decode cX2_mean 3 = .ok (.invokestatic 94, 3) := by decide +kernel
theorem dX2_mean_6 : decode cX2_mean 6 = .ok (.ifCond .ne 10, 3) := by decide +kernel
theorem dX2_mean_9 : decode cX2_mean 9 = .ok (.aload_n 0, 1) := by decide +kernel
theorem dX2_mean_10 : decode cX2_mean 10 = .ok (.bipush (-2), 2) := by decide +kernel
theorem dX2_mean_12 : decode cX2_mean 12 = .ok (.invokevirtual 291, 3) := by decide +kernel
theorem dX2_mean_15 : decode cX2_mean 15 = .ok (.lreturn, 1) := by decide +kernel
theorem dX2_mean_16 : decode cX2_mean 16 = .ok (.aload_n 0, 1) := by decide +kernel
theorem dX2_mean_17 : decode cX2_mean 17 = .ok (.getfield 73, 3) := by decide +kernel
theorem dX2_mean_20 : decode cX2_mean 20 = .ok (.ifCond .ne 8, 3) := by decide +kernel
theorem dX2_mean_23 : decode cX2_mean 23 = .ok (.iload_n 1, 1) := by decide +kernel
theorem dX2_mean_24 : decode cX2_mean 24 = .ok (.i2l, 1) := by decide +kernel
theorem dX2_mean_25 : decode cX2_mean 25 = .ok (.goto 25, 3) := by decide +kernel
theorem dX2_mean_28 : decode cX2_mean 28 = .ok (.aload_n 0, 1) := by decide +kernel
theorem dX2_mean_29 : decode cX2_mean 29 = .ok (.aload_n 0, 1) := by decide +kernel
theorem dX2_mean_30 : decode cX2_mean 30 = .ok (.getfield 37, 3) := by decide +kernel
theorem dX2_mean_33 : decode cX2_mean 33 = .ok (.aload_n 0, 1) := by decide +kernel
theorem dX2_mean_34 : decode cX2_mean 34 = .ok (.getfield 73, 3) := by decide +kernel
theorem dX2_mean_37 : decode cX2_mean 37 = .ok (.invokevirtual 244, 3) := by decide +kernel
theorem dX2_mean_40 : decode cX2_mean 40 = .ok (.i2l, 1) := by decide +kernel
theorem dX2_mean_41 : decode cX2_mean 41 = .ok (.aload_n 0, 1) := by decide +kernel
theorem dX2_mean_42 : decode cX2_mean 42 = .ok (.getfield 73, 3) := by decide +kernel
theorem dX2_mean_45 : decode cX2_mean 45 = .ok (.i2l, 1) := by decide +kernel
theorem dX2_mean_46 : decode cX2_mean 46 = .ok (.iload_n 1, 1) := by decide +kernel
theorem dX2_mean_47 : decode cX2_mean 47 = .ok (.invokestatic 295, 3) := by decide +kernel
theorem dX2_mean_50 : decode cX2_mean 50 = .ok (.lreturn, 1) := by decide +kernel
set_option maxRecDepth 20000 in
theorem ggX2_isSo_X2_thinks : GoodIn wsX2_isSo wsX2_thinks := goodIn_r _ [9, 10, 11, 12, 8, 13, 14, 15, 16, 17, 18, 19, 4, 20, 21, 22, 23, 24, 2, 25, 26, 27, 28, 29, 30, 31, 32, 33, 34, 35, 88, 89, 90, 91, 92, 93, 94, 95, 96, 97, 98, 99, 100, 101, 102, 103, 104, 105, 106, 107, 108, 109, 110, 111, 112, 113, 114, 115, 116, 117, 118] (by decide +kernel) (by decide +kernel)
set_option maxRecDepth 20000 in
theorem gX2_isSo_X2_thinks : GoodIn wsX2_isSo (wsV RX2 235 RX2 yX2_thinks wsX2_thinks) := goodIn_app (goodIn_of _ (by decide +kernel)) ggX2_isSo_X2_thinks
set_option maxRecDepth 20000 in
theorem ggX2_isSo_X2_goesMonth : GoodIn wsX2_isSo wsX2_goesMonth := goodIn_r _ [39, 26, 2, 4, 20, 19, 25, 23, 40, 41, 42, 8, 43, 44, 18, 24, 45, 46, 47, 48, 49, 50, 51, 52, 53, 54, 55, 56, 57, 58, 59, 60, 61, 62, 63, 64, 22, 21, 65, 66, 67, 68, 17, 16, 69, 70, 71, 72, 73, 74, 75, 76, 77, 78, 79, 80, 81, 82, 83, 88, 89, 90, 91, 92, 93, 94, 95, 96, 97, 98, 99, 100, 101, 102, 103, 104, 105, 106, 107, 108, 109, 110, 111, 112, 113, 114, 115, 116, 117, 118] (by decide +kernel) (by decide +kernel)
set_option maxRecDepth 20000 in
theorem gX2_isSo_X2_goesMonth : GoodIn wsX2_isSo (wsV RX2 213 RX2 yX2_goesMonth wsX2_goesMonth) := goodIn_app (goodIn_of _ (by decide +kernel)) ggX2_isSo_X2_goesMonth
set_option maxRecDepth 20000 in
theorem ggX2_isSo_X2_forgets : GoodIn wsX2_isSo wsX2_forgets := goodIn_r _ [87, 10, 11, 12, 8, 13, 14, 15, 16, 17, 18, 19, 4, 20, 21, 22, 23, 24, 2, 25, 26, 27, 28, 29, 30, 31, 32, 33, 34, 35, 88, 89, 90, 91, 92, 93, 94, 95, 96, 97, 98, 99, 100, 101, 102, 103, 104, 105, 106, 107, 108, 109, 110, 111, 112, 113, 114, 115, 116, 117, 118] (by decide +kernel) (by decide +kernel)
set_option maxRecDepth 20000 in
theorem gX2_isSo_X2_forgets : GoodIn wsX2_isSo (wsV RX2 238 RX2 yX2_forgets wsX2_forgets) := goodIn_app (goodIn_of _ (by decide +kernel)) ggX2_isSo_X2_forgets
theorem dX2_isSo_0 : decode cX2_isSo 0 = .ok (.aload_n 0, 1) := by decide +kernel
theorem dX2_isSo_1 : decode cX2_isSo 1 = .ok (.invokevirtual 235, 3) := by decide +kernel
theorem dX2_isSo_4 : decode cX2_isSo 4 = .ok (.aload_n 0, 1) := by decide +kernel
theorem dX2_isSo_5 : decode cX2_isSo 5 = .ok (.iconst 0, 1) := by decide +kernel
theorem dX2_isSo_6 : decode cX2_isSo 6 = .ok (.invokevirtual 213, 3) := by decide +kernel
theorem dX2_isSo_9 : decode cX2_isSo 9 = .ok (.aload_n 0, 1) := by decide +kernel
theorem dX2_isSo_10 : decode cX2_isSo 10 = .ok (.getfield 299, 3) := by decide +kernel
theorem dX2_isSo_13 : decode cX2_isSo 13 = .ok (.aload_n 0, 1) := by decide +kernel
theorem dX2_isSo_14 : decode cX2_isSo 14 = .ok (.getfield 67, 3) := by decide +kernel
theorem dX2_isSo_17 : decode cX2_isSo 17 = .ok (.if_icmp .gt 7, 3) := by decide +kernel
theorem dX2_isSo_20 : decode cX2_isSo 20 = .ok (.iconst 1, 1) := by decide +kernel
theorem dX2_isSo_21 : decode cX2_isSo 21 = .ok (.goto 4, 3) := by decide +kernel
theorem dX2_isSo_24 : decode cX2_isSo 24 = .ok (.iconst 0, 1) := by decide +kernel
theorem dX2_isSo_25 : decode cX2_isSo 25 = .ok (.istore_n 1, 1) := by decide +kernel
theorem dX2_isSo_26 : decode cX2_isSo 26 = .ok (.iconst 0, 1) := by decide +kernel
theorem dX2_isSo_27 : decode cX2_isSo 27 = .ok (.istore_n 2, 1) := by decide +kernel
theorem dX2_isSo_28 : decode cX2_isSo 28 = .ok (.iload_n 2, 1) := by decide +kernel
theorem dX2_isSo_29 : decode cX2_isSo 29 = .ok (.aload_n 0, 1) := by decide +kernel
theorem dX2_isSo_30 : decode cX2_isSo 30 = .ok (.getfield 299, 3) := by decide +kernel
theorem dX2_isSo_33 : decode cX2_isSo 33 = .ok (.if_icmp .ge 50, 3) := by decide +kernel
theorem dX2_isSo_36 : decode cX2_isSo 36 = .ok (.iload_n 1, 1) := by decide +kernel
theorem dX2_isSo_37 : decode cX2_isSo 37 = .ok (.ifCond .eq 46, 3) := by decide +kernel
theorem dX2_isSo_40 : decode cX2_isSo 40 = .ok (.aload_n 0, 1) := by decide +kernel
theorem dX2_isSo_41 : decode cX2_isSo 41 = .ok (.getfield 64, 3) := by decide +kernel
theorem dX2_isSo_44 : decode cX2_isSo 44 = .ok (.iload_n 2, 1) := by decide +kernel
theorem dX2_isSo_45 : decode cX2_isSo 45 = .ok (.iaload, 1) := by decide +kernel
theorem dX2_isSo_46 : decode cX2_isSo 46 = .ok (.aload_n 0, 1) := by decide +kernel
theorem dX2_isSo_47 : decode cX2_isSo 47 = .ok (.getfield 25, 3) := by decide +kernel
theorem dX2_isSo_50 : decode cX2_isSo 50 = .ok (.iload_n 2, 1) := by decide +kernel
theorem dX2_isSo_51 : decode cX2_isSo 51 = .ok (.iaload, 1) := by decide +kernel
theorem dX2_isSo_52 : decode cX2_isSo 52 = .ok (.ifCond .ne 8, 3) := by decide +kernel
theorem dX2_isSo_55 : decode cX2_isSo 55 = .ok (.bipush 9, 2) := by decide +kernel
theorem dX2_isSo_57 : decode cX2_isSo 57 = .ok (.goto 11, 3) := by decide +kernel
theorem dX2_isSo_60 : decode cX2_isSo 60 = .ok (.aload_n 0, 1) := by decide +kernel
theorem dX2_isSo_61 : decode cX2_isSo 61 = .ok (.getfield 25, 3) := by decide +kernel
theorem dX2_isSo_64 : decode cX2_isSo 64 = .ok (.iload_n 2, 1) := by decide +kernel
theorem dX2_isSo_65 : decode cX2_isSo 65 = .ok (.iaload, 1) := by decide +kernel
theorem dX2_isSo_66 : decode cX2_isSo 66 = .ok (.iconst 1, 1) := by decide +kernel
theorem dX2_isSo_67 : decode cX2_isSo 67 = .ok (.isub, 1) := by decide +kernel
theorem dX2_isSo_68 : decode cX2_isSo 68 = .ok (.if_icmp .ne 7, 3) := by decide +kernel
theorem dX2_isSo_71 : decode cX2_isSo 71 = .ok (.iconst 1, 1) := by decide +kernel
theorem dX2_isSo_72 : decode cX2_isSo 72 = .ok (.goto 4, 3) := by decide +kernel
theorem dX2_isSo_75 : decode cX2_isSo 75 = .ok (.iconst 0, 1) := by decide +kernel
theorem dX2_isSo_76 : decode cX2_isSo 76 = .ok (.istore_n 1, 1) := by decide +kernel
theorem dX2_isSo_77 : decode cX2_isSo 77 = .ok (.iinc 2 1, 3) := by decide +kernel
theorem dX2_isSo_80 : decode cX2_isSo 80 = .ok (.goto (-52), 3) := by decide +kernel
theorem dX2_isSo_83 : decode cX2_isSo 83 = .ok (.aload_n 0, 1) := by decide +kernel
theorem dX2_isSo_84 : decode cX2_isSo 84 = .ok (.invokevirtual 238, 3) := by decide +kernel
theorem dX2_isSo_87 : decode cX2_isSo 87 = .ok (.iload_n 1, 1) := by decide +kernel
theorem dX2_isSo_88 : decode cX2_isSo 88 = .ok (.ireturn, 1) := by decide +kernel
set_option maxRecDepth 20000 in
theorem ggX2_bitsFor_X2_isSo : GoodIn wsX2_bitsFor wsX2_isSo := goodIn_r _ [5, 6, 7, 8, 9, 10, 11, 12, 4, 13, 14, 15, 16, 17, 18, 19, 20, 21, 22, 23, 24, 25, 26, 27, 28, 29, 30, 31, 32, 33, 34, 35, 36, 37, 38, 39, 40, 41, 42, 43, 44, 45, 46, 47, 48, 49, 50, 51, 52, 53, 54, 55, 56, 57, 58, 59, 60, 61, 62, 63, 64, 65, 66, 67, 68, 69, 70, 71, 72, 73, 74, 75, 76, 77, 78, 79, 80, 81, 82, 83, 84, 85, 86, 87, 88, 89, 90, 91, 92, 93, 94, 95, 96, 97, 98, 99, 100, 101, 102, 103, 104, 105, 106, 107, 108, 109, 110, 111, 112, 113, 114, 115, 116, 117, 118, 119, 120, 121, 122] (by decide +kernel) (by decide +kernel)
set_option maxRecDepth 20000 in
theorem gX2_bitsFor_X2_isSo : GoodIn wsX2_bitsFor (wsV RX2 302 RX2 yX2_isSo wsX2_isSo) := goodIn_app (goodIn_of _ (by decide +kernel)) ggX2_bitsFor_X2_isSo
theorem dX2_bitsFor_0 : decode cX2_bitsFor 0 = .ok (.aload_n 1, 1) := by decide +kernel
theorem dX2_bitsFor_1 : decode cX2_bitsFor 1 = .ok (.iload_n 2, 1) := by decide +kernel
theorem dX2_bitsFor_2 : decode cX2_bitsFor 2 = .ok (.iaload, 1) := by decide +kernel
theorem dX2_bitsFor_3 : decode cX2_bitsFor 3 = .ok (.istore_n 3, 1) := by decide +kernel
theorem dX2_bitsFor_4 : decode cX2_bitsFor 4 = .ok (.iconst 0, 1) := by decide +kernel
theorem dX2_bitsFor_5 : decode cX2_bitsFor 5 = .ok (.istore 4, 2) := by decide +kernel
theorem dX2_bitsFor_7 : decode cX2_bitsFor 7 = .ok (.iconst 0, 1) := by decide +kernel
theorem dX2_bitsFor_8 : decode cX2_bitsFor 8 = .ok (.istore 5, 2) := by decide +kernel
theorem dX2_bitsFor_10 : decode cX2_bitsFor 10 = .ok (.iload 5, 2) := by decide +kernel
theorem dX2_bitsFor_12 : decode cX2_bitsFor 12 = .ok (.bipush 6, 2) := by decide +kernel
theorem dX2_bitsFor_14 : decode cX2_bitsFor 14 = .ok (.if_icmp .ge 34, 3) := by decide +kernel
theorem dX2_bitsFor_17 : decode cX2_bitsFor 17 = .ok (.aload_n 1, 1) := by decide +kernel
theorem dX2_bitsFor_18 : decode cX2_bitsFor 18 = .ok (.iload_n 2, 1) := by decide +kernel
theorem dX2_bitsFor_19 : decode cX2_bitsFor 19 = .ok (.iload 5, 2) := by decide +kernel
theorem dX2_bitsFor_21 : decode cX2_bitsFor 21 = .ok (.iastore, 1) := by decide +kernel
theorem dX2_bitsFor_22 : decode cX2_bitsFor 22 = .ok (.iload 4, 2) := by decide +kernel
theorem dX2_bitsFor_24 : decode cX2_bitsFor 24 = .ok (.aload_n 0, 1) := by decide +kernel
theorem dX2_bitsFor_25 : decode cX2_bitsFor 25 = .ok (.invokevirtual 302, 3) := by decide +kernel
theorem dX2_bitsFor_28 : decode cX2_bitsFor 28 = .ok (.ifCond .eq 10, 3) := by decide +kernel
theorem dX2_bitsFor_31 : decode cX2_bitsFor 31 = .ok (.iconst 1, 1) := by decide +kernel
theorem dX2_bitsFor_32 : decode cX2_bitsFor 32 = .ok (.iload 5, 2) := by decide +kernel
theorem dX2_bitsFor_34 : decode cX2_bitsFor 34 = .ok (.ishl, 1) := by decide +kernel
theorem dX2_bitsFor_35 : decode cX2_bitsFor 35 = .ok (.goto 4, 3) := by decide +kernel
theorem dX2_bitsFor_38 : decode cX2_bitsFor 38 = .ok (.iconst 0, 1) := by decide +kernel
theorem dX2_bitsFor_39 : decode cX2_bitsFor 39 = .ok (.ior, 1) := by decide +kernel
theorem dX2_bitsFor_40 : decode cX2_bitsFor 40 = .ok (.istore 4, 2) := by decide +kernel
theorem dX2_bitsFor_42 : decode cX2_bitsFor 42 = .ok (.iinc 5 1, 3) := by decide +kernel
theorem dX2_bitsFor_45 : decode cX2_bitsFor 45 = .ok (.goto (-35), 3) := by decide +kernel
theorem dX2_bitsFor_48 : decode cX2_bitsFor 48 = .ok (.aload_n 1, 1) := by decide +kernel
theorem dX2_bitsFor_49 : decode cX2_bitsFor 49 = .ok (.iload_n 2, 1) := by decide +kernel
theorem dX2_bitsFor_50 : decode cX2_bitsFor 50 = .ok (.iload_n 3, 1) := by decide +kernel
theorem dX2_bitsFor_51 : decode cX2_bitsFor 51 = .ok (.iastore, 1) := by decide +kernel
theorem dX2_bitsFor_52 : decode cX2_bitsFor 52 = .ok (.iload 4, 2) := by decide +kernel
theorem dX2_bitsFor_54 : decode cX2_bitsFor 54 = .ok (.ireturn, 1) := by decide +kernel
set_option maxRecDepth 20000 in
theorem ggX2_whoTold_X2_isCard : GoodIn wsX2_whoTold wsX2_isCard := goodIn_r _ [7, 8, 108, 109, 110, 111, 112, 113, 114, 115, 116, 117, 118, 119, 120, 121, 122, 123, 124, 125, 126, 127, 128, 129, 130, 131, 132, 133, 134, 135, 136, 137, 138] (by decide +kernel) (by decide +kernel)
set_option maxRecDepth 20000 in
theorem gX2_whoTold_X2_isCard : GoodIn wsX2_whoTold (wsV RX2 118 RX2 yX2_isCard wsX2_isCard) := goodIn_app (goodIn_of _ (by decide +kernel)) ggX2_whoTold_X2_isCard
set_option maxRecDepth 20000 in
theorem ggX2_whoTold_X2_isIn : GoodIn wsX2_whoTold wsX2_isIn := goodIn_r _ [11] (by decide +kernel) (by decide +kernel)
set_option maxRecDepth 20000 in
theorem gX2_whoTold_X2_isIn : GoodIn wsX2_whoTold (va_wsS RX2 94 yX2_isIn wsX2_isIn) := goodIn_app (goodIn_of _ (by decide +kernel)) ggX2_whoTold_X2_isIn
set_option maxRecDepth 20000 in
theorem ggX2_whoTold_X2_no : GoodIn wsX2_whoTold wsX2_no := goodIn_r _ [15, 16, 108, 109, 110, 111, 112, 113, 114, 115, 116, 117, 118, 119, 120, 121, 122, 123, 124, 125, 126, 127, 128, 129, 130, 131, 132, 133, 134, 135, 136, 137, 138] (by decide +kernel) (by decide +kernel)
set_option maxRecDepth 20000 in
theorem gX2_whoTold_X2_no : GoodIn wsX2_whoTold (wsV RX2 83 RX2 yX2_no wsX2_no) := goodIn_app (goodIn_of _ (by decide +kernel)) ggX2_whoTold_X2_no
set_option maxRecDepth 20000 in
theorem ggX2_whoTold_X2_bitsFor : GoodIn wsX2_whoTold wsX2_bitsFor := goodIn_r _ [20, 21, 22, 23, 6, 24, 25, 8, 26, 27, 28, 29, 30, 31, 32, 33, 34, 35, 36, 37, 2, 38, 1, 39, 40, 41, 42, 43, 44, 45, 46, 47, 48, 49, 50, 51, 52, 53, 54, 55, 56, 57, 58, 59, 60, 61, 62, 63, 64, 65, 66, 67, 68, 69, 70, 71, 72, 73, 74, 75, 76, 77, 78, 79, 80, 81, 82, 83, 84, 85, 86, 87, 88, 89, 90, 91, 92, 93, 94, 95, 96, 97, 98, 99, 100, 101, 102, 103, 104, 105, 106, 107, 108, 109, 110, 111, 112, 113, 114, 115, 116, 117, 118, 119, 120, 121, 122, 123, 124, 125, 126, 127, 128, 129, 130, 131, 132, 133, 134, 135, 136, 137, 138] (by decide +kernel) (by decide +kernel)
set_option maxRecDepth 20000 in
theorem gX2_whoTold_X2_bitsFor : GoodIn wsX2_whoTold (wsV RX2 305 RX2 yX2_bitsFor wsX2_bitsFor) := goodIn_app (goodIn_of _ (by decide +kernel)) ggX2_whoTold_X2_bitsFor
theorem dX2_whoTold_0 : decode cX2_whoTold 0 = .ok (.aload_n 0, 1) := by decide +kernel
theorem dX2_whoTold_1 : decode cX2_whoTold 1 = .ok (.iload_n 1, 1) := by decide +kernel
theorem dX2_whoTold_2 : decode cX2_whoTold 2 = .ok (.invokevirtual 118, 3) := by decide +kernel
theorem dX2_whoTold_5 : decode cX2_whoTold 5 = .ok (.ifCond .ne 7, 3) := by decide +kernel
theorem dX2_whoTold_8 : decode cX2_whoTold 8 = .ok (.iconst (-1), 1) := by decide +kernel
theorem dX2_whoTold_9 : decode cX2_whoTold 9 = .ok (.goto 18, 3) := by decide +kernel
theorem dX2_whoTold_12 : decode cX2_whoTold 12 = .ok (.iload_n 2, 1) := by decide +kernel
theorem dX2_whoTold_13 : decode cX2_whoTold 13 = .ok (.iconst 0, 1) := by decide +kernel
theorem dX2_whoTold_14 : decode cX2_whoTold 14 = .ok (.iconst 1, 1) := by decide +kernel
theorem dX2_whoTold_15 : decode cX2_whoTold 15 = .ok (.invokestatic 94, 3) := by decide +kernel
theorem dX2_whoTold_18 : decode cX2_whoTold 18 = .ok (.ifCond .ne 8, 3) := by decide +kernel
theorem dX2_whoTold_21 : decode cX2_whoTold 21 = .ok (.bipush (-2), 2) := by decide +kernel
theorem dX2_whoTold_23 : decode cX2_whoTold 23 = .ok (.goto 4, 3) := by decide +kernel
theorem dX2_whoTold_26 : decode cX2_whoTold 26 = .ok (.iconst 0, 1) := by decide +kernel
theorem dX2_whoTold_27 : decode cX2_whoTold 27 = .ok (.istore_n 3, 1) := by decide +kernel
theorem dX2_whoTold_28 : decode cX2_whoTold 28 = .ok (.iload_n 3, 1) := by decide +kernel
theorem dX2_whoTold_29 : decode cX2_whoTold 29 = .ok (.ifCond .eq 9, 3) := by decide +kernel
theorem dX2_whoTold_32 : decode cX2_whoTold 32 = .ok (.aload_n 0, 1) := by decide +kernel
theorem dX2_whoTold_33 : decode cX2_whoTold 33 = .ok (.iload_n 3, 1) := by decide +kernel
theorem dX2_whoTold_34 : decode cX2_whoTold 34 = .ok (.invokevirtual 83, 3) := by decide +kernel
theorem dX2_whoTold_37 : decode cX2_whoTold 37 = .ok (.ireturn, 1) := by decide +kernel
theorem dX2_whoTold_38 : decode cX2_whoTold 38 = .ok (.aload_n 0, 1) := by decide +kernel
theorem dX2_whoTold_39 : decode cX2_whoTold 39 = .ok (.iload_n 2, 1) := by decide +kernel
theorem dX2_whoTold_40 : decode cX2_whoTold 40 = .ok (.ifCond .ne 10, 3) := by decide +kernel
theorem dX2_whoTold_43 : decode cX2_whoTold 43 = .ok (.aload_n 0, 1) := by decide +kernel
theorem dX2_whoTold_44 : decode cX2_whoTold 44 = .ok (.getfield 19, 3) := by decide +kernel
theorem dX2_whoTold_47 : decode cX2_whoTold 47 = .ok (.goto 7, 3) := by decide +kernel
theorem dX2_whoTold_50 : decode cX2_whoTold 50 = .ok (.aload_n 0, 1) := by decide +kernel
theorem dX2_whoTold_51 : decode cX2_whoTold 51 = .ok (.getfield 13, 3) := by decide +kernel
theorem dX2_whoTold_54 : decode cX2_whoTold 54 = .ok (.iload_n 1, 1) := by decide +kernel
theorem dX2_whoTold_55 : decode cX2_whoTold 55 = .ok (.invokevirtual 305, 3) := by decide +kernel
theorem dX2_whoTold_58 : decode cX2_whoTold 58 = .ok (.ireturn, 1) := by decide +kernel
set_option maxRecDepth 20000 in
theorem ggX2_row_X2_bound : GoodIn wsX2_row wsX2_bound := goodIn_r _ [6] (by decide +kernel) (by decide +kernel)
set_option maxRecDepth 20000 in
theorem gX2_row_X2_bound : GoodIn wsX2_row (va_wsS RX2 76 yX2_bound wsX2_bound) := goodIn_app (goodIn_of _ (by decide +kernel)) ggX2_row_X2_bound
set_option maxRecDepth 20000 in
theorem ggX2_row_X2_no : GoodIn wsX2_row wsX2_no := goodIn_r _ [10, 11, 12, 13, 14, 15, 16, 17, 18, 19, 20, 21, 22, 23, 24, 25, 26, 27, 28, 29, 30, 31, 32, 33, 34, 35, 36, 37, 38, 39, 40, 41, 42] (by decide +kernel) (by decide +kernel)
set_option maxRecDepth 20000 in
theorem gX2_row_X2_no : GoodIn wsX2_row (wsV RX2 83 RX2 yX2_no wsX2_no) := goodIn_app (goodIn_of _ (by decide +kernel)) ggX2_row_X2_no
theorem dX2_row_0 : decode cX2_row 0 = .ok (.iload_n 1, 1) := by decide +kernel
theorem dX2_row_1 : decode cX2_row 1 = .ok (.iconst 0, 1) := by decide +kernel
theorem dX2_row_2 : decode cX2_row 2 = .ok (.bipush 99, 2) := by decide +kernel
theorem dX2_row_4 : decode cX2_row 4 = .ok (.invokestatic 76, 3) := by decide +kernel
theorem dX2_row_7 : decode cX2_row 7 = .ok (.istore_n 2, 1) := by decide +kernel
theorem dX2_row_8 : decode cX2_row 8 = .ok (.iload_n 2, 1) := by decide +kernel
theorem dX2_row_9 : decode cX2_row 9 = .ok (.ifCond .ne 15, 3) := by decide +kernel
theorem dX2_row_12 : decode cX2_row 12 = .ok (.aload_n 0, 1) := by decide +kernel
theorem dX2_row_13 : decode cX2_row 13 = .ok (.getfield 299, 3) := by decide +kernel
theorem dX2_row_16 : decode cX2_row 16 = .ok (.bipush 16, 2) := by decide +kernel
theorem dX2_row_18 : decode cX2_row 18 = .ok (.if_icmp .ne 6, 3) := by decide +kernel
theorem dX2_row_21 : decode cX2_row 21 = .ok (.bipush (-6), 2) := by decide +kernel
theorem dX2_row_23 : decode cX2_row 23 = .ok (.istore_n 2, 1) := by decide +kernel
theorem dX2_row_24 : decode cX2_row 24 = .ok (.iload_n 2, 1) := by decide +kernel
theorem dX2_row_25 : decode cX2_row 25 = .ok (.ifCond .eq 9, 3) := by decide +kernel
theorem dX2_row_28 : decode cX2_row 28 = .ok (.aload_n 0, 1) := by decide +kernel
theorem dX2_row_29 : decode cX2_row 29 = .ok (.iload_n 2, 1) := by decide +kernel
theorem dX2_row_30 : decode cX2_row 30 = .ok (.invokevirtual 83, 3) := by decide +kernel
theorem dX2_row_33 : decode cX2_row 33 = .ok (.ireturn, 1) := by decide +kernel
theorem dX2_row_34 : decode cX2_row 34 = .ok (.aload_n 0, 1) := by decide +kernel
theorem dX2_row_35 : decode cX2_row 35 = .ok (.getfield 64, 3) := by decide +kernel
theorem dX2_row_38 : decode cX2_row 38 = .ok (.aload_n 0, 1) := by decide +kernel
theorem dX2_row_39 : decode cX2_row 39 = .ok (.getfield 299, 3) := by decide +kernel
theorem dX2_row_42 : decode cX2_row 42 = .ok (.iload_n 1, 1) := by decide +kernel
theorem dX2_row_43 : decode cX2_row 43 = .ok (.iastore, 1) := by decide +kernel
theorem dX2_row_44 : decode cX2_row 44 = .ok (.aload_n 0, 1) := by decide +kernel
theorem dX2_row_45 : decode cX2_row 45 = .ok (.dup, 1) := by decide +kernel
theorem dX2_row_46 : decode cX2_row 46 = .ok (.getfield 299, 3) := by decide +kernel
theorem dX2_row_49 : decode cX2_row 49 = .ok (.iconst 1, 1) := by decide +kernel
theorem dX2_row_50 : decode cX2_row 50 = .ok (.iadd, 1) := by decide +kernel
theorem dX2_row_51 : decode cX2_row 51 = .ok (.putfield 299, 3) := by decide +kernel
theorem dX2_row_54 : decode cX2_row 54 = .ok (.aload_n 0, 1) := by decide +kernel
theorem dX2_row_55 : decode cX2_row 55 = .ok (.getfield 299, 3) := by decide +kernel
theorem dX2_row_58 : decode cX2_row 58 = .ok (.ireturn, 1) := by decide +kernel
set_option maxRecDepth 20000 in
theorem ggX2_judge_X2_worth : GoodIn wsX2_judge wsX2_worth := goodIn_r _ [8, 9, 10, 11, 12, 13, 14, 15, 16, 17, 18, 19, 20, 21, 22, 23, 24, 25, 26, 27, 28, 29, 30, 31, 32, 33, 34, 35, 36, 37, 38, 39, 40, 41, 42] (by decide +kernel) (by decide +kernel)
set_option maxRecDepth 20000 in
theorem gX2_judge_X2_worth : GoodIn wsX2_judge (wsV RX2 179 RX2 yX2_worth wsX2_worth) := goodIn_app (goodIn_of _ (by decide +kernel)) ggX2_judge_X2_worth
theorem dX2_judge_0 : decode cX2_judge 0 = .ok (.aload_n 0, 1) := by decide +kernel
theorem dX2_judge_1 : decode cX2_judge 1 = .ok (.getfield 299, 3) := by decide +kernel
theorem dX2_judge_4 : decode cX2_judge 4 = .ok (.istore_n 1, 1) := by decide +kernel
theorem dX2_judge_5 : decode cX2_judge 5 = .ok (.aload_n 0, 1) := by decide +kernel
theorem dX2_judge_6 : decode cX2_judge 6 = .ok (.iconst 0, 1) := by decide +kernel
theorem dX2_judge_7 : decode cX2_judge 7 = .ok (.putfield 299, 3) := by decide +kernel
theorem dX2_judge_10 : decode cX2_judge 10 = .ok (.iconst 0, 1) := by decide +kernel
theorem dX2_judge_11 : decode cX2_judge 11 = .ok (.istore_n 2, 1) := by decide +kernel
theorem dX2_judge_12 : decode cX2_judge 12 = .ok (.iload_n 2, 1) := by decide +kernel
theorem dX2_judge_13 : decode cX2_judge 13 = .ok (.iload_n 1, 1) := by decide +kernel
theorem dX2_judge_14 : decode cX2_judge 14 = .ok (.if_icmp .ge 33, 3) := by decide +kernel
theorem dX2_judge_17 : decode cX2_judge 17 = .ok (.iload_n 2, 1) := by decide +kernel
theorem dX2_judge_18 : decode cX2_judge 18 = .ok (.aload_n 0, 1) := by decide +kernel
theorem dX2_judge_19 : decode cX2_judge 19 = .ok (.getfield 67, 3) := by decide +kernel
theorem dX2_judge_22 : decode cX2_judge 22 = .ok (.if_icmp .ge 17, 3) := by decide +kernel
theorem dX2_judge_25 : decode cX2_judge 25 = .ok (.aload_n 0, 1) := by decide +kernel
theorem dX2_judge_26 : decode cX2_judge 26 = .ok (.iload_n 2, 1) := by decide +kernel
theorem dX2_judge_27 : decode cX2_judge 27 = .ok (.invokevirtual 179, 3) := by decide +kernel
theorem dX2_judge_30 : decode cX2_judge 30 = .ok (.aload_n 0, 1) := by decide +kernel
theorem dX2_judge_31 : decode cX2_judge 31 = .ok (.getfield 64, 3) := by decide +kernel
theorem dX2_judge_34 : decode cX2_judge 34 = .ok (.iload_n 2, 1) := by decide +kernel
theorem dX2_judge_35 : decode cX2_judge 35 = .ok (.iaload, 1) := by decide +kernel
theorem dX2_judge_36 : decode cX2_judge 36 = .ok (.if_icmp .eq 5, 3) := by decide +kernel
theorem dX2_judge_39 : decode cX2_judge 39 = .ok (.iload_n 2, 1) := by decide +kernel
theorem dX2_judge_40 : decode cX2_judge 40 = .ok (.ireturn, 1) := by decide +kernel
theorem dX2_judge_41 : decode cX2_judge 41 = .ok (.iinc 2 1, 3) := by decide +kernel
theorem dX2_judge_44 : decode cX2_judge 44 = .ok (.goto (-32), 3) := by decide +kernel
theorem dX2_judge_47 : decode cX2_judge 47 = .ok (.bipush (-9), 2) := by decide +kernel
theorem dX2_judge_49 : decode cX2_judge 49 = .ok (.ireturn, 1) := by decide +kernel
theorem dX2_clear_0 : decode cX2_clear 0 = .ok (.aload_n 0, 1) := by decide +kernel
theorem dX2_clear_1 : decode cX2_clear 1 = .ok (.getfield 299, 3) := by decide +kernel
theorem dX2_clear_4 : decode cX2_clear 4 = .ok (.istore_n 1, 1) := by decide +kernel
theorem dX2_clear_5 : decode cX2_clear 5 = .ok (.aload_n 0, 1) := by decide +kernel
theorem dX2_clear_6 : decode cX2_clear 6 = .ok (.iconst 0, 1) := by decide +kernel
theorem dX2_clear_7 : decode cX2_clear 7 = .ok (.putfield 299, 3) := by decide +kernel
theorem dX2_clear_10 : decode cX2_clear 10 = .ok (.iload_n 1, 1) := by decide +kernel
theorem dX2_clear_11 : decode cX2_clear 11 = .ok (.ireturn, 1) := by decide +kernel
theorem dX2_draw_0 : decode cX2_draw 0 = .ok (.aload_n 0, 1) := by decide +kernel
theorem dX2_draw_1 : decode cX2_draw 1 = .ok (.aload_n 0, 1) := by decide +kernel
theorem dX2_draw_2 : decode cX2_draw 2 = .ok (.getfield 308, 3) := by decide +kernel
theorem dX2_draw_5 : decode cX2_draw 5 = .ok (.ldc_w 311, 3) := by decide +kernel
theorem dX2_draw_8 : decode cX2_draw 8 = .ok (.imul, 1) := by decide +kernel
theorem dX2_draw_9 : decode cX2_draw 9 = .ok (.ldc_w 312, 3) := by decide +kernel
theorem dX2_draw_12 : decode cX2_draw 12 = .ok (.iadd, 1) := by decide +kernel
theorem dX2_draw_13 : decode cX2_draw 13 = .ok (.putfield 308, 3) := by decide +kernel
theorem dX2_draw_16 : decode cX2_draw 16 = .ok (.aload_n 0, 1) := by decide +kernel
theorem dX2_draw_17 : decode cX2_draw 17 = .ok (.getfield 308, 3) := by decide +kernel
theorem dX2_draw_20 : decode cX2_draw 20 = .ok (.ldc_w 313, 3) := by decide +kernel
theorem dX2_draw_23 : decode cX2_draw 23 = .ok (.iand, 1) := by decide +kernel
theorem dX2_draw_24 : decode cX2_draw 24 = .ok (.sipush 256, 3) := by decide +kernel
theorem dX2_draw_27 : decode cX2_draw 27 = .ok (.idiv, 1) := by decide +kernel
theorem dX2_draw_28 : decode cX2_draw 28 = .ok (.iload_n 1, 1) := by decide +kernel
theorem dX2_draw_29 : decode cX2_draw 29 = .ok (.irem, 1) := by decide +kernel
theorem dX2_draw_30 : decode cX2_draw 30 = .ok (.ireturn, 1) := by decide +kernel
set_option maxRecDepth 20000 in
theorem ggX2_lots_X2_bound : GoodIn wsX2_lots wsX2_bound := goodIn_r _ [10] (by decide +kernel) (by decide +kernel)
set_option maxRecDepth 20000 in
theorem gX2_lots_X2_bound : GoodIn wsX2_lots (va_wsS RX2 76 yX2_bound wsX2_bound) := goodIn_app (goodIn_of _ (by decide +kernel)) ggX2_lots_X2_bound
set_option maxRecDepth 20000 in
theorem ggX2_lots_X2_isIn : GoodIn wsX2_lots wsX2_isIn := goodIn_r _ [13] (by decide +kernel) (by decide +kernel)
set_option maxRecDepth 20000 in
theorem gX2_lots_X2_isIn : GoodIn wsX2_lots (va_wsS RX2 94 yX2_isIn wsX2_isIn) := goodIn_app (goodIn_of _ (by decide +kernel)) ggX2_lots_X2_isIn
set_option maxRecDepth 20000 in
theorem ggX2_lots_X2_no : GoodIn wsX2_lots wsX2_no := goodIn_r _ [17, 18, 120, 121, 122, 123, 124, 125, 126, 127, 128, 129, 130, 131, 132, 133, 134, 135, 136, 137, 138, 139, 140, 141, 142, 143, 144, 145, 146, 147, 148, 149, 150] (by decide +kernel) (by decide +kernel)
set_option maxRecDepth 20000 in
theorem gX2_lots_X2_no : GoodIn wsX2_lots (wsV RX2 83 RX2 yX2_no wsX2_no) := goodIn_app (goodIn_of _ (by decide +kernel)) ggX2_lots_X2_no
set_option maxRecDepth 20000 in
theorem ggX2_lots_X2_thinks : GoodIn wsX2_lots wsX2_thinks := goodIn_r _ [22, 23, 24, 25, 9, 26, 27, 28, 29, 30, 31, 32, 5, 33, 34, 35, 3, 6, 4, 2, 36, 37, 38, 39, 40, 41, 42, 43, 44, 45, 120, 121, 122, 123, 124, 125, 126, 127, 128, 129, 130, 131, 132, 133, 134, 135, 136, 137, 138, 139, 140, 141, 142, 143, 144, 145, 146, 147, 148, 149, 150] (by decide +kernel) (by decide +kernel)
set_option maxRecDepth 20000 in
theorem gX2_lots_X2_thinks : GoodIn wsX2_lots (wsV RX2 235 RX2 yX2_thinks wsX2_thinks) := goodIn_app (goodIn_of _ (by decide +kernel)) ggX2_lots_X2_thinks
set_option maxRecDepth 20000 in
theorem ggX2_lots_X2_draw : GoodIn wsX2_lots wsX2_draw := goodIn_r _ [49, 1, 50, 51, 52, 120, 121, 122, 123, 124, 125, 126, 127, 128, 129, 130, 131, 132, 133, 134, 135, 136, 137, 138, 139, 140, 141, 142, 143, 144, 145, 146, 147, 148, 149, 150] (by decide +kernel) (by decide +kernel)
set_option maxRecDepth 20000 in
theorem gX2_lots_X2_draw : GoodIn wsX2_lots (wsV RX2 314 RX2 yX2_draw wsX2_draw) := goodIn_app (goodIn_of _ (by decide +kernel)) ggX2_lots_X2_draw
set_option maxRecDepth 20000 in
theorem ggX2_lots_X2_goes : GoodIn wsX2_lots wsX2_goes := goodIn_r _ [56, 57, 58, 59, 9, 60, 36, 4, 5, 33, 32, 2, 3, 61, 62, 63, 64, 65, 31, 6, 66, 67, 68, 69, 70, 71, 72, 73, 74, 75, 76, 77, 78, 79, 80, 81, 82, 83, 84, 85, 35, 34, 86, 87, 88, 89, 30, 29, 90, 91, 92, 93, 94, 95, 96, 97, 98, 99, 100, 101, 102, 103, 104, 120, 121, 122, 123, 124, 125, 126, 127, 128, 129, 130, 131, 132, 133, 134, 135, 136, 137, 138, 139, 140, 141, 142, 143, 144, 145, 146, 147, 148, 149, 150] (by decide +kernel) (by decide +kernel)
set_option maxRecDepth 20000 in
theorem gX2_lots_X2_goes : GoodIn wsX2_lots (wsV RX2 132 RX2 yX2_goes wsX2_goes) := goodIn_app (goodIn_of _ (by decide +kernel)) ggX2_lots_X2_goes
set_option maxRecDepth 20000 in
theorem ggX2_lots_X2_pile : GoodIn wsX2_lots wsX2_pile := goodIn_r _ [108, 4, 5, 120, 121, 122, 123, 124, 125, 126, 127, 128, 129, 130, 131, 132, 133, 134, 135, 136, 137, 138, 139, 140, 141, 142, 143, 144, 145, 146, 147, 148, 149, 150] (by decide +kernel) (by decide +kernel)
set_option maxRecDepth 20000 in
theorem gX2_lots_X2_pile : GoodIn wsX2_lots (wsV RX2 229 RX2 yX2_pile wsX2_pile) := goodIn_app (goodIn_of _ (by decide +kernel)) ggX2_lots_X2_pile
set_option maxRecDepth 20000 in
theorem ggX2_lots_X2_bits : GoodIn wsX2_lots wsX2_bits := goodIn_r _ [111] (by decide +kernel) (by decide +kernel)
set_option maxRecDepth 20000 in
theorem gX2_lots_X2_bits : GoodIn wsX2_lots (va_wsS RX2 232 yX2_bits wsX2_bits) := goodIn_app (goodIn_of _ (by decide +kernel)) ggX2_lots_X2_bits
set_option maxRecDepth 20000 in
theorem ggX2_lots_X2_allOf : GoodIn wsX2_lots wsX2_allOf := goodIn_r _ [115] (by decide +kernel) (by decide +kernel)
set_option maxRecDepth 20000 in
theorem gX2_lots_X2_allOf : GoodIn wsX2_lots (wsV RX2 244 RX2 yX2_allOf wsX2_allOf) := goodIn_app (goodIn_of _ (by decide +kernel)) ggX2_lots_X2_allOf
set_option maxRecDepth 20000 in
theorem ggX2_lots_X2_forgets : GoodIn wsX2_lots wsX2_forgets := goodIn_r _ [119, 23, 24, 25, 9, 26, 27, 28, 29, 30, 31, 32, 5, 33, 34, 35, 3, 6, 4, 2, 36, 37, 38, 39, 40, 41, 42, 43, 44, 45, 120, 121, 122, 123, 124, 125, 126, 127, 128, 129, 130, 131, 132, 133, 134, 135, 136, 137, 138, 139, 140, 141, 142, 143, 144, 145, 146, 147, 148, 149, 150] (by decide +kernel) (by decide +kernel)
set_option maxRecDepth 20000 in
theorem gX2_lots_X2_forgets : GoodIn wsX2_lots (wsV RX2 238 RX2 yX2_forgets wsX2_forgets) := goodIn_app (goodIn_of _ (by decide +kernel)) ggX2_lots_X2_forgets
theorem dX2_lots_0 : decode cX2_lots 0 = .ok (.iload_n 1, 1) := by decide +kernel
theorem dX2_lots_1 : decode cX2_lots 1 = .ok (.iconst 1, 1) := by decide +kernel
theorem dX2_lots_2 : decode cX2_lots 2 = .ok (.bipush 20, 2) := by decide +kernel
theorem dX2_lots_4 : decode cX2_lots 4 = .ok (.invokestatic 76, 3) := by decide +kernel
theorem dX2_lots_7 : decode cX2_lots 7 = .ok (.istore 4, 2) := by decide +kernel
theorem dX2_lots_9 : decode cX2_lots 9 = .ok (.iload 4, 2) := by decide +kernel
theorem dX2_lots_11 : decode cX2_lots 11 = .ok (.ifCond .ne 16, 3) := by decide +kernel
theorem dX2_lots_14 : decode cX2_lots 14 = .ok (.iload_n 3, 1) := by decide +kernel
theorem dX2_lots_15 : decode cX2_lots 15 = .ok (.iconst 0, 1) := by decide +kernel
theorem dX2_lots_16 : decode cX2_lots 16 = .ok (.iconst 1, 1) := by decide +kernel
theorem dX2_lots_17 : decode cX2_lots 17 = .ok (.invokestatic 94, 3) := by decide +kernel
theorem dX2_lots_20 : decode cX2_lots 20 = .ok (.ifCond .ne 7, 3) := by decide +kernel
theorem dX2_lots_23 : decode cX2_lots 23 = .ok (.bipush (-2), 2) := by decide +kernel
theorem dX2_lots_25 : decode cX2_lots 25 = .ok (.istore 4, 2) := by decide +kernel
theorem dX2_lots_27 : decode cX2_lots 27 = .ok (.iload 4, 2) := by decide +kernel
theorem dX2_lots_29 : decode cX2_lots 29 = .ok (.ifCond .eq 10, 3) := by decide +kernel
theorem dX2_lots_32 : decode cX2_lots 32 = .ok (.aload_n 0, 1) := by decide +kernel
theorem dX2_lots_33 : decode cX2_lots 33 = .ok (.iload 4, 2) := by decide +kernel
theorem dX2_lots_35 : decode cX2_lots 35 = .ok (.invokevirtual 83, 3) := by decide +kernel
theorem dX2_lots_38 : decode cX2_lots 38 = .ok (.ireturn, 1) := by decide +kernel
theorem dX2_lots_39 : decode cX2_lots 39 = .ok (.aload_n 0, 1) := by decide +kernel
theorem dX2_lots_40 : decode cX2_lots 40 = .ok (.iload_n 2, 1) := by decide +kernel
theorem dX2_lots_41 : decode cX2_lots 41 = .ok (.putfield 308, 3) := by decide +kernel
theorem dX2_lots_44 : decode cX2_lots 44 = .ok (.iconst 0, 1) := by decide +kernel
theorem dX2_lots_45 : decode cX2_lots 45 = .ok (.istore 5, 2) := by decide +kernel
theorem dX2_lots_47 : decode cX2_lots 47 = .ok (.iconst 0, 1) := by decide +kernel
theorem dX2_lots_48 : decode cX2_lots 48 = .ok (.istore 6, 2) := by decide +kernel
theorem dX2_lots_50 : decode cX2_lots 50 = .ok (.iload 6, 2) := by decide +kernel
theorem dX2_lots_52 : decode cX2_lots 52 = .ok (.iload_n 1, 1) := by decide +kernel
theorem dX2_lots_53 : decode cX2_lots 53 = .ok (.if_icmp .ge 115, 3) := by decide +kernel
theorem dX2_lots_56 : decode cX2_lots 56 = .ok (.aload_n 0, 1) := by decide +kernel
theorem dX2_lots_57 : decode cX2_lots 57 = .ok (.invokevirtual 235, 3) := by decide +kernel
theorem dX2_lots_60 : decode cX2_lots 60 = .ok (.iconst 0, 1) := by decide +kernel
theorem dX2_lots_61 : decode cX2_lots 61 = .ok (.istore 7, 2) := by decide +kernel
theorem dX2_lots_63 : decode cX2_lots 63 = .ok (.iload 7, 2) := by decide +kernel
theorem dX2_lots_65 : decode cX2_lots 65 = .ok (.aload_n 0, 1) := by decide +kernel
theorem dX2_lots_66 : decode cX2_lots 66 = .ok (.getfield 73, 3) := by decide +kernel
theorem dX2_lots_69 : decode cX2_lots 69 = .ok (.if_icmp .ge 22, 3) := by decide +kernel
theorem dX2_lots_72 : decode cX2_lots 72 = .ok (.aload_n 0, 1) := by decide +kernel
theorem dX2_lots_73 : decode cX2_lots 73 = .ok (.getfield 37, 3) := by decide +kernel
theorem dX2_lots_76 : decode cX2_lots 76 = .ok (.iload 7, 2) := by decide +kernel
theorem dX2_lots_78 : decode cX2_lots 78 = .ok (.aload_n 0, 1) := by decide +kernel
theorem dX2_lots_79 : decode cX2_lots 79 = .ok (.bipush 100, 2) := by decide +kernel
theorem dX2_lots_81 : decode cX2_lots 81 = .ok (.invokevirtual 314, 3) := by decide +kernel
theorem dX2_lots_84 : decode cX2_lots 84 = .ok (.iastore, 1) := by decide +kernel
theorem dX2_lots_85 : decode cX2_lots 85 = .ok (.iinc 7 1, 3) := by decide +kernel
theorem dX2_lots_88 : decode cX2_lots 88 = .ok (.goto (-25), 3) := by decide +kernel
theorem dX2_lots_91 : decode cX2_lots 91 = .ok (.iconst 0, 1) := by decide +kernel
theorem dX2_lots_92 : decode cX2_lots 92 = .ok (.istore 7, 2) := by decide +kernel
theorem dX2_lots_94 : decode cX2_lots 94 = .ok (.iload 7, 2) := by decide +kernel
theorem dX2_lots_96 : decode cX2_lots 96 = .ok (.aload_n 0, 1) := by decide +kernel
theorem dX2_lots_97 : decode cX2_lots 97 = .ok (.getfield 67, 3) := by decide +kernel
theorem dX2_lots_100 : decode cX2_lots 100 = .ok (.if_icmp .ge 17, 3) := by decide +kernel
theorem dX2_lots_103 : decode cX2_lots 103 = .ok (.aload_n 0, 1) := by decide +kernel
theorem dX2_lots_104 : decode cX2_lots 104 = .ok (.getfield 25, 3) := by decide +kernel
theorem dX2_lots_107 : decode cX2_lots 107 = .ok (.iload 7, 2) := by decide +kernel
theorem dX2_lots_109 : decode cX2_lots 109 = .ok (.iconst 0, 1) := by decide +kernel
theorem dX2_lots_110 : decode cX2_lots 110 = .ok (.iastore, 1) := by decide +kernel
theorem dX2_lots_111 : decode cX2_lots 111 = .ok (.iinc 7 1, 3) := by decide +kernel
theorem dX2_lots_114 : decode cX2_lots 114 = .ok (.goto (-20), 3) := by decide +kernel
theorem dX2_lots_117 : decode cX2_lots 117 = .ok (.aload_n 0, 1) := by decide +kernel
theorem dX2_lots_118 : decode cX2_lots 118 = .ok (.iconst 2, 1) := by decide +kernel
theorem dX2_lots_119 : decode cX2_lots 119 = .ok (.invokevirtual 132, 3) := by decide +kernel
theorem dX2_lots_122 : decode cX2_lots 122 = .ok (.iload 5, 2) := by decide +kernel
theorem dX2_lots_124 : decode cX2_lots 124 = .ok (.iload_n 3, 1) := by decide +kernel
theorem dX2_lots_125 : decode cX2_lots 125 = .ok (.ifCond .ne 18, 3) := by decide +kernel
theorem dX2_lots_128 : decode cX2_lots 128 = .ok (.aload_n 0, 1) := by decide +kernel
theorem dX2_lots_129 : decode cX2_lots 129 = .ok (.getfield 67, 3) := by decide +kernel
theorem dX2_lots_132 : decode cX2_lots 132 = .ok (.aload_n 0, 1) := by decide +kernel
theorem dX2_lots_133 : decode cX2_lots 133 = .ok (.invokevirtual 229, 3) := by decide +kernel
theorem dX2_lots_136 : decode cX2_lots 136 = .ok (.invokestatic 232, 3) := by decide +kernel
theorem dX2_lots_139 : decode cX2_lots 139 = .ok (.isub, 1) := by decide +kernel
theorem dX2_lots_140 : decode cX2_lots 140 = .ok (.goto 15, 3) := by decide +kernel
theorem dX2_lots_143 : decode cX2_lots 143 = .ok (.aload_n 0, 1) := by decide +kernel
theorem dX2_lots_144 : decode cX2_lots 144 = .ok (.aload_n 0, 1) := by decide +kernel
theorem dX2_lots_145 : decode cX2_lots 145 = .ok (.getfield 40, 3) := by decide +kernel
theorem dX2_lots_148 : decode cX2_lots 148 = .ok (.aload_n 0, 1) := by decide +kernel
theorem dX2_lots_149 : decode cX2_lots 149 = .ok (.getfield 73, 3) := by decide +kernel
theorem dX2_lots_152 : decode cX2_lots 152 = .ok (.invokevirtual 244, 3) := by decide +kernel
theorem dX2_lots_155 : decode cX2_lots 155 = .ok (.iadd, 1) := by decide +kernel
theorem dX2_lots_156 : decode cX2_lots 156 = .ok (.istore 5, 2) := by decide +kernel
theorem dX2_lots_158 : decode cX2_lots 158 = .ok (.aload_n 0, 1) := by decide +kernel
theorem dX2_lots_159 : decode cX2_lots 159 = .ok (.invokevirtual 238, 3) := by decide +kernel
theorem dX2_lots_162 : decode cX2_lots 162 = .ok (.iinc 6 1, 3) := by decide +kernel
theorem dX2_lots_165 : decode cX2_lots 165 = .ok (.goto (-115), 3) := by decide +kernel
theorem dX2_lots_168 : decode cX2_lots 168 = .ok (.iload 5, 2) := by decide +kernel
theorem dX2_lots_170 : decode cX2_lots 170 = .ok (.ireturn, 1) := by decide +kernel
set_option maxRecDepth 20000 in
theorem ggX2_count_X2_isIn : GoodIn wsX2_count wsX2_isIn := goodIn_r _ [11] (by decide +kernel) (by decide +kernel)
set_option maxRecDepth 20000 in
theorem gX2_count_X2_isIn : GoodIn wsX2_count (va_wsS RX2 94 yX2_isIn wsX2_isIn) := goodIn_app (goodIn_of _ (by decide +kernel)) ggX2_count_X2_isIn
set_option maxRecDepth 20000 in
theorem ggX2_count_X2_pile : GoodIn wsX2_count wsX2_pile := goodIn_r _ [15, 2, 16, 28, 29, 30, 31, 32, 33, 34, 35, 36, 37, 38, 39, 40, 41, 42, 43, 44, 45, 46, 47, 48, 49, 50, 51, 52, 53, 54, 55, 56, 57, 58] (by decide +kernel) (by decide +kernel)
set_option maxRecDepth 20000 in
theorem gX2_count_X2_pile : GoodIn wsX2_count (wsV RX2 229 RX2 yX2_pile wsX2_pile) := goodIn_app (goodIn_of _ (by decide +kernel)) ggX2_count_X2_pile
set_option maxRecDepth 20000 in
theorem ggX2_count_X2_worth : GoodIn wsX2_count wsX2_worth := goodIn_r _ [20, 21, 22, 23, 28, 29, 30, 31, 32, 33, 34, 35, 36, 37, 38, 39, 40, 41, 42, 43, 44, 45, 46, 47, 48, 49, 50, 51, 52, 53, 54, 55, 56, 57, 58] (by decide +kernel) (by decide +kernel)
set_option maxRecDepth 20000 in
theorem gX2_count_X2_worth : GoodIn wsX2_count (wsV RX2 179 RX2 yX2_worth wsX2_worth) := goodIn_app (goodIn_of _ (by decide +kernel)) ggX2_count_X2_worth
set_option maxRecDepth 20000 in
theorem ggX2_count_X2_allOf : GoodIn wsX2_count wsX2_allOf := goodIn_r _ [27] (by decide +kernel) (by decide +kernel)
set_option maxRecDepth 20000 in
theorem gX2_count_X2_allOf : GoodIn wsX2_count (wsV RX2 244 RX2 yX2_allOf wsX2_allOf) := goodIn_app (goodIn_of _ (by decide +kernel)) ggX2_count_X2_allOf
theorem dX2_count_0 : decode cX2_count 0 = .ok (.iload_n 1, 1) := by decide +kernel
theorem dX2_count_1 : decode cX2_count 1 = .ok (.bipush 11, 2) := by decide +kernel
theorem dX2_count_3 : decode cX2_count 3 = .ok (.bipush 16, 2) := by decide +kernel
theorem dX2_count_5 : decode cX2_count 5 = .ok (.invokestatic 94, 3) := by decide +kernel
theorem dX2_count_8 : decode cX2_count 8 = .ok (.ifCond .eq 13, 3) := by decide +kernel
theorem dX2_count_11 : decode cX2_count 11 = .ok (.aload_n 0, 1) := by decide +kernel
theorem dX2_count_12 : decode cX2_count 12 = .ok (.getfield 7, 3) := by decide +kernel
theorem dX2_count_15 : decode cX2_count 15 = .ok (.iload_n 1, 1) := by decide +kernel
theorem dX2_count_16 : decode cX2_count 16 = .ok (.bipush 10, 2) := by decide +kernel
theorem dX2_count_18 : decode cX2_count 18 = .ok (.isub, 1) := by decide +kernel
theorem dX2_count_19 : decode cX2_count 19 = .ok (.iaload, 1) := by decide +kernel
theorem dX2_count_20 : decode cX2_count 20 = .ok (.ireturn, 1) := by decide +kernel
theorem dX2_count_21 : decode cX2_count 21 = .ok (.iconst 0, 1) := by decide +kernel
theorem dX2_count_22 : decode cX2_count 22 = .ok (.istore_n 2, 1) := by decide +kernel
theorem dX2_count_23 : decode cX2_count 23 = .ok (.iload_n 1, 1) := by decide +kernel
theorem dX2_count_24 : decode cX2_count 24 = .ok (.tableswitch 117 0 7 #[48, 53, 58, 63, 68, 94, 107, 112], 48) := by decide +kernel
theorem dX2_count_72 : decode cX2_count 72 = .ok (.aload_n 0, 1) := by decide +kernel
theorem dX2_count_73 : decode cX2_count 73 = .ok (.getfield 67, 3) := by decide +kernel
theorem dX2_count_76 : decode cX2_count 76 = .ok (.ireturn, 1) := by decide +kernel
theorem dX2_count_77 : decode cX2_count 77 = .ok (.aload_n 0, 1) := by decide +kernel
theorem dX2_count_78 : decode cX2_count 78 = .ok (.getfield 73, 3) := by decide +kernel
theorem dX2_count_81 : decode cX2_count 81 = .ok (.ireturn, 1) := by decide +kernel
theorem dX2_count_82 : decode cX2_count 82 = .ok (.aload_n 0, 1) := by decide +kernel
theorem dX2_count_83 : decode cX2_count 83 = .ok (.getfield 129, 3) := by decide +kernel
theorem dX2_count_86 : decode cX2_count 86 = .ok (.ireturn, 1) := by decide +kernel
theorem dX2_count_87 : decode cX2_count 87 = .ok (.aload_n 0, 1) := by decide +kernel
theorem dX2_count_88 : decode cX2_count 88 = .ok (.invokevirtual 229, 3) := by decide +kernel
theorem dX2_count_91 : decode cX2_count 91 = .ok (.ireturn, 1) := by decide +kernel
theorem dX2_count_92 : decode cX2_count 92 = .ok (.iconst 0, 1) := by decide +kernel
theorem dX2_count_93 : decode cX2_count 93 = .ok (.istore_n 3, 1) := by decide +kernel
theorem dX2_count_94 : decode cX2_count 94 = .ok (.iload_n 3, 1) := by decide +kernel
theorem dX2_count_95 : decode cX2_count 95 = .ok (.aload_n 0, 1) := by decide +kernel
theorem dX2_count_96 : decode cX2_count 96 = .ok (.getfield 67, 3) := by decide +kernel
theorem dX2_count_99 : decode cX2_count 99 = .ok (.if_icmp .ge 17, 3) := by decide +kernel
theorem dX2_count_102 : decode cX2_count 102 = .ok (.iload_n 2, 1) := by decide +kernel
theorem dX2_count_103 : decode cX2_count 103 = .ok (.aload_n 0, 1) := by decide +kernel
theorem dX2_count_104 : decode cX2_count 104 = .ok (.iload_n 3, 1) := by decide +kernel
theorem dX2_count_105 : decode cX2_count 105 = .ok (.invokevirtual 179, 3) := by decide +kernel
theorem dX2_count_108 : decode cX2_count 108 = .ok (.iadd, 1) := by decide +kernel
theorem dX2_count_109 : decode cX2_count 109 = .ok (.istore_n 2, 1) := by decide +kernel
theorem dX2_count_110 : decode cX2_count 110 = .ok (.iinc 3 1, 3) := by decide +kernel
theorem dX2_count_113 : decode cX2_count 113 = .ok (.goto (-19), 3) := by decide +kernel
theorem dX2_count_116 : decode cX2_count 116 = .ok (.iload_n 2, 1) := by decide +kernel
theorem dX2_count_117 : decode cX2_count 117 = .ok (.ireturn, 1) := by decide +kernel
theorem dX2_count_118 : decode cX2_count 118 = .ok (.aload_n 0, 1) := by decide +kernel
theorem dX2_count_119 : decode cX2_count 119 = .ok (.aload_n 0, 1) := by decide +kernel
theorem dX2_count_120 : decode cX2_count 120 = .ok (.getfield 40, 3) := by decide +kernel
theorem dX2_count_123 : decode cX2_count 123 = .ok (.aload_n 0, 1) := by decide +kernel
theorem dX2_count_124 : decode cX2_count 124 = .ok (.getfield 73, 3) := by decide +kernel
theorem dX2_count_127 : decode cX2_count 127 = .ok (.invokevirtual 244, 3) := by decide +kernel
theorem dX2_count_130 : decode cX2_count 130 = .ok (.ireturn, 1) := by decide +kernel
theorem dX2_count_131 : decode cX2_count 131 = .ok (.aload_n 0, 1) := by decide +kernel
theorem dX2_count_132 : decode cX2_count 132 = .ok (.getfield 299, 3) := by decide +kernel
theorem dX2_count_135 : decode cX2_count 135 = .ok (.ireturn, 1) := by decide +kernel
theorem dX2_count_136 : decode cX2_count 136 = .ok (.aload_n 0, 1) := by decide +kernel
theorem dX2_count_137 : decode cX2_count 137 = .ok (.getfield 80, 3) := by decide +kernel
theorem dX2_count_140 : decode cX2_count 140 = .ok (.ireturn, 1) := by decide +kernel
theorem dX2_count_141 : decode cX2_count 141 = .ok (.bipush (-9), 2) := by decide +kernel
theorem dX2_count_143 : decode cX2_count 143 = .ok (.ireturn, 1) := by decide +kernel
