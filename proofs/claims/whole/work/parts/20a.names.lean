set_option maxRecDepth 20000 in
theorem ggX1_init_X0_init : GoodIn wsX1_init wsX0_init := goodIn_r _ [15, 16, 2, 3, 10, 17, 18, 19, 20, 21, 22, 23, 24, 25, 26, 27, 28, 29, 30, 31, 32, 33, 34, 35, 36, 37, 38, 39] (by decide +kernel) (by decide +kernel)
set_option maxRecDepth 20000 in
theorem gX1_init_X0_init_n9 : GoodIn wsX1_init (wsX0_init) := ggX1_init_X0_init
theorem dX1_init_0 : decode cX1_init 0 = .ok (.aload_n 0, 1) := by decide +kernel
theorem dX1_init_1 : decode cX1_init 1 = .ok (.invokespecial 1, 3) := by decide +kernel
theorem dX1_init_4 : decode cX1_init 4 = .ok (.aload_n 0, 1) := by decide +kernel
theorem dX1_init_5 : decode cX1_init 5 = .ok (.new 7, 3) := by decide +kernel
theorem dX1_init_8 : decode cX1_init 8 = .ok (.dup, 1) := by decide +kernel
theorem dX1_init_9 : decode cX1_init 9 = .ok (.invokespecial 9, 3) := by decide +kernel
theorem dX1_init_12 : decode cX1_init 12 = .ok (.putfield 10, 3) := by decide +kernel
theorem dX1_init_15 : decode cX1_init 15 = .ok (.aload_n 0, 1) := by decide +kernel
theorem dX1_init_16 : decode cX1_init 16 = .ok (.new 7, 3) := by decide +kernel
theorem dX1_init_19 : decode cX1_init 19 = .ok (.dup, 1) := by decide +kernel
theorem dX1_init_20 : decode cX1_init 20 = .ok (.invokespecial 9, 3) := by decide +kernel
theorem dX1_init_23 : decode cX1_init 23 = .ok (.putfield 16, 3) := by decide +kernel
theorem dX1_init_26 : decode cX1_init 26 = .ok (.aload_n 0, 1) := by decide +kernel
theorem dX1_init_27 : decode cX1_init 27 = .ok (.new 7, 3) := by decide +kernel
theorem dX1_init_30 : decode cX1_init 30 = .ok (.dup, 1) := by decide +kernel
theorem dX1_init_31 : decode cX1_init 31 = .ok (.invokespecial 9, 3) := by decide +kernel
theorem dX1_init_34 : decode cX1_init 34 = .ok (.putfield 19, 3) := by decide +kernel
theorem dX1_init_37 : decode cX1_init 37 = .ok (.aload_n 0, 1) := by decide +kernel
theorem dX1_init_38 : decode cX1_init 38 = .ok (.bipush 96, 2) := by decide +kernel
theorem dX1_init_40 : decode cX1_init 40 = .ok (.newarray .int, 2) := by decide +kernel
theorem dX1_init_42 : decode cX1_init 42 = .ok (.putfield 22, 3) := by decide +kernel
theorem dX1_init_45 : decode cX1_init 45 = .ok (.aload_n 0, 1) := by decide +kernel
theorem dX1_init_46 : decode cX1_init 46 = .ok (.bipush 16, 2) := by decide +kernel
theorem dX1_init_48 : decode cX1_init 48 = .ok (.newarray .int, 2) := by decide +kernel
theorem dX1_init_50 : decode cX1_init 50 = .ok (.putfield 26, 3) := by decide +kernel
theorem dX1_init_53 : decode cX1_init 53 = .ok (.aload_n 0, 1) := by decide +kernel
theorem dX1_init_54 : decode cX1_init 54 = .ok (.bipush 7, 2) := by decide +kernel
theorem dX1_init_56 : decode cX1_init 56 = .ok (.newarray .int, 2) := by decide +kernel
theorem dX1_init_58 : decode cX1_init 58 = .ok (.putfield 29, 3) := by decide +kernel
theorem dX1_init_61 : decode cX1_init 61 = .ok (.return_, 1) := by decide +kernel
set_option maxRecDepth 20000 in
theorem ggX1_letter_X1_refuse : GoodIn wsX1_letter wsX1_refuse := goodIn_r _ [7, 8, 9, 10, 6, 11, 12, 13, 14, 15, 16, 17, 18, 19, 20, 21, 22, 23] (by decide +kernel) (by decide +kernel)
set_option maxRecDepth 20000 in
theorem gX1_letter_X1_refuse : GoodIn wsX1_letter (wsV RX1 32 RX1 yX1_refuse wsX1_refuse) := goodIn_app (goodIn_of _ (by decide +kernel)) ggX1_letter_X1_refuse
set_option maxRecDepth 20000 in
theorem ggX1_letter_X1_put : GoodIn wsX1_letter wsX1_put := goodIn_r _ [14] (by decide +kernel) (by decide +kernel)
set_option maxRecDepth 20000 in
theorem gX1_letter_X1_put : GoodIn wsX1_letter (va_wsS RX1 40 yX1_put wsX1_put) := goodIn_app (goodIn_of _ (by decide +kernel)) ggX1_letter_X1_put
theorem dX1_letter_0 : decode cX1_letter 0 = .ok (.iload_n 1, 1) := by decide +kernel
theorem dX1_letter_1 : decode cX1_letter 1 = .ok (.ifCond .ge 10, 3) := by decide +kernel
theorem dX1_letter_4 : decode cX1_letter 4 = .ok (.aload_n 0, 1) := by decide +kernel
theorem dX1_letter_5 : decode cX1_letter 5 = .ok (.bipush (-4), 2) := by decide +kernel
theorem dX1_letter_7 : decode cX1_letter 7 = .ok (.invokevirtual 32, 3) := by decide +kernel
theorem dX1_letter_10 : decode cX1_letter 10 = .ok (.ireturn, 1) := by decide +kernel
theorem dX1_letter_11 : decode cX1_letter 11 = .ok (.iload_n 1, 1) := by decide +kernel
theorem dX1_letter_12 : decode cX1_letter 12 = .ok (.sipush 255, 3) := by decide +kernel
theorem dX1_letter_15 : decode cX1_letter 15 = .ok (.if_icmp .gt 12, 3) := by decide +kernel
theorem dX1_letter_18 : decode cX1_letter 18 = .ok (.aload_n 0, 1) := by decide +kernel
theorem dX1_letter_19 : decode cX1_letter 19 = .ok (.getfield 36, 3) := by decide +kernel
theorem dX1_letter_22 : decode cX1_letter 22 = .ok (.bipush 96, 2) := by decide +kernel
theorem dX1_letter_24 : decode cX1_letter 24 = .ok (.if_icmp .lt 10, 3) := by decide +kernel
theorem dX1_letter_27 : decode cX1_letter 27 = .ok (.aload_n 0, 1) := by decide +kernel
theorem dX1_letter_28 : decode cX1_letter 28 = .ok (.bipush (-6), 2) := by decide +kernel
theorem dX1_letter_30 : decode cX1_letter 30 = .ok (.invokevirtual 32, 3) := by decide +kernel
theorem dX1_letter_33 : decode cX1_letter 33 = .ok (.ireturn, 1) := by decide +kernel
theorem dX1_letter_34 : decode cX1_letter 34 = .ok (.aload_n 0, 1) := by decide +kernel
theorem dX1_letter_35 : decode cX1_letter 35 = .ok (.getfield 22, 3) := by decide +kernel
theorem dX1_letter_38 : decode cX1_letter 38 = .ok (.aload_n 0, 1) := by decide +kernel
theorem dX1_letter_39 : decode cX1_letter 39 = .ok (.getfield 36, 3) := by decide +kernel
theorem dX1_letter_42 : decode cX1_letter 42 = .ok (.iload_n 1, 1) := by decide +kernel
theorem dX1_letter_43 : decode cX1_letter 43 = .ok (.invokestatic 40, 3) := by decide +kernel
theorem dX1_letter_46 : decode cX1_letter 46 = .ok (.aload_n 0, 1) := by decide +kernel
theorem dX1_letter_47 : decode cX1_letter 47 = .ok (.dup, 1) := by decide +kernel
theorem dX1_letter_48 : decode cX1_letter 48 = .ok (.getfield 36, 3) := by decide +kernel
theorem dX1_letter_51 : decode cX1_letter 51 = .ok (.iconst 1, 1) := by decide +kernel
theorem dX1_letter_52 : decode cX1_letter 52 = .ok (.iadd, 1) := by decide +kernel
theorem dX1_letter_53 : decode cX1_letter 53 = .ok (.putfield 36, 3) := by decide +kernel
theorem dX1_letter_56 : decode cX1_letter 56 = .ok (.aload_n 0, 1) := by decide +kernel
theorem dX1_letter_57 : decode cX1_letter 57 = .ok (.getfield 36, 3) := by decide +kernel
theorem dX1_letter_60 : decode cX1_letter 60 = .ok (.ireturn, 1) := by decide +kernel
set_option maxRecDepth 20000 in
theorem ggX1_hall_X1_wrongLetter : GoodIn wsX1_hall wsX1_wrongLetter := goodIn_r _ [9, 4, 10, 11, 8, 12, 13, 14, 15, 16, 17, 18, 19, 20, 21, 22, 23, 24, 25, 26, 27, 28, 29, 30, 31, 32, 33, 34, 35, 36, 37, 38, 39, 40, 41, 42, 43, 44, 45, 46, 47, 48, 49, 50, 51, 52, 53, 54, 55, 56, 57, 58, 59, 60, 61, 62, 63, 64, 65, 66, 67, 68, 69, 70, 71, 72, 73, 74, 75, 76, 77, 78, 79, 80, 81, 82, 83, 84, 85, 86, 87, 88, 89, 90, 91, 92, 93, 94, 95, 96, 97, 98, 99, 100, 101, 102, 103, 104, 105, 106, 107, 108, 109, 110, 111, 112, 113, 114, 115, 116, 117, 118, 119, 120, 121, 122, 123, 124, 125, 126, 127, 128, 129, 130, 131, 132, 229, 230, 231, 232, 233, 234, 235, 236, 237] (by decide +kernel) (by decide +kernel)
set_option maxRecDepth 20000 in
theorem gX1_hall_X1_wrongLetter : GoodIn wsX1_hall (wsV RX1 44 RX1 yX1_wrongLetter wsX1_wrongLetter) := goodIn_app (goodIn_of _ (by decide +kernel)) ggX1_hall_X1_wrongLetter
set_option maxRecDepth 20000 in
theorem ggX1_hall_X0_become : GoodIn wsX1_hall wsX0_become := goodIn_r _ [136, 137, 138, 139, 140, 141, 142, 143, 144, 145, 146, 147, 148, 149, 150, 8, 151, 152, 89, 86, 90, 153, 154, 155, 156, 238, 239, 240, 241, 242, 243, 244, 245, 246, 247, 248, 249, 250] (by decide +kernel) (by decide +kernel)
set_option maxRecDepth 20000 in
theorem gX1_hall_X0_become_n47 : GoodIn wsX1_hall (wsX0_become) := ggX1_hall_X0_become
set_option maxRecDepth 20000 in
theorem ggX1_hall_X1_at : GoodIn wsX1_hall wsX1_at := goodIn_r _ [12] (by decide +kernel) (by decide +kernel)
set_option maxRecDepth 20000 in
theorem gX1_hall_X1_at : GoodIn wsX1_hall (va_wsS RX1 51 yX1_at wsX1_at) := goodIn_app (goodIn_of _ (by decide +kernel)) ggX1_hall_X1_at
set_option maxRecDepth 20000 in
theorem ggX1_hall_X1_comes : GoodIn wsX1_hall wsX1_comes := goodIn_r _ [160, 4, 2, 161, 162, 163, 8, 164, 10, 11, 12, 72, 73, 74, 16, 75, 76, 77, 78, 79, 18, 36, 37, 38, 39, 23, 24, 80, 14, 15, 17, 19, 20, 21, 22, 81, 82, 42, 83, 84, 85, 86, 87, 88, 89, 90, 91, 92, 93, 94, 95, 96, 97, 98, 54, 99, 100, 101, 102, 103, 104, 105, 106, 107, 108, 59, 60, 61, 109, 110, 111, 47, 112, 113, 50, 114, 115, 116, 117, 63, 64, 65, 66, 67, 68, 118, 119, 120, 121, 122, 123, 124, 125, 126, 127, 128, 129, 130, 131, 132, 165, 134, 166, 167, 137, 140, 141, 142, 143, 144, 145, 168, 169, 170, 171, 172, 138, 146, 147, 148, 149, 173, 174, 175, 176, 177, 178, 179, 180, 181, 182, 183, 184, 185, 186, 187, 188, 189, 190, 191, 192, 193, 194, 195, 196, 197, 198, 199, 139, 200, 201, 202, 203, 204, 205, 206, 207, 208, 209, 210, 211, 212, 213, 214, 215, 216, 217, 218, 219, 220, 221, 222, 223, 224, 225, 226, 227, 228, 229, 230, 231, 232, 233, 234, 235, 236, 237, 238, 239, 240, 241, 242, 243, 244, 245, 246, 247, 248, 249, 250] (by decide +kernel) (by decide +kernel)
set_option maxRecDepth 20000 in
theorem gX1_hall_X1_comes : GoodIn wsX1_hall (wsV RX1 55 RX1 yX1_comes wsX1_comes) := goodIn_app (goodIn_of _ (by decide +kernel)) ggX1_hall_X1_comes
theorem dX1_hall_0 : decode cX1_hall 0 = .ok (.aload_n 0, 1) := by decide +kernel
theorem dX1_hall_1 : decode cX1_hall 1 = .ok (.getfield 36, 3) := by decide +kernel
theorem dX1_hall_4 : decode cX1_hall 4 = .ok (.istore_n 1, 1) := by decide +kernel
theorem dX1_hall_5 : decode cX1_hall 5 = .ok (.aload_n 0, 1) := by decide +kernel
theorem dX1_hall_6 : decode cX1_hall 6 = .ok (.iconst 0, 1) := by decide +kernel
theorem dX1_hall_7 : decode cX1_hall 7 = .ok (.putfield 36, 3) := by decide +kernel
theorem dX1_hall_10 : decode cX1_hall 10 = .ok (.aload_n 0, 1) := by decide +kernel
theorem dX1_hall_11 : decode cX1_hall 11 = .ok (.iload_n 1, 1) := by decide +kernel
theorem dX1_hall_12 : decode cX1_hall 12 = .ok (.invokevirtual 44, 3) := by decide +kernel
theorem dX1_hall_15 : decode cX1_hall 15 = .ok (.istore_n 2, 1) := by decide +kernel
theorem dX1_hall_16 : decode cX1_hall 16 = .ok (.iload_n 2, 1) := by decide +kernel
theorem dX1_hall_17 : decode cX1_hall 17 = .ok (.ifCond .lt 9, 3) := by decide +kernel
theorem dX1_hall_20 : decode cX1_hall 20 = .ok (.sipush (-1000), 3) := by decide +kernel
theorem dX1_hall_23 : decode cX1_hall 23 = .ok (.iload_n 2, 1) := by decide +kernel
theorem dX1_hall_24 : decode cX1_hall 24 = .ok (.isub, 1) := by decide +kernel
theorem dX1_hall_25 : decode cX1_hall 25 = .ok (.ireturn, 1) := by decide +kernel
theorem dX1_hall_26 : decode cX1_hall 26 = .ok (.aload_n 0, 1) := by decide +kernel
theorem dX1_hall_27 : decode cX1_hall 27 = .ok (.getfield 16, 3) := by decide +kernel
theorem dX1_hall_30 : decode cX1_hall 30 = .ok (.aload_n 0, 1) := by decide +kernel
theorem dX1_hall_31 : decode cX1_hall 31 = .ok (.getfield 10, 3) := by decide +kernel
theorem dX1_hall_34 : decode cX1_hall 34 = .ok (.invokevirtual 47, 3) := by decide +kernel
theorem dX1_hall_37 : decode cX1_hall 37 = .ok (.iconst 0, 1) := by decide +kernel
theorem dX1_hall_38 : decode cX1_hall 38 = .ok (.istore_n 3, 1) := by decide +kernel
theorem dX1_hall_39 : decode cX1_hall 39 = .ok (.iconst 0, 1) := by decide +kernel
theorem dX1_hall_40 : decode cX1_hall 40 = .ok (.istore 4, 2) := by decide +kernel
theorem dX1_hall_42 : decode cX1_hall 42 = .ok (.iload 4, 2) := by decide +kernel
theorem dX1_hall_44 : decode cX1_hall 44 = .ok (.iload_n 1, 1) := by decide +kernel
theorem dX1_hall_45 : decode cX1_hall 45 = .ok (.if_icmp .ge 49, 3) := by decide +kernel
theorem dX1_hall_48 : decode cX1_hall 48 = .ok (.iload 4, 2) := by decide +kernel
theorem dX1_hall_50 : decode cX1_hall 50 = .ok (.ifCond .eq 19, 3) := by decide +kernel
theorem dX1_hall_53 : decode cX1_hall 53 = .ok (.aload_n 0, 1) := by decide +kernel
theorem dX1_hall_54 : decode cX1_hall 54 = .ok (.getfield 22, 3) := by decide +kernel
theorem dX1_hall_57 : decode cX1_hall 57 = .ok (.iload 4, 2) := by decide +kernel
theorem dX1_hall_59 : decode cX1_hall 59 = .ok (.iconst 1, 1) := by decide +kernel
theorem dX1_hall_60 : decode cX1_hall 60 = .ok (.isub, 1) := by decide +kernel
theorem dX1_hall_61 : decode cX1_hall 61 = .ok (.invokestatic 51, 3) := by decide +kernel
theorem dX1_hall_64 : decode cX1_hall 64 = .ok (.bipush 59, 2) := by decide +kernel
theorem dX1_hall_66 : decode cX1_hall 66 = .ok (.if_icmp .ne 22, 3) := by decide +kernel
theorem dX1_hall_69 : decode cX1_hall 69 = .ok (.aload_n 0, 1) := by decide +kernel
theorem dX1_hall_70 : decode cX1_hall 70 = .ok (.iload 4, 2) := by decide +kernel
theorem dX1_hall_72 : decode cX1_hall 72 = .ok (.invokevirtual 55, 3) := by decide +kernel
theorem dX1_hall_75 : decode cX1_hall 75 = .ok (.ifCond .ne 10, 3) := by decide +kernel
theorem dX1_hall_78 : decode cX1_hall 78 = .ok (.sipush (-2000), 3) := by decide +kernel
theorem dX1_hall_81 : decode cX1_hall 81 = .ok (.iload 4, 2) := by decide +kernel
theorem dX1_hall_83 : decode cX1_hall 83 = .ok (.isub, 1) := by decide +kernel
theorem dX1_hall_84 : decode cX1_hall 84 = .ok (.ireturn, 1) := by decide +kernel
theorem dX1_hall_85 : decode cX1_hall 85 = .ok (.iinc 3 1, 3) := by decide +kernel
theorem dX1_hall_88 : decode cX1_hall 88 = .ok (.iinc 4 1, 3) := by decide +kernel
theorem dX1_hall_91 : decode cX1_hall 91 = .ok (.goto (-49), 3) := by decide +kernel
theorem dX1_hall_94 : decode cX1_hall 94 = .ok (.aload_n 0, 1) := by decide +kernel
theorem dX1_hall_95 : decode cX1_hall 95 = .ok (.getfield 10, 3) := by decide +kernel
theorem dX1_hall_98 : decode cX1_hall 98 = .ok (.aload_n 0, 1) := by decide +kernel
theorem dX1_hall_99 : decode cX1_hall 99 = .ok (.getfield 16, 3) := by decide +kernel
theorem dX1_hall_102 : decode cX1_hall 102 = .ok (.invokevirtual 47, 3) := by decide +kernel
theorem dX1_hall_105 : decode cX1_hall 105 = .ok (.iload_n 3, 1) := by decide +kernel
theorem dX1_hall_106 : decode cX1_hall 106 = .ok (.ireturn, 1) := by decide +kernel
set_option maxRecDepth 20000 in
theorem ggX1_pays_X0_hasBidder : GoodIn wsX1_pays wsX0_hasBidder := goodIn_r _ [5, 6, 31, 32, 33, 34, 35, 36, 37, 38, 39, 40, 41, 42, 43] (by decide +kernel) (by decide +kernel)
set_option maxRecDepth 20000 in
theorem gX1_pays_X0_hasBidder_n59 : GoodIn wsX1_pays (wsX0_hasBidder) := ggX1_pays_X0_hasBidder
set_option maxRecDepth 20000 in
theorem ggX1_pays_X1_refuse : GoodIn wsX1_pays wsX1_refuse := goodIn_r _ [11, 12, 13, 14, 10, 15, 16, 17, 18, 22, 23, 24, 25, 26, 27, 28, 29, 30] (by decide +kernel) (by decide +kernel)
set_option maxRecDepth 20000 in
theorem gX1_pays_X1_refuse : GoodIn wsX1_pays (wsV RX1 32 RX1 yX1_refuse wsX1_refuse) := goodIn_app (goodIn_of _ (by decide +kernel)) ggX1_pays_X1_refuse
set_option maxRecDepth 20000 in
theorem ggX1_pays_X1_beyond : GoodIn wsX1_pays wsX1_beyond := goodIn_r _ [21] (by decide +kernel) (by decide +kernel)
set_option maxRecDepth 20000 in
theorem gX1_pays_X1_beyond : GoodIn wsX1_pays (va_wsS RX1 62 yX1_beyond wsX1_beyond) := goodIn_app (goodIn_of _ (by decide +kernel)) ggX1_pays_X1_beyond
set_option maxRecDepth 20000 in
theorem ggX1_pays_X1_at : GoodIn wsX1_pays wsX1_at := goodIn_r _ [15] (by decide +kernel) (by decide +kernel)
set_option maxRecDepth 20000 in
theorem gX1_pays_X1_at : GoodIn wsX1_pays (va_wsS RX1 51 yX1_at wsX1_at) := goodIn_app (goodIn_of _ (by decide +kernel)) ggX1_pays_X1_at
set_option maxRecDepth 20000 in
theorem ggX1_pays_X1_put : GoodIn wsX1_pays wsX1_put := goodIn_r _ [18] (by decide +kernel) (by decide +kernel)
set_option maxRecDepth 20000 in
theorem gX1_pays_X1_put : GoodIn wsX1_pays (va_wsS RX1 40 yX1_put wsX1_put) := goodIn_app (goodIn_of _ (by decide +kernel)) ggX1_pays_X1_put
theorem dX1_pays_0 : decode cX1_pays 0 = .ok (.aload_n 0, 1) := by decide +kernel
theorem dX1_pays_1 : decode cX1_pays 1 = .ok (.getfield 10, 3) := by decide +kernel
theorem dX1_pays_4 : decode cX1_pays 4 = .ok (.iload_n 1, 1) := by decide +kernel
theorem dX1_pays_5 : decode cX1_pays 5 = .ok (.invokevirtual 59, 3) := by decide +kernel
theorem dX1_pays_8 : decode cX1_pays 8 = .ok (.ifCond .ne 9, 3) := by decide +kernel
theorem dX1_pays_11 : decode cX1_pays 11 = .ok (.aload_n 0, 1) := by decide +kernel
theorem dX1_pays_12 : decode cX1_pays 12 = .ok (.iconst (-1), 1) := by decide +kernel
theorem dX1_pays_13 : decode cX1_pays 13 = .ok (.invokevirtual 32, 3) := by decide +kernel
theorem dX1_pays_16 : decode cX1_pays 16 = .ok (.ireturn, 1) := by decide +kernel
theorem dX1_pays_17 : decode cX1_pays 17 = .ok (.iload_n 2, 1) := by decide +kernel
theorem dX1_pays_18 : decode cX1_pays 18 = .ok (.iconst 0, 1) := by decide +kernel
theorem dX1_pays_19 : decode cX1_pays 19 = .ok (.sipush 999, 3) := by decide +kernel
theorem dX1_pays_22 : decode cX1_pays 22 = .ok (.invokestatic 62, 3) := by decide +kernel
theorem dX1_pays_25 : decode cX1_pays 25 = .ok (.istore_n 3, 1) := by decide +kernel
theorem dX1_pays_26 : decode cX1_pays 26 = .ok (.iload_n 3, 1) := by decide +kernel
theorem dX1_pays_27 : decode cX1_pays 27 = .ok (.ifCond .eq 9, 3) := by decide +kernel
theorem dX1_pays_30 : decode cX1_pays 30 = .ok (.aload_n 0, 1) := by decide +kernel
theorem dX1_pays_31 : decode cX1_pays 31 = .ok (.iload_n 3, 1) := by decide +kernel
theorem dX1_pays_32 : decode cX1_pays 32 = .ok (.invokevirtual 32, 3) := by decide +kernel
theorem dX1_pays_35 : decode cX1_pays 35 = .ok (.ireturn, 1) := by decide +kernel
theorem dX1_pays_36 : decode cX1_pays 36 = .ok (.aload_n 0, 1) := by decide +kernel
theorem dX1_pays_37 : decode cX1_pays 37 = .ok (.getfield 10, 3) := by decide +kernel
theorem dX1_pays_40 : decode cX1_pays 40 = .ok (.getfield 66, 3) := by decide +kernel
theorem dX1_pays_43 : decode cX1_pays 43 = .ok (.iload_n 1, 1) := by decide +kernel
theorem dX1_pays_44 : decode cX1_pays 44 = .ok (.invokestatic 51, 3) := by decide +kernel
theorem dX1_pays_47 : decode cX1_pays 47 = .ok (.istore 4, 2) := by decide +kernel
theorem dX1_pays_49 : decode cX1_pays 49 = .ok (.aload_n 0, 1) := by decide +kernel
theorem dX1_pays_50 : decode cX1_pays 50 = .ok (.getfield 10, 3) := by decide +kernel
theorem dX1_pays_53 : decode cX1_pays 53 = .ok (.getfield 66, 3) := by decide +kernel
theorem dX1_pays_56 : decode cX1_pays 56 = .ok (.iload_n 1, 1) := by decide +kernel
theorem dX1_pays_57 : decode cX1_pays 57 = .ok (.iload_n 2, 1) := by decide +kernel
theorem dX1_pays_58 : decode cX1_pays 58 = .ok (.invokestatic 40, 3) := by decide +kernel
theorem dX1_pays_61 : decode cX1_pays 61 = .ok (.iload 4, 2) := by decide +kernel
theorem dX1_pays_63 : decode cX1_pays 63 = .ok (.ireturn, 1) := by decide +kernel
set_option maxRecDepth 20000 in
theorem ggX1_returns_X0_hasCard : GoodIn wsX1_returns wsX0_hasCard := goodIn_r _ [5, 6, 33, 34, 35, 36, 37, 38, 39, 40, 41, 42, 43, 44, 45] (by decide +kernel) (by decide +kernel)
set_option maxRecDepth 20000 in
theorem gX1_returns_X0_hasCard_n69 : GoodIn wsX1_returns (wsX0_hasCard) := ggX1_returns_X0_hasCard
set_option maxRecDepth 20000 in
theorem ggX1_returns_X1_refuse : GoodIn wsX1_returns wsX1_refuse := goodIn_r _ [11, 12, 13, 14, 10, 15, 16, 17, 18, 24, 25, 26, 27, 28, 29, 30, 31, 32] (by decide +kernel) (by decide +kernel)
set_option maxRecDepth 20000 in
theorem gX1_returns_X1_refuse : GoodIn wsX1_returns (wsV RX1 32 RX1 yX1_refuse wsX1_refuse) := goodIn_app (goodIn_of _ (by decide +kernel)) ggX1_returns_X1_refuse
set_option maxRecDepth 20000 in
theorem ggX1_returns_X0_inPile : GoodIn wsX1_returns wsX0_inPile := goodIn_r _ [21, 22, 23, 2, 4, 3, 5, 6, 14, 10, 15, 33, 34, 35, 36, 37, 38, 39, 40, 41, 42, 43, 44, 45] (by decide +kernel) (by decide +kernel)
set_option maxRecDepth 20000 in
theorem gX1_returns_X0_inPile_n72 : GoodIn wsX1_returns (wsX0_inPile) := ggX1_returns_X0_inPile
set_option maxRecDepth 20000 in
theorem ggX1_returns_X1_at : GoodIn wsX1_returns wsX1_at := goodIn_r _ [15] (by decide +kernel) (by decide +kernel)
set_option maxRecDepth 20000 in
theorem gX1_returns_X1_at : GoodIn wsX1_returns (va_wsS RX1 51 yX1_at wsX1_at) := goodIn_app (goodIn_of _ (by decide +kernel)) ggX1_returns_X1_at
set_option maxRecDepth 20000 in
theorem ggX1_returns_X1_put : GoodIn wsX1_returns wsX1_put := goodIn_r _ [18] (by decide +kernel) (by decide +kernel)
set_option maxRecDepth 20000 in
theorem gX1_returns_X1_put : GoodIn wsX1_returns (va_wsS RX1 40 yX1_put wsX1_put) := goodIn_app (goodIn_of _ (by decide +kernel)) ggX1_returns_X1_put
theorem dX1_returns_0 : decode cX1_returns 0 = .ok (.aload_n 0, 1) := by decide +kernel
theorem dX1_returns_1 : decode cX1_returns 1 = .ok (.getfield 10, 3) := by decide +kernel
theorem dX1_returns_4 : decode cX1_returns 4 = .ok (.iload_n 1, 1) := by decide +kernel
theorem dX1_returns_5 : decode cX1_returns 5 = .ok (.invokevirtual 69, 3) := by decide +kernel
theorem dX1_returns_8 : decode cX1_returns 8 = .ok (.ifCond .ne 9, 3) := by decide +kernel
theorem dX1_returns_11 : decode cX1_returns 11 = .ok (.aload_n 0, 1) := by decide +kernel
theorem dX1_returns_12 : decode cX1_returns 12 = .ok (.iconst (-1), 1) := by decide +kernel
theorem dX1_returns_13 : decode cX1_returns 13 = .ok (.invokevirtual 32, 3) := by decide +kernel
theorem dX1_returns_16 : decode cX1_returns 16 = .ok (.ireturn, 1) := by decide +kernel
theorem dX1_returns_17 : decode cX1_returns 17 = .ok (.aload_n 0, 1) := by decide +kernel
theorem dX1_returns_18 : decode cX1_returns 18 = .ok (.getfield 10, 3) := by decide +kernel
theorem dX1_returns_21 : decode cX1_returns 21 = .ok (.iload_n 1, 1) := by decide +kernel
theorem dX1_returns_22 : decode cX1_returns 22 = .ok (.invokevirtual 72, 3) := by decide +kernel
theorem dX1_returns_25 : decode cX1_returns 25 = .ok (.ifCond .eq 10, 3) := by decide +kernel
theorem dX1_returns_28 : decode cX1_returns 28 = .ok (.aload_n 0, 1) := by decide +kernel
theorem dX1_returns_29 : decode cX1_returns 29 = .ok (.bipush (-3), 2) := by decide +kernel
theorem dX1_returns_31 : decode cX1_returns 31 = .ok (.invokevirtual 32, 3) := by decide +kernel
theorem dX1_returns_34 : decode cX1_returns 34 = .ok (.ireturn, 1) := by decide +kernel
theorem dX1_returns_35 : decode cX1_returns 35 = .ok (.aload_n 0, 1) := by decide +kernel
theorem dX1_returns_36 : decode cX1_returns 36 = .ok (.getfield 10, 3) := by decide +kernel
theorem dX1_returns_39 : decode cX1_returns 39 = .ok (.getfield 75, 3) := by decide +kernel
theorem dX1_returns_42 : decode cX1_returns 42 = .ok (.iload_n 1, 1) := by decide +kernel
theorem dX1_returns_43 : decode cX1_returns 43 = .ok (.invokestatic 51, 3) := by decide +kernel
theorem dX1_returns_46 : decode cX1_returns 46 = .ok (.istore_n 2, 1) := by decide +kernel
theorem dX1_returns_47 : decode cX1_returns 47 = .ok (.aload_n 0, 1) := by decide +kernel
theorem dX1_returns_48 : decode cX1_returns 48 = .ok (.getfield 10, 3) := by decide +kernel
theorem dX1_returns_51 : decode cX1_returns 51 = .ok (.getfield 75, 3) := by decide +kernel
theorem dX1_returns_54 : decode cX1_returns 54 = .ok (.iload_n 1, 1) := by decide +kernel
theorem dX1_returns_55 : decode cX1_returns 55 = .ok (.bipush (-9), 2) := by decide +kernel
theorem dX1_returns_57 : decode cX1_returns 57 = .ok (.invokestatic 40, 3) := by decide +kernel
theorem dX1_returns_60 : decode cX1_returns 60 = .ok (.iload_n 2, 1) := by decide +kernel
theorem dX1_returns_61 : decode cX1_returns 61 = .ok (.ireturn, 1) := by decide +kernel
set_option maxRecDepth 20000 in
theorem ggX1_gives_X0_hasCard : GoodIn wsX1_gives wsX0_hasCard := goodIn_r _ [5, 6, 32, 33, 34, 35, 36, 37, 38, 39, 40, 41, 42, 43, 44] (by decide +kernel) (by decide +kernel)
set_option maxRecDepth 20000 in
theorem gX1_gives_X0_hasCard_n69 : GoodIn wsX1_gives (wsX0_hasCard) := ggX1_gives_X0_hasCard
set_option maxRecDepth 20000 in
theorem ggX1_gives_X0_hasBidder : GoodIn wsX1_gives wsX0_hasBidder := goodIn_r _ [9, 10, 32, 33, 34, 35, 36, 37, 38, 39, 40, 41, 42, 43, 44] (by decide +kernel) (by decide +kernel)
set_option maxRecDepth 20000 in
theorem gX1_gives_X0_hasBidder_n59 : GoodIn wsX1_gives (wsX0_hasBidder) := ggX1_gives_X0_hasBidder
set_option maxRecDepth 20000 in
theorem ggX1_gives_X1_refuse : GoodIn wsX1_gives wsX1_refuse := goodIn_r _ [15, 16, 17, 18, 14, 19, 20, 21, 22, 23, 24, 25, 26, 27, 28, 29, 30, 31] (by decide +kernel) (by decide +kernel)
set_option maxRecDepth 20000 in
theorem gX1_gives_X1_refuse : GoodIn wsX1_gives (wsV RX1 32 RX1 yX1_refuse wsX1_refuse) := goodIn_app (goodIn_of _ (by decide +kernel)) ggX1_gives_X1_refuse
set_option maxRecDepth 20000 in
theorem ggX1_gives_X1_at : GoodIn wsX1_gives wsX1_at := goodIn_r _ [19] (by decide +kernel) (by decide +kernel)
set_option maxRecDepth 20000 in
theorem gX1_gives_X1_at : GoodIn wsX1_gives (va_wsS RX1 51 yX1_at wsX1_at) := goodIn_app (goodIn_of _ (by decide +kernel)) ggX1_gives_X1_at
set_option maxRecDepth 20000 in
theorem ggX1_gives_X1_put : GoodIn wsX1_gives wsX1_put := goodIn_r _ [22] (by decide +kernel) (by decide +kernel)
set_option maxRecDepth 20000 in
theorem gX1_gives_X1_put : GoodIn wsX1_gives (va_wsS RX1 40 yX1_put wsX1_put) := goodIn_app (goodIn_of _ (by decide +kernel)) ggX1_gives_X1_put
theorem dX1_gives_0 : decode cX1_gives 0 = .ok (.aload_n 0, 1) := by decide +kernel
theorem dX1_gives_1 : decode cX1_gives 1 = .ok (.getfield 10, 3) := by decide +kernel
theorem dX1_gives_4 : decode cX1_gives 4 = .ok (.iload_n 1, 1) := by decide +kernel
theorem dX1_gives_5 : decode cX1_gives 5 = .ok (.invokevirtual 69, 3) := by decide +kernel
theorem dX1_gives_8 : decode cX1_gives 8 = .ok (.ifCond .eq 14, 3) := by decide +kernel
theorem dX1_gives_11 : decode cX1_gives 11 = .ok (.aload_n 0, 1) := by decide +kernel
theorem dX1_gives_12 : decode cX1_gives 12 = .ok (.getfield 10, 3) := by decide +kernel
theorem dX1_gives_15 : decode cX1_gives 15 = .ok (.iload_n 2, 1) := by decide +kernel
theorem dX1_gives_16 : decode cX1_gives 16 = .ok (.invokevirtual 59, 3) := by decide +kernel
theorem dX1_gives_19 : decode cX1_gives 19 = .ok (.ifCond .ne 9, 3) := by decide +kernel
theorem dX1_gives_22 : decode cX1_gives 22 = .ok (.aload_n 0, 1) := by decide +kernel
theorem dX1_gives_23 : decode cX1_gives 23 = .ok (.iconst (-1), 1) := by decide +kernel
theorem dX1_gives_24 : decode cX1_gives 24 = .ok (.invokevirtual 32, 3) := by decide +kernel
theorem dX1_gives_27 : decode cX1_gives 27 = .ok (.ireturn, 1) := by decide +kernel
theorem dX1_gives_28 : decode cX1_gives 28 = .ok (.aload_n 0, 1) := by decide +kernel
theorem dX1_gives_29 : decode cX1_gives 29 = .ok (.getfield 10, 3) := by decide +kernel
theorem dX1_gives_32 : decode cX1_gives 32 = .ok (.getfield 75, 3) := by decide +kernel
theorem dX1_gives_35 : decode cX1_gives 35 = .ok (.iload_n 1, 1) := by decide +kernel
theorem dX1_gives_36 : decode cX1_gives 36 = .ok (.invokestatic 51, 3) := by decide +kernel
theorem dX1_gives_39 : decode cX1_gives 39 = .ok (.istore_n 3, 1) := by decide +kernel
theorem dX1_gives_40 : decode cX1_gives 40 = .ok (.aload_n 0, 1) := by decide +kernel
theorem dX1_gives_41 : decode cX1_gives 41 = .ok (.getfield 10, 3) := by decide +kernel
theorem dX1_gives_44 : decode cX1_gives 44 = .ok (.getfield 75, 3) := by decide +kernel
theorem dX1_gives_47 : decode cX1_gives 47 = .ok (.iload_n 1, 1) := by decide +kernel
theorem dX1_gives_48 : decode cX1_gives 48 = .ok (.iload_n 2, 1) := by decide +kernel
theorem dX1_gives_49 : decode cX1_gives 49 = .ok (.invokestatic 40, 3) := by decide +kernel
theorem dX1_gives_52 : decode cX1_gives 52 = .ok (.iload_n 3, 1) := by decide +kernel
theorem dX1_gives_53 : decode cX1_gives 53 = .ok (.ireturn, 1) := by decide +kernel
set_option maxRecDepth 20000 in
theorem ggX1_swaps_X0_changePlaces : GoodIn wsX1_swaps wsX0_changePlaces := goodIn_r _ [5, 6, 7, 8, 9, 3, 10, 11, 12, 13, 14, 15, 16, 17, 18, 19, 20, 37, 38, 39, 40, 41, 42, 43, 44, 45, 46, 47, 48, 49] (by decide +kernel) (by decide +kernel)
set_option maxRecDepth 20000 in
theorem gX1_swaps_X0_changePlaces_n78 : GoodIn wsX1_swaps (wsX0_changePlaces) := ggX1_swaps_X0_changePlaces
set_option maxRecDepth 20000 in
theorem ggX1_swaps_X1_refuse : GoodIn wsX1_swaps wsX1_refuse := goodIn_r _ [24, 25, 26, 16, 17, 18, 27, 19, 20, 28, 29, 30, 31, 32, 33, 34, 35, 36] (by decide +kernel) (by decide +kernel)
set_option maxRecDepth 20000 in
theorem gX1_swaps_X1_refuse : GoodIn wsX1_swaps (wsV RX1 32 RX1 yX1_refuse wsX1_refuse) := goodIn_app (goodIn_of _ (by decide +kernel)) ggX1_swaps_X1_refuse
set_option maxRecDepth 20000 in
theorem ggX1_swaps_X0_placeOf : GoodIn wsX1_swaps wsX0_placeOf := goodIn_r _ [15, 11, 6, 16, 17, 18, 37, 38, 39, 40, 41, 42, 43, 44, 45, 46, 47, 48, 49] (by decide +kernel) (by decide +kernel)
set_option maxRecDepth 20000 in
theorem gX1_swaps_X0_placeOf_n82 : GoodIn wsX1_swaps (wsX0_placeOf) := ggX1_swaps_X0_placeOf
theorem dX1_swaps_0 : decode cX1_swaps 0 = .ok (.aload_n 0, 1) := by decide +kernel
theorem dX1_swaps_1 : decode cX1_swaps 1 = .ok (.getfield 10, 3) := by decide +kernel
theorem dX1_swaps_4 : decode cX1_swaps 4 = .ok (.iload_n 1, 1) := by decide +kernel
theorem dX1_swaps_5 : decode cX1_swaps 5 = .ok (.iload_n 2, 1) := by decide +kernel
theorem dX1_swaps_6 : decode cX1_swaps 6 = .ok (.invokevirtual 78, 3) := by decide +kernel
theorem dX1_swaps_9 : decode cX1_swaps 9 = .ok (.ifCond .ne 9, 3) := by decide +kernel
theorem dX1_swaps_12 : decode cX1_swaps 12 = .ok (.aload_n 0, 1) := by decide +kernel
theorem dX1_swaps_13 : decode cX1_swaps 13 = .ok (.iconst (-1), 1) := by decide +kernel
theorem dX1_swaps_14 : decode cX1_swaps 14 = .ok (.invokevirtual 32, 3) := by decide +kernel
theorem dX1_swaps_17 : decode cX1_swaps 17 = .ok (.ireturn, 1) := by decide +kernel
theorem dX1_swaps_18 : decode cX1_swaps 18 = .ok (.aload_n 0, 1) := by decide +kernel
theorem dX1_swaps_19 : decode cX1_swaps 19 = .ok (.getfield 10, 3) := by decide +kernel
theorem dX1_swaps_22 : decode cX1_swaps 22 = .ok (.iload_n 1, 1) := by decide +kernel
theorem dX1_swaps_23 : decode cX1_swaps 23 = .ok (.invokevirtual 82, 3) := by decide +kernel
theorem dX1_swaps_26 : decode cX1_swaps 26 = .ok (.ireturn, 1) := by decide +kernel
set_option maxRecDepth 20000 in
theorem ggX1_sells_X0_hasCard : GoodIn wsX1_sells wsX0_hasCard := goodIn_r _ [5, 6, 68, 69, 70, 71, 72, 73, 74, 75, 76, 77, 78, 79, 80] (by decide +kernel) (by decide +kernel)
set_option maxRecDepth 20000 in
theorem gX1_sells_X0_hasCard_n69 : GoodIn wsX1_sells (wsX0_hasCard) := ggX1_sells_X0_hasCard
set_option maxRecDepth 20000 in
theorem ggX1_sells_X1_refuse : GoodIn wsX1_sells wsX1_refuse := goodIn_r _ [11, 12, 13, 14, 10, 15, 16, 17, 18, 59, 60, 61, 62, 63, 64, 65, 66, 67] (by decide +kernel) (by decide +kernel)
set_option maxRecDepth 20000 in
theorem gX1_sells_X1_refuse : GoodIn wsX1_sells (wsV RX1 32 RX1 yX1_refuse wsX1_refuse) := goodIn_app (goodIn_of _ (by decide +kernel)) ggX1_sells_X1_refuse
set_option maxRecDepth 20000 in
theorem ggX1_sells_X0_inPile : GoodIn wsX1_sells wsX0_inPile := goodIn_r _ [21, 22, 23, 2, 4, 3, 5, 6, 14, 10, 15, 68, 69, 70, 71, 72, 73, 74, 75, 76, 77, 78, 79, 80] (by decide +kernel) (by decide +kernel)
set_option maxRecDepth 20000 in
theorem gX1_sells_X0_inPile_n72 : GoodIn wsX1_sells (wsX0_inPile) := ggX1_sells_X0_inPile
set_option maxRecDepth 20000 in
theorem ggX1_sells_X0_auction : GoodIn wsX1_sells wsX0_auction := goodIn_r _ [26, 27, 22, 28, 29, 30, 31, 32, 33, 34, 35, 36, 37, 38, 39, 3, 40, 41, 42, 43, 44, 45, 46, 47, 48, 14, 10, 15, 49, 50, 51, 52, 53, 54, 55, 56, 57, 58, 17, 18, 68, 69, 70, 71, 72, 73, 74, 75, 76, 77, 78, 79, 80] (by decide +kernel) (by decide +kernel)
set_option maxRecDepth 20000 in
theorem gX1_sells_X0_auction_n85 : GoodIn wsX1_sells (wsX0_auction) := ggX1_sells_X0_auction
set_option maxRecDepth 20000 in
theorem ggX1_sells_X1_at : GoodIn wsX1_sells wsX1_at := goodIn_r _ [15] (by decide +kernel) (by decide +kernel)
set_option maxRecDepth 20000 in
theorem gX1_sells_X1_at : GoodIn wsX1_sells (va_wsS RX1 51 yX1_at wsX1_at) := goodIn_app (goodIn_of _ (by decide +kernel)) ggX1_sells_X1_at
theorem dX1_sells_0 : decode cX1_sells 0 = .ok (.aload_n 0, 1) := by decide +kernel
theorem dX1_sells_1 : decode cX1_sells 1 = .ok (.getfield 10, 3) := by decide +kernel
theorem dX1_sells_4 : decode cX1_sells 4 = .ok (.iload_n 1, 1) := by decide +kernel
theorem dX1_sells_5 : decode cX1_sells 5 = .ok (.invokevirtual 69, 3) := by decide +kernel
theorem dX1_sells_8 : decode cX1_sells 8 = .ok (.ifCond .ne 9, 3) := by decide +kernel
theorem dX1_sells_11 : decode cX1_sells 11 = .ok (.aload_n 0, 1) := by decide +kernel
theorem dX1_sells_12 : decode cX1_sells 12 = .ok (.iconst (-1), 1) := by decide +kernel
theorem dX1_sells_13 : decode cX1_sells 13 = .ok (.invokevirtual 32, 3) := by decide +kernel
theorem dX1_sells_16 : decode cX1_sells 16 = .ok (.ireturn, 1) := by decide +kernel
theorem dX1_sells_17 : decode cX1_sells 17 = .ok (.aload_n 0, 1) := by decide +kernel
theorem dX1_sells_18 : decode cX1_sells 18 = .ok (.getfield 10, 3) := by decide +kernel
theorem dX1_sells_21 : decode cX1_sells 21 = .ok (.iload_n 1, 1) := by decide +kernel
theorem dX1_sells_22 : decode cX1_sells 22 = .ok (.invokevirtual 72, 3) := by decide +kernel
theorem dX1_sells_25 : decode cX1_sells 25 = .ok (.ifCond .ne 10, 3) := by decide +kernel
theorem dX1_sells_28 : decode cX1_sells 28 = .ok (.aload_n 0, 1) := by decide +kernel
theorem dX1_sells_29 : decode cX1_sells 29 = .ok (.bipush (-3), 2) := by decide +kernel
theorem dX1_sells_31 : decode cX1_sells 31 = .ok (.invokevirtual 32, 3) := by decide +kernel
theorem dX1_sells_34 : decode cX1_sells 34 = .ok (.ireturn, 1) := by decide +kernel
theorem dX1_sells_35 : decode cX1_sells 35 = .ok (.aload_n 0, 1) := by decide +kernel
theorem dX1_sells_36 : decode cX1_sells 36 = .ok (.getfield 10, 3) := by decide +kernel
theorem dX1_sells_39 : decode cX1_sells 39 = .ok (.iload_n 1, 1) := by decide +kernel
theorem dX1_sells_40 : decode cX1_sells 40 = .ok (.invokevirtual 85, 3) := by decide +kernel
theorem dX1_sells_43 : decode cX1_sells 43 = .ok (.pop, 1) := by decide +kernel
theorem dX1_sells_44 : decode cX1_sells 44 = .ok (.aload_n 0, 1) := by decide +kernel
theorem dX1_sells_45 : decode cX1_sells 45 = .ok (.getfield 10, 3) := by decide +kernel
theorem dX1_sells_48 : decode cX1_sells 48 = .ok (.getfield 75, 3) := by decide +kernel
theorem dX1_sells_51 : decode cX1_sells 51 = .ok (.iload_n 1, 1) := by decide +kernel
theorem dX1_sells_52 : decode cX1_sells 52 = .ok (.invokestatic 51, 3) := by decide +kernel
theorem dX1_sells_55 : decode cX1_sells 55 = .ok (.ireturn, 1) := by decide +kernel
set_option maxRecDepth 20000 in
theorem ggX1_turn_X0_hasBidder : GoodIn wsX1_turn wsX0_hasBidder := goodIn_r _ [5, 6, 31, 32, 33, 34, 35, 36, 37, 38, 39, 40, 41, 42, 43] (by decide +kernel) (by decide +kernel)
set_option maxRecDepth 20000 in
theorem gX1_turn_X0_hasBidder_n59 : GoodIn wsX1_turn (wsX0_hasBidder) := ggX1_turn_X0_hasBidder
set_option maxRecDepth 20000 in
theorem ggX1_turn_X1_refuse : GoodIn wsX1_turn wsX1_refuse := goodIn_r _ [11, 12, 13, 14, 10, 15, 16, 17, 18, 22, 23, 24, 25, 26, 27, 28, 29, 30] (by decide +kernel) (by decide +kernel)
set_option maxRecDepth 20000 in
theorem gX1_turn_X1_refuse : GoodIn wsX1_turn (wsV RX1 32 RX1 yX1_refuse wsX1_refuse) := goodIn_app (goodIn_of _ (by decide +kernel)) ggX1_turn_X1_refuse
set_option maxRecDepth 20000 in
theorem ggX1_turn_X1_beyond : GoodIn wsX1_turn wsX1_beyond := goodIn_r _ [21] (by decide +kernel) (by decide +kernel)
set_option maxRecDepth 20000 in
theorem gX1_turn_X1_beyond : GoodIn wsX1_turn (va_wsS RX1 62 yX1_beyond wsX1_beyond) := goodIn_app (goodIn_of _ (by decide +kernel)) ggX1_turn_X1_beyond
set_option maxRecDepth 20000 in
theorem ggX1_turn_X1_at : GoodIn wsX1_turn wsX1_at := goodIn_r _ [15] (by decide +kernel) (by decide +kernel)
set_option maxRecDepth 20000 in
theorem gX1_turn_X1_at : GoodIn wsX1_turn (va_wsS RX1 51 yX1_at wsX1_at) := goodIn_app (goodIn_of _ (by decide +kernel)) ggX1_turn_X1_at
set_option maxRecDepth 20000 in
theorem ggX1_turn_X1_put : GoodIn wsX1_turn wsX1_put := goodIn_r _ [18] (by decide +kernel) (by decide +kernel)
set_option maxRecDepth 20000 in
theorem gX1_turn_X1_put : GoodIn wsX1_turn (va_wsS RX1 40 yX1_put wsX1_put) := goodIn_app (goodIn_of _ (by decide +kernel)) ggX1_turn_X1_put
theorem dX1_turn_0 : decode cX1_turn 0 = .ok (.aload_n 0, 1) := by decide +kernel
theorem dX1_turn_1 : decode cX1_turn 1 = .ok (.getfield 10, 3) := by decide +kernel
theorem dX1_turn_4 : decode cX1_turn 4 = .ok (.iload_n 1, 1) := by decide +kernel
theorem dX1_turn_5 : decode cX1_turn 5 = .ok (.invokevirtual 59, 3) := by decide +kernel
theorem dX1_turn_8 : decode cX1_turn 8 = .ok (.ifCond .ne 9, 3) := by decide +kernel
theorem dX1_turn_11 : decode cX1_turn 11 = .ok (.aload_n 0, 1) := by decide +kernel
theorem dX1_turn_12 : decode cX1_turn 12 = .ok (.iconst (-1), 1) := by decide +kernel
theorem dX1_turn_13 : decode cX1_turn 13 = .ok (.invokevirtual 32, 3) := by decide +kernel
theorem dX1_turn_16 : decode cX1_turn 16 = .ok (.ireturn, 1) := by decide +kernel
theorem dX1_turn_17 : decode cX1_turn 17 = .ok (.iload_n 2, 1) := by decide +kernel
theorem dX1_turn_18 : decode cX1_turn 18 = .ok (.ifCond .lt 9, 3) := by decide +kernel
theorem dX1_turn_21 : decode cX1_turn 21 = .ok (.iload_n 2, 1) := by decide +kernel
theorem dX1_turn_22 : decode cX1_turn 22 = .ok (.bipush 6, 2) := by decide +kernel
theorem dX1_turn_24 : decode cX1_turn 24 = .ok (.if_icmp .lt 10, 3) := by decide +kernel
theorem dX1_turn_27 : decode cX1_turn 27 = .ok (.aload_n 0, 1) := by decide +kernel
theorem dX1_turn_28 : decode cX1_turn 28 = .ok (.bipush (-2), 2) := by decide +kernel
theorem dX1_turn_30 : decode cX1_turn 30 = .ok (.invokevirtual 32, 3) := by decide +kernel
theorem dX1_turn_33 : decode cX1_turn 33 = .ok (.ireturn, 1) := by decide +kernel
theorem dX1_turn_34 : decode cX1_turn 34 = .ok (.iload_n 3, 1) := by decide +kernel
theorem dX1_turn_35 : decode cX1_turn 35 = .ok (.iconst 0, 1) := by decide +kernel
theorem dX1_turn_36 : decode cX1_turn 36 = .ok (.bipush 9, 2) := by decide +kernel
theorem dX1_turn_38 : decode cX1_turn 38 = .ok (.invokestatic 62, 3) := by decide +kernel
theorem dX1_turn_41 : decode cX1_turn 41 = .ok (.istore 4, 2) := by decide +kernel
theorem dX1_turn_43 : decode cX1_turn 43 = .ok (.iload 4, 2) := by decide +kernel
theorem dX1_turn_45 : decode cX1_turn 45 = .ok (.ifCond .eq 10, 3) := by decide +kernel
theorem dX1_turn_48 : decode cX1_turn 48 = .ok (.aload_n 0, 1) := by decide +kernel
theorem dX1_turn_49 : decode cX1_turn 49 = .ok (.iload 4, 2) := by decide +kernel
theorem dX1_turn_51 : decode cX1_turn 51 = .ok (.invokevirtual 32, 3) := by decide +kernel
theorem dX1_turn_54 : decode cX1_turn 54 = .ok (.ireturn, 1) := by decide +kernel
theorem dX1_turn_55 : decode cX1_turn 55 = .ok (.bipush 10, 2) := by decide +kernel
theorem dX1_turn_57 : decode cX1_turn 57 = .ok (.aload_n 0, 1) := by decide +kernel
theorem dX1_turn_58 : decode cX1_turn 58 = .ok (.getfield 10, 3) := by decide +kernel
theorem dX1_turn_61 : decode cX1_turn 61 = .ok (.getfield 88, 3) := by decide +kernel
theorem dX1_turn_64 : decode cX1_turn 64 = .ok (.iload_n 1, 1) := by decide +kernel
theorem dX1_turn_65 : decode cX1_turn 65 = .ok (.invokestatic 51, 3) := by decide +kernel
theorem dX1_turn_68 : decode cX1_turn 68 = .ok (.imul, 1) := by decide +kernel
theorem dX1_turn_69 : decode cX1_turn 69 = .ok (.aload_n 0, 1) := by decide +kernel
theorem dX1_turn_70 : decode cX1_turn 70 = .ok (.getfield 10, 3) := by decide +kernel
theorem dX1_turn_73 : decode cX1_turn 73 = .ok (.getfield 91, 3) := by decide +kernel
theorem dX1_turn_76 : decode cX1_turn 76 = .ok (.iload_n 1, 1) := by decide +kernel
theorem dX1_turn_77 : decode cX1_turn 77 = .ok (.invokestatic 51, 3) := by decide +kernel
theorem dX1_turn_80 : decode cX1_turn 80 = .ok (.iadd, 1) := by decide +kernel
theorem dX1_turn_81 : decode cX1_turn 81 = .ok (.istore 5, 2) := by decide +kernel
theorem dX1_turn_83 : decode cX1_turn 83 = .ok (.aload_n 0, 1) := by decide +kernel
theorem dX1_turn_84 : decode cX1_turn 84 = .ok (.getfield 10, 3) := by decide +kernel
theorem dX1_turn_87 : decode cX1_turn 87 = .ok (.getfield 88, 3) := by decide +kernel
theorem dX1_turn_90 : decode cX1_turn 90 = .ok (.iload_n 1, 1) := by decide +kernel
theorem dX1_turn_91 : decode cX1_turn 91 = .ok (.iload_n 2, 1) := by decide +kernel
theorem dX1_turn_92 : decode cX1_turn 92 = .ok (.invokestatic 40, 3) := by decide +kernel
theorem dX1_turn_95 : decode cX1_turn 95 = .ok (.aload_n 0, 1) := by decide +kernel
theorem dX1_turn_96 : decode cX1_turn 96 = .ok (.getfield 10, 3) := by decide +kernel
theorem dX1_turn_99 : decode cX1_turn 99 = .ok (.getfield 91, 3) := by decide +kernel
theorem dX1_turn_102 : decode cX1_turn 102 = .ok (.iload_n 1, 1) := by decide +kernel
theorem dX1_turn_103 : decode cX1_turn 103 = .ok (.iload_n 3, 1) := by decide +kernel
theorem dX1_turn_104 : decode cX1_turn 104 = .ok (.invokestatic 40, 3) := by decide +kernel
theorem dX1_turn_107 : decode cX1_turn 107 = .ok (.iload 5, 2) := by decide +kernel
theorem dX1_turn_109 : decode cX1_turn 109 = .ok (.ireturn, 1) := by decide +kernel
set_option maxRecDepth 20000 in
theorem ggX1_months_X1_refuse : GoodIn wsX1_months wsX1_refuse := goodIn_r _ [6, 7, 8, 9, 5, 10, 11, 12, 13, 87, 88, 89, 90, 91, 92, 93, 94, 95] (by decide +kernel) (by decide +kernel)
set_option maxRecDepth 20000 in
theorem gX1_months_X1_refuse : GoodIn wsX1_months (wsV RX1 32 RX1 yX1_refuse wsX1_refuse) := goodIn_app (goodIn_of _ (by decide +kernel)) ggX1_months_X1_refuse
set_option maxRecDepth 20000 in
theorem ggX1_months_X0_hasTimeFor : GoodIn wsX1_months wsX0_hasTimeFor := goodIn_r _ [17, 18, 96, 97, 98, 99, 100, 101, 102, 103, 104, 105, 106, 107, 108] (by decide +kernel) (by decide +kernel)
set_option maxRecDepth 20000 in
theorem gX1_months_X0_hasTimeFor_n94 : GoodIn wsX1_months (wsX0_hasTimeFor) := ggX1_months_X0_hasTimeFor
set_option maxRecDepth 20000 in
theorem ggX1_months_X0_goOn : GoodIn wsX1_months wsX0_goOn := goodIn_r _ [21, 18, 22, 23, 9, 5, 10, 24, 25, 26, 15, 27, 28, 29, 30, 31, 32, 33, 34, 35, 36, 37, 38, 39, 40, 41, 42, 43, 44, 45, 46, 47, 48, 49, 50, 51, 52, 53, 54, 55, 56, 57, 58, 59, 60, 61, 62, 63, 64, 65, 66, 67, 68, 12, 13, 69, 70, 71, 72, 96, 97, 98, 99, 100, 101, 102, 103, 104, 105, 106, 107, 108] (by decide +kernel) (by decide +kernel)
set_option maxRecDepth 20000 in
theorem gX1_months_X0_goOn_n97 : GoodIn wsX1_months (wsX0_goOn) := ggX1_months_X0_goOn
set_option maxRecDepth 20000 in
theorem ggX1_months_X0_heldCount : GoodIn wsX1_months wsX0_heldCount := goodIn_r _ [75, 22, 76, 77, 78, 15, 79, 24, 25, 26, 27, 28, 29, 30, 31, 32, 9, 5, 10, 80, 81, 82, 83, 84, 85, 86, 96, 97, 98, 99, 100, 101, 102, 103, 104, 105, 106, 107, 108] (by decide +kernel) (by decide +kernel)
set_option maxRecDepth 20000 in
theorem gX1_months_X0_heldCount_n101 : GoodIn wsX1_months (wsX0_heldCount) := ggX1_months_X0_heldCount
theorem dX1_months_0 : decode cX1_months 0 = .ok (.iload_n 1, 1) := by decide +kernel
theorem dX1_months_1 : decode cX1_months 1 = .ok (.iconst 1, 1) := by decide +kernel
theorem dX1_months_2 : decode cX1_months 2 = .ok (.if_icmp .ge 10, 3) := by decide +kernel
theorem dX1_months_5 : decode cX1_months 5 = .ok (.aload_n 0, 1) := by decide +kernel
theorem dX1_months_6 : decode cX1_months 6 = .ok (.bipush (-4), 2) := by decide +kernel
theorem dX1_months_8 : decode cX1_months 8 = .ok (.invokevirtual 32, 3) := by decide +kernel
theorem dX1_months_11 : decode cX1_months 11 = .ok (.ireturn, 1) := by decide +kernel
theorem dX1_months_12 : decode cX1_months 12 = .ok (.aload_n 0, 1) := by decide +kernel
theorem dX1_months_13 : decode cX1_months 13 = .ok (.getfield 10, 3) := by decide +kernel
theorem dX1_months_16 : decode cX1_months 16 = .ok (.iload_n 1, 1) := by decide +kernel
theorem dX1_months_17 : decode cX1_months 17 = .ok (.invokevirtual 94, 3) := by decide +kernel
theorem dX1_months_20 : decode cX1_months 20 = .ok (.ifCond .ne 10, 3) := by decide +kernel
theorem dX1_months_23 : decode cX1_months 23 = .ok (.aload_n 0, 1) := by decide +kernel
theorem dX1_months_24 : decode cX1_months 24 = .ok (.bipush (-6), 2) := by decide +kernel
theorem dX1_months_26 : decode cX1_months 26 = .ok (.invokevirtual 32, 3) := by decide +kernel
theorem dX1_months_29 : decode cX1_months 29 = .ok (.ireturn, 1) := by decide +kernel
theorem dX1_months_30 : decode cX1_months 30 = .ok (.aload_n 0, 1) := by decide +kernel
theorem dX1_months_31 : decode cX1_months 31 = .ok (.getfield 10, 3) := by decide +kernel
theorem dX1_months_34 : decode cX1_months 34 = .ok (.iload_n 1, 1) := by decide +kernel
theorem dX1_months_35 : decode cX1_months 35 = .ok (.iconst 1, 1) := by decide +kernel
theorem dX1_months_36 : decode cX1_months 36 = .ok (.invokevirtual 97, 3) := by decide +kernel
theorem dX1_months_39 : decode cX1_months 39 = .ok (.pop, 1) := by decide +kernel
theorem dX1_months_40 : decode cX1_months 40 = .ok (.aload_n 0, 1) := by decide +kernel
theorem dX1_months_41 : decode cX1_months 41 = .ok (.getfield 10, 3) := by decide +kernel
theorem dX1_months_44 : decode cX1_months 44 = .ok (.invokevirtual 101, 3) := by decide +kernel
theorem dX1_months_47 : decode cX1_months 47 = .ok (.ireturn, 1) := by decide +kernel
set_option maxRecDepth 20000 in
theorem ggX1_card_X0_hasCard : GoodIn wsX1_card wsX0_hasCard := goodIn_r _ [5, 6, 63, 64, 65, 66, 67, 68, 69, 70, 71, 72, 73, 74, 75] (by decide +kernel) (by decide +kernel)
set_option maxRecDepth 20000 in
theorem gX1_card_X0_hasCard_n69 : GoodIn wsX1_card (wsX0_hasCard) := ggX1_card_X0_hasCard
set_option maxRecDepth 20000 in
theorem ggX1_card_X1_refuse : GoodIn wsX1_card wsX1_refuse := goodIn_r _ [11, 12, 13, 14, 10, 15, 16, 17, 18, 54, 55, 56, 57, 58, 59, 60, 61, 62] (by decide +kernel) (by decide +kernel)
set_option maxRecDepth 20000 in
theorem gX1_card_X1_refuse : GoodIn wsX1_card (wsV RX1 32 RX1 yX1_refuse wsX1_refuse) := goodIn_app (goodIn_of _ (by decide +kernel)) ggX1_card_X1_refuse
set_option maxRecDepth 20000 in
theorem ggX1_card_X1_at : GoodIn wsX1_card wsX1_at := goodIn_r _ [15] (by decide +kernel) (by decide +kernel)
set_option maxRecDepth 20000 in
theorem gX1_card_X1_at : GoodIn wsX1_card (va_wsS RX1 51 yX1_at wsX1_at) := goodIn_app (goodIn_of _ (by decide +kernel)) ggX1_card_X1_at
set_option maxRecDepth 20000 in
theorem ggX1_card_X0_worth : GoodIn wsX1_card wsX0_worth := goodIn_r _ [21, 22, 23, 24, 25, 26, 27, 28, 14, 10, 15, 63, 64, 65, 66, 67, 68, 69, 70, 71, 72, 73, 74, 75] (by decide +kernel) (by decide +kernel)
set_option maxRecDepth 20000 in
theorem gX1_card_X0_worth_n117 : GoodIn wsX1_card (wsX0_worth) := ggX1_card_X0_worth
set_option maxRecDepth 20000 in
theorem ggX1_card_X0_placeOf : GoodIn wsX1_card wsX0_placeOf := goodIn_r _ [31, 6, 32, 14, 10, 15, 63, 64, 65, 66, 67, 68, 69, 70, 71, 72, 73, 74, 75] (by decide +kernel) (by decide +kernel)
set_option maxRecDepth 20000 in
theorem gX1_card_X0_placeOf_n82 : GoodIn wsX1_card (wsX0_placeOf) := ggX1_card_X0_placeOf
set_option maxRecDepth 20000 in
theorem ggX1_card_X0_rivals : GoodIn wsX1_card wsX0_rivals := goodIn_r _ [35, 36, 37, 19, 20, 3, 21, 22, 23, 24, 25, 26, 27, 28, 14, 10, 15, 38, 39, 40, 41, 42, 43, 44, 45, 46, 47, 48, 49, 50, 51, 52, 53, 63, 64, 65, 66, 67, 68, 69, 70, 71, 72, 73, 74, 75] (by decide +kernel) (by decide +kernel)
set_option maxRecDepth 20000 in
theorem gX1_card_X0_rivals_n120 : GoodIn wsX1_card (wsX0_rivals) := ggX1_card_X0_rivals
theorem dX1_card_0 : decode cX1_card 0 = .ok (.aload_n 0, 1) := by decide +kernel
theorem dX1_card_1 : decode cX1_card 1 = .ok (.getfield 10, 3) := by decide +kernel
theorem dX1_card_4 : decode cX1_card 4 = .ok (.iload_n 1, 1) := by decide +kernel
theorem dX1_card_5 : decode cX1_card 5 = .ok (.invokevirtual 69, 3) := by decide +kernel
theorem dX1_card_8 : decode cX1_card 8 = .ok (.ifCond .ne 9, 3) := by decide +kernel
theorem dX1_card_11 : decode cX1_card 11 = .ok (.aload_n 0, 1) := by decide +kernel
theorem dX1_card_12 : decode cX1_card 12 = .ok (.iconst (-1), 1) := by decide +kernel
theorem dX1_card_13 : decode cX1_card 13 = .ok (.invokevirtual 32, 3) := by decide +kernel
theorem dX1_card_16 : decode cX1_card 16 = .ok (.ireturn, 1) := by decide +kernel
theorem dX1_card_17 : decode cX1_card 17 = .ok (.iload_n 2, 1) := by decide +kernel
theorem dX1_card_18 : decode cX1_card 18 = .ok (.tableswitch 133 0 7 #[46, 58, 70, 82, 94, 106, 115, 124], 46) := by decide +kernel
theorem dX1_card_64 : decode cX1_card 64 = .ok (.aload_n 0, 1) := by decide +kernel
theorem dX1_card_65 : decode cX1_card 65 = .ok (.getfield 10, 3) := by decide +kernel
theorem dX1_card_68 : decode cX1_card 68 = .ok (.getfield 105, 3) := by decide +kernel
theorem dX1_card_71 : decode cX1_card 71 = .ok (.iload_n 1, 1) := by decide +kernel
theorem dX1_card_72 : decode cX1_card 72 = .ok (.invokestatic 51, 3) := by decide +kernel
theorem dX1_card_75 : decode cX1_card 75 = .ok (.ireturn, 1) := by decide +kernel
theorem dX1_card_76 : decode cX1_card 76 = .ok (.aload_n 0, 1) := by decide +kernel
theorem dX1_card_77 : decode cX1_card 77 = .ok (.getfield 10, 3) := by decide +kernel
theorem dX1_card_80 : decode cX1_card 80 = .ok (.getfield 108, 3) := by decide +kernel
theorem dX1_card_83 : decode cX1_card 83 = .ok (.iload_n 1, 1) := by decide +kernel
theorem dX1_card_84 : decode cX1_card 84 = .ok (.invokestatic 51, 3) := by decide +kernel
theorem dX1_card_87 : decode cX1_card 87 = .ok (.ireturn, 1) := by decide +kernel
theorem dX1_card_88 : decode cX1_card 88 = .ok (.aload_n 0, 1) := by decide +kernel
theorem dX1_card_89 : decode cX1_card 89 = .ok (.getfield 10, 3) := by decide +kernel
theorem dX1_card_92 : decode cX1_card 92 = .ok (.getfield 111, 3) := by decide +kernel
theorem dX1_card_95 : decode cX1_card 95 = .ok (.iload_n 1, 1) := by decide +kernel
theorem dX1_card_96 : decode cX1_card 96 = .ok (.invokestatic 51, 3) := by decide +kernel
theorem dX1_card_99 : decode cX1_card 99 = .ok (.ireturn, 1) := by decide +kernel
theorem dX1_card_100 : decode cX1_card 100 = .ok (.aload_n 0, 1) := by decide +kernel
theorem dX1_card_101 : decode cX1_card 101 = .ok (.getfield 10, 3) := by decide +kernel
theorem dX1_card_104 : decode cX1_card 104 = .ok (.getfield 114, 3) := by decide +kernel
theorem dX1_card_107 : decode cX1_card 107 = .ok (.iload_n 1, 1) := by decide +kernel
theorem dX1_card_108 : decode cX1_card 108 = .ok (.invokestatic 51, 3) := by decide +kernel
theorem dX1_card_111 : decode cX1_card 111 = .ok (.ireturn, 1) := by decide +kernel
theorem dX1_card_112 : decode cX1_card 112 = .ok (.aload_n 0, 1) := by decide +kernel
theorem dX1_card_113 : decode cX1_card 113 = .ok (.getfield 10, 3) := by decide +kernel
theorem dX1_card_116 : decode cX1_card 116 = .ok (.getfield 75, 3) := by decide +kernel
theorem dX1_card_119 : decode cX1_card 119 = .ok (.iload_n 1, 1) := by decide +kernel
theorem dX1_card_120 : decode cX1_card 120 = .ok (.invokestatic 51, 3) := by decide +kernel
theorem dX1_card_123 : decode cX1_card 123 = .ok (.ireturn, 1) := by decide +kernel
theorem dX1_card_124 : decode cX1_card 124 = .ok (.aload_n 0, 1) := by decide +kernel
theorem dX1_card_125 : decode cX1_card 125 = .ok (.getfield 10, 3) := by decide +kernel
theorem dX1_card_128 : decode cX1_card 128 = .ok (.iload_n 1, 1) := by decide +kernel
theorem dX1_card_129 : decode cX1_card 129 = .ok (.invokevirtual 117, 3) := by decide +kernel
theorem dX1_card_132 : decode cX1_card 132 = .ok (.ireturn, 1) := by decide +kernel
theorem dX1_card_133 : decode cX1_card 133 = .ok (.aload_n 0, 1) := by decide +kernel
theorem dX1_card_134 : decode cX1_card 134 = .ok (.getfield 10, 3) := by decide +kernel
theorem dX1_card_137 : decode cX1_card 137 = .ok (.iload_n 1, 1) := by decide +kernel
theorem dX1_card_138 : decode cX1_card 138 = .ok (.invokevirtual 82, 3) := by decide +kernel
theorem dX1_card_141 : decode cX1_card 141 = .ok (.ireturn, 1) := by decide +kernel
theorem dX1_card_142 : decode cX1_card 142 = .ok (.aload_n 0, 1) := by decide +kernel
theorem dX1_card_143 : decode cX1_card 143 = .ok (.getfield 10, 3) := by decide +kernel
theorem dX1_card_146 : decode cX1_card 146 = .ok (.iload_n 1, 1) := by decide +kernel
theorem dX1_card_147 : decode cX1_card 147 = .ok (.invokevirtual 120, 3) := by decide +kernel
theorem dX1_card_150 : decode cX1_card 150 = .ok (.ireturn, 1) := by decide +kernel
theorem dX1_card_151 : decode cX1_card 151 = .ok (.aload_n 0, 1) := by decide +kernel
theorem dX1_card_152 : decode cX1_card 152 = .ok (.bipush (-2), 2) := by decide +kernel
theorem dX1_card_154 : decode cX1_card 154 = .ok (.invokevirtual 32, 3) := by decide +kernel
theorem dX1_card_157 : decode cX1_card 157 = .ok (.ireturn, 1) := by decide +kernel
set_option maxRecDepth 20000 in
theorem ggX1_bidder_X0_hasBidder : GoodIn wsX1_bidder wsX0_hasBidder := goodIn_r _ [5, 6, 33, 34, 35, 36, 37, 38, 39, 40, 41, 42, 43, 44, 45] (by decide +kernel) (by decide +kernel)
set_option maxRecDepth 20000 in
theorem gX1_bidder_X0_hasBidder_n59 : GoodIn wsX1_bidder (wsX0_hasBidder) := ggX1_bidder_X0_hasBidder
set_option maxRecDepth 20000 in
theorem ggX1_bidder_X1_refuse : GoodIn wsX1_bidder wsX1_refuse := goodIn_r _ [11, 12, 13, 14, 10, 15, 16, 17, 18, 24, 25, 26, 27, 28, 29, 30, 31, 32] (by decide +kernel) (by decide +kernel)
set_option maxRecDepth 20000 in
theorem gX1_bidder_X1_refuse : GoodIn wsX1_bidder (wsV RX1 32 RX1 yX1_refuse wsX1_refuse) := goodIn_app (goodIn_of _ (by decide +kernel)) ggX1_bidder_X1_refuse
set_option maxRecDepth 20000 in
theorem ggX1_bidder_X1_at : GoodIn wsX1_bidder wsX1_at := goodIn_r _ [15] (by decide +kernel) (by decide +kernel)
set_option maxRecDepth 20000 in
theorem gX1_bidder_X1_at : GoodIn wsX1_bidder (va_wsS RX1 51 yX1_at wsX1_at) := goodIn_app (goodIn_of _ (by decide +kernel)) ggX1_bidder_X1_at
set_option maxRecDepth 20000 in
theorem ggX1_bidder_X0_heldBits : GoodIn wsX1_bidder wsX0_heldBits := goodIn_r _ [21, 22, 23, 14, 10, 15, 33, 34, 35, 36, 37, 38, 39, 40, 41, 42, 43, 44, 45] (by decide +kernel) (by decide +kernel)
set_option maxRecDepth 20000 in
theorem gX1_bidder_X0_heldBits_n126 : GoodIn wsX1_bidder (wsX0_heldBits) := ggX1_bidder_X0_heldBits
theorem dX1_bidder_0 : decode cX1_bidder 0 = .ok (.aload_n 0, 1) := by decide +kernel
theorem dX1_bidder_1 : decode cX1_bidder 1 = .ok (.getfield 10, 3) := by decide +kernel
theorem dX1_bidder_4 : decode cX1_bidder 4 = .ok (.iload_n 1, 1) := by decide +kernel
theorem dX1_bidder_5 : decode cX1_bidder 5 = .ok (.invokevirtual 59, 3) := by decide +kernel
theorem dX1_bidder_8 : decode cX1_bidder 8 = .ok (.ifCond .ne 9, 3) := by decide +kernel
theorem dX1_bidder_11 : decode cX1_bidder 11 = .ok (.aload_n 0, 1) := by decide +kernel
theorem dX1_bidder_12 : decode cX1_bidder 12 = .ok (.iconst (-1), 1) := by decide +kernel
theorem dX1_bidder_13 : decode cX1_bidder 13 = .ok (.invokevirtual 32, 3) := by decide +kernel
theorem dX1_bidder_16 : decode cX1_bidder 16 = .ok (.ireturn, 1) := by decide +kernel
theorem dX1_bidder_17 : decode cX1_bidder 17 = .ok (.iload_n 2, 1) := by decide +kernel
theorem dX1_bidder_18 : decode cX1_bidder 18 = .ok (.tableswitch 91 0 4 #[34, 46, 58, 70, 82], 34) := by decide +kernel
theorem dX1_bidder_52 : decode cX1_bidder 52 = .ok (.aload_n 0, 1) := by decide +kernel
theorem dX1_bidder_53 : decode cX1_bidder 53 = .ok (.getfield 10, 3) := by decide +kernel
theorem dX1_bidder_56 : decode cX1_bidder 56 = .ok (.getfield 88, 3) := by decide +kernel
theorem dX1_bidder_59 : decode cX1_bidder 59 = .ok (.iload_n 1, 1) := by decide +kernel
theorem dX1_bidder_60 : decode cX1_bidder 60 = .ok (.invokestatic 51, 3) := by decide +kernel
theorem dX1_bidder_63 : decode cX1_bidder 63 = .ok (.ireturn, 1) := by decide +kernel
theorem dX1_bidder_64 : decode cX1_bidder 64 = .ok (.aload_n 0, 1) := by decide +kernel
theorem dX1_bidder_65 : decode cX1_bidder 65 = .ok (.getfield 10, 3) := by decide +kernel
theorem dX1_bidder_68 : decode cX1_bidder 68 = .ok (.getfield 91, 3) := by decide +kernel
theorem dX1_bidder_71 : decode cX1_bidder 71 = .ok (.iload_n 1, 1) := by decide +kernel
theorem dX1_bidder_72 : decode cX1_bidder 72 = .ok (.invokestatic 51, 3) := by decide +kernel
theorem dX1_bidder_75 : decode cX1_bidder 75 = .ok (.ireturn, 1) := by decide +kernel
theorem dX1_bidder_76 : decode cX1_bidder 76 = .ok (.aload_n 0, 1) := by decide +kernel
theorem dX1_bidder_77 : decode cX1_bidder 77 = .ok (.getfield 10, 3) := by decide +kernel
theorem dX1_bidder_80 : decode cX1_bidder 80 = .ok (.getfield 66, 3) := by decide +kernel
theorem dX1_bidder_83 : decode cX1_bidder 83 = .ok (.iload_n 1, 1) := by decide +kernel
theorem dX1_bidder_84 : decode cX1_bidder 84 = .ok (.invokestatic 51, 3) := by decide +kernel
theorem dX1_bidder_87 : decode cX1_bidder 87 = .ok (.ireturn, 1) := by decide +kernel
theorem dX1_bidder_88 : decode cX1_bidder 88 = .ok (.aload_n 0, 1) := by decide +kernel
theorem dX1_bidder_89 : decode cX1_bidder 89 = .ok (.getfield 10, 3) := by decide +kernel
theorem dX1_bidder_92 : decode cX1_bidder 92 = .ok (.getfield 123, 3) := by decide +kernel
theorem dX1_bidder_95 : decode cX1_bidder 95 = .ok (.iload_n 1, 1) := by decide +kernel
theorem dX1_bidder_96 : decode cX1_bidder 96 = .ok (.invokestatic 51, 3) := by decide +kernel
theorem dX1_bidder_99 : decode cX1_bidder 99 = .ok (.ireturn, 1) := by decide +kernel
theorem dX1_bidder_100 : decode cX1_bidder 100 = .ok (.aload_n 0, 1) := by decide +kernel
theorem dX1_bidder_101 : decode cX1_bidder 101 = .ok (.getfield 10, 3) := by decide +kernel
theorem dX1_bidder_104 : decode cX1_bidder 104 = .ok (.iload_n 1, 1) := by decide +kernel
theorem dX1_bidder_105 : decode cX1_bidder 105 = .ok (.invokevirtual 126, 3) := by decide +kernel
theorem dX1_bidder_108 : decode cX1_bidder 108 = .ok (.ireturn, 1) := by decide +kernel
theorem dX1_bidder_109 : decode cX1_bidder 109 = .ok (.aload_n 0, 1) := by decide +kernel
theorem dX1_bidder_110 : decode cX1_bidder 110 = .ok (.bipush (-2), 2) := by decide +kernel
theorem dX1_bidder_112 : decode cX1_bidder 112 = .ok (.invokevirtual 32, 3) := by decide +kernel
theorem dX1_bidder_115 : decode cX1_bidder 115 = .ok (.ireturn, 1) := by decide +kernel
set_option maxRecDepth 20000 in
theorem ggX1_bids_X0_hasBidder : GoodIn wsX1_bids wsX0_hasBidder := goodIn_r _ [5, 6, 54, 55, 56, 57, 58, 59, 60, 61, 62, 63, 64, 65, 66] (by decide +kernel) (by decide +kernel)
set_option maxRecDepth 20000 in
theorem gX1_bids_X0_hasBidder_n59 : GoodIn wsX1_bids (wsX0_hasBidder) := ggX1_bids_X0_hasBidder
set_option maxRecDepth 20000 in
theorem ggX1_bids_X0_hasCard : GoodIn wsX1_bids wsX0_hasCard := goodIn_r _ [9, 10, 54, 55, 56, 57, 58, 59, 60, 61, 62, 63, 64, 65, 66] (by decide +kernel) (by decide +kernel)
set_option maxRecDepth 20000 in
theorem gX1_bids_X0_hasCard_n69 : GoodIn wsX1_bids (wsX0_hasCard) := ggX1_bids_X0_hasCard
set_option maxRecDepth 20000 in
theorem ggX1_bids_X1_refuse : GoodIn wsX1_bids wsX1_refuse := goodIn_r _ [15, 16, 17, 18, 14, 19, 20, 21, 22, 45, 46, 47, 48, 49, 50, 51, 52, 53] (by decide +kernel) (by decide +kernel)
set_option maxRecDepth 20000 in
theorem gX1_bids_X1_refuse : GoodIn wsX1_bids (wsV RX1 32 RX1 yX1_refuse wsX1_refuse) := goodIn_app (goodIn_of _ (by decide +kernel)) ggX1_bids_X1_refuse
set_option maxRecDepth 20000 in
theorem ggX1_bids_X0_worth : GoodIn wsX1_bids wsX0_worth := goodIn_r _ [25, 26, 27, 28, 29, 30, 31, 32, 18, 14, 19, 54, 55, 56, 57, 58, 59, 60, 61, 62, 63, 64, 65, 66] (by decide +kernel) (by decide +kernel)
set_option maxRecDepth 20000 in
theorem gX1_bids_X0_worth_n117 : GoodIn wsX1_bids (wsX0_worth) := ggX1_bids_X0_worth
set_option maxRecDepth 20000 in
theorem ggX1_bids_X0_most : GoodIn wsX1_bids wsX0_most := goodIn_r _ [35, 36, 37, 38, 28, 29, 30, 31, 39, 40, 41, 42, 43, 18, 14, 19, 44, 2, 4, 3, 5, 6, 54, 55, 56, 57, 58, 59, 60, 61, 62, 63, 64, 65, 66] (by decide +kernel) (by decide +kernel)
set_option maxRecDepth 20000 in
theorem gX1_bids_X0_most_n129 : GoodIn wsX1_bids (wsX0_most) := ggX1_bids_X0_most
theorem dX1_bids_0 : decode cX1_bids 0 = .ok (.aload_n 0, 1) := by decide +kernel
theorem dX1_bids_1 : decode cX1_bids 1 = .ok (.getfield 10, 3) := by decide +kernel
theorem dX1_bids_4 : decode cX1_bids 4 = .ok (.iload_n 1, 1) := by decide +kernel
theorem dX1_bids_5 : decode cX1_bids 5 = .ok (.invokevirtual 59, 3) := by decide +kernel
theorem dX1_bids_8 : decode cX1_bids 8 = .ok (.ifCond .eq 14, 3) := by decide +kernel
theorem dX1_bids_11 : decode cX1_bids 11 = .ok (.aload_n 0, 1) := by decide +kernel
theorem dX1_bids_12 : decode cX1_bids 12 = .ok (.getfield 10, 3) := by decide +kernel
theorem dX1_bids_15 : decode cX1_bids 15 = .ok (.iload_n 2, 1) := by decide +kernel
theorem dX1_bids_16 : decode cX1_bids 16 = .ok (.invokevirtual 69, 3) := by decide +kernel
theorem dX1_bids_19 : decode cX1_bids 19 = .ok (.ifCond .ne 9, 3) := by decide +kernel
theorem dX1_bids_22 : decode cX1_bids 22 = .ok (.aload_n 0, 1) := by decide +kernel
theorem dX1_bids_23 : decode cX1_bids 23 = .ok (.iconst (-1), 1) := by decide +kernel
theorem dX1_bids_24 : decode cX1_bids 24 = .ok (.invokevirtual 32, 3) := by decide +kernel
theorem dX1_bids_27 : decode cX1_bids 27 = .ok (.ireturn, 1) := by decide +kernel
theorem dX1_bids_28 : decode cX1_bids 28 = .ok (.aload_n 0, 1) := by decide +kernel
theorem dX1_bids_29 : decode cX1_bids 29 = .ok (.getfield 10, 3) := by decide +kernel
theorem dX1_bids_32 : decode cX1_bids 32 = .ok (.iload_n 1, 1) := by decide +kernel
theorem dX1_bids_33 : decode cX1_bids 33 = .ok (.iload_n 2, 1) := by decide +kernel
theorem dX1_bids_34 : decode cX1_bids 34 = .ok (.aload_n 0, 1) := by decide +kernel
theorem dX1_bids_35 : decode cX1_bids 35 = .ok (.getfield 10, 3) := by decide +kernel
theorem dX1_bids_38 : decode cX1_bids 38 = .ok (.iload_n 2, 1) := by decide +kernel
theorem dX1_bids_39 : decode cX1_bids 39 = .ok (.invokevirtual 117, 3) := by decide +kernel
theorem dX1_bids_42 : decode cX1_bids 42 = .ok (.invokevirtual 129, 3) := by decide +kernel
theorem dX1_bids_45 : decode cX1_bids 45 = .ok (.ireturn, 1) := by decide +kernel
set_option maxRecDepth 20000 in
theorem ggX1_gets_X0_hasCard : GoodIn wsX1_gets wsX0_hasCard := goodIn_r _ [5, 6, 59, 60, 61, 62, 63, 64, 65, 66, 67, 68, 69, 70, 71] (by decide +kernel) (by decide +kernel)
set_option maxRecDepth 20000 in
theorem gX1_gets_X0_hasCard_n69 : GoodIn wsX1_gets (wsX0_hasCard) := ggX1_gets_X0_hasCard
set_option maxRecDepth 20000 in
theorem ggX1_gets_X1_refuse : GoodIn wsX1_gets wsX1_refuse := goodIn_r _ [11, 12, 13, 14, 10, 15, 16, 17, 18, 50, 51, 52, 53, 54, 55, 56, 57, 58] (by decide +kernel) (by decide +kernel)
set_option maxRecDepth 20000 in
theorem gX1_gets_X1_refuse : GoodIn wsX1_gets (wsV RX1 32 RX1 yX1_refuse wsX1_refuse) := goodIn_app (goodIn_of _ (by decide +kernel)) ggX1_gets_X1_refuse
set_option maxRecDepth 20000 in
theorem ggX1_gets_X0_deal : GoodIn wsX1_gets wsX0_deal := goodIn_r _ [21, 22, 23, 24, 25, 26, 27, 28, 29, 3, 30, 31, 32, 33, 34, 35, 36, 14, 10, 15, 37, 38, 39, 40, 41, 42, 43, 44, 45, 46, 47, 48, 49, 59, 60, 61, 62, 63, 64, 65, 66, 67, 68, 69, 70, 71] (by decide +kernel) (by decide +kernel)
set_option maxRecDepth 20000 in
theorem gX1_gets_X0_deal_n132 : GoodIn wsX1_gets (wsX0_deal) := ggX1_gets_X0_deal
theorem dX1_gets_0 : decode cX1_gets 0 = .ok (.aload_n 0, 1) := by decide +kernel
theorem dX1_gets_1 : decode cX1_gets 1 = .ok (.getfield 10, 3) := by decide +kernel
theorem dX1_gets_4 : decode cX1_gets 4 = .ok (.iload_n 1, 1) := by decide +kernel
theorem dX1_gets_5 : decode cX1_gets 5 = .ok (.invokevirtual 69, 3) := by decide +kernel
theorem dX1_gets_8 : decode cX1_gets 8 = .ok (.ifCond .ne 9, 3) := by decide +kernel
theorem dX1_gets_11 : decode cX1_gets 11 = .ok (.aload_n 0, 1) := by decide +kernel
theorem dX1_gets_12 : decode cX1_gets 12 = .ok (.iconst (-1), 1) := by decide +kernel
theorem dX1_gets_13 : decode cX1_gets 13 = .ok (.invokevirtual 32, 3) := by decide +kernel
theorem dX1_gets_16 : decode cX1_gets 16 = .ok (.ireturn, 1) := by decide +kernel
theorem dX1_gets_17 : decode cX1_gets 17 = .ok (.iload_n 2, 1) := by decide +kernel
theorem dX1_gets_18 : decode cX1_gets 18 = .ok (.ifCond .lt 8, 3) := by decide +kernel
theorem dX1_gets_21 : decode cX1_gets 21 = .ok (.iload_n 2, 1) := by decide +kernel
theorem dX1_gets_22 : decode cX1_gets 22 = .ok (.iconst 1, 1) := by decide +kernel
theorem dX1_gets_23 : decode cX1_gets 23 = .ok (.if_icmp .le 10, 3) := by decide +kernel
theorem dX1_gets_26 : decode cX1_gets 26 = .ok (.aload_n 0, 1) := by decide +kernel
theorem dX1_gets_27 : decode cX1_gets 27 = .ok (.bipush (-2), 2) := by decide +kernel
theorem dX1_gets_29 : decode cX1_gets 29 = .ok (.invokevirtual 32, 3) := by decide +kernel
theorem dX1_gets_32 : decode cX1_gets 32 = .ok (.ireturn, 1) := by decide +kernel
theorem dX1_gets_33 : decode cX1_gets 33 = .ok (.aload_n 0, 1) := by decide +kernel
theorem dX1_gets_34 : decode cX1_gets 34 = .ok (.getfield 10, 3) := by decide +kernel
theorem dX1_gets_37 : decode cX1_gets 37 = .ok (.iload_n 1, 1) := by decide +kernel
theorem dX1_gets_38 : decode cX1_gets 38 = .ok (.iconst 0, 1) := by decide +kernel
theorem dX1_gets_39 : decode cX1_gets 39 = .ok (.invokevirtual 132, 3) := by decide +kernel
theorem dX1_gets_42 : decode cX1_gets 42 = .ok (.istore_n 3, 1) := by decide +kernel
theorem dX1_gets_43 : decode cX1_gets 43 = .ok (.iload_n 3, 1) := by decide +kernel
theorem dX1_gets_44 : decode cX1_gets 44 = .ok (.ifCond .ge 6, 3) := by decide +kernel
theorem dX1_gets_47 : decode cX1_gets 47 = .ok (.bipush (-9), 2) := by decide +kernel
theorem dX1_gets_49 : decode cX1_gets 49 = .ok (.ireturn, 1) := by decide +kernel
theorem dX1_gets_50 : decode cX1_gets 50 = .ok (.iload_n 2, 1) := by decide +kernel
theorem dX1_gets_51 : decode cX1_gets 51 = .ok (.ifCond .ne 11, 3) := by decide +kernel
theorem dX1_gets_54 : decode cX1_gets 54 = .ok (.iload_n 3, 1) := by decide +kernel
theorem dX1_gets_55 : decode cX1_gets 55 = .ok (.sipush 1000, 3) := by decide +kernel
theorem dX1_gets_58 : decode cX1_gets 58 = .ok (.idiv, 1) := by decide +kernel
theorem dX1_gets_59 : decode cX1_gets 59 = .ok (.goto 8, 3) := by decide +kernel
theorem dX1_gets_62 : decode cX1_gets 62 = .ok (.iload_n 3, 1) := by decide +kernel
theorem dX1_gets_63 : decode cX1_gets 63 = .ok (.sipush 1000, 3) := by decide +kernel
theorem dX1_gets_66 : decode cX1_gets 66 = .ok (.irem, 1) := by decide +kernel
theorem dX1_gets_67 : decode cX1_gets 67 = .ok (.ireturn, 1) := by decide +kernel
set_option maxRecDepth 20000 in
theorem ggX1_richest_X1_refuse : GoodIn wsX1_richest wsX1_refuse := goodIn_r _ [6, 7, 8, 9, 5, 10, 11, 12, 13, 29, 30, 31, 32, 33, 34, 35, 36, 37] (by decide +kernel) (by decide +kernel)
set_option maxRecDepth 20000 in
theorem gX1_richest_X1_refuse : GoodIn wsX1_richest (wsV RX1 32 RX1 yX1_refuse wsX1_refuse) := goodIn_app (goodIn_of _ (by decide +kernel)) ggX1_richest_X1_refuse
set_option maxRecDepth 20000 in
theorem ggX1_richest_X1_riches : GoodIn wsX1_richest wsX1_riches := goodIn_r _ [17, 1, 8, 9, 5, 10, 18, 19, 20, 21, 22, 23, 24, 25, 26, 27, 28, 29, 30, 31, 32, 33, 34, 35, 36, 37, 38, 39, 40, 41, 42, 43, 44, 45, 46, 47, 48, 49, 50] (by decide +kernel) (by decide +kernel)
set_option maxRecDepth 20000 in
theorem gX1_richest_X1_riches : GoodIn wsX1_richest (wsV RX1 142 RX1 yX1_riches wsX1_riches) := goodIn_app (goodIn_of _ (by decide +kernel)) ggX1_richest_X1_riches
theorem dX1_richest_0 : decode cX1_richest 0 = .ok (.iload_n 1, 1) := by decide +kernel
theorem dX1_richest_1 : decode cX1_richest 1 = .ok (.ifCond .lt 8, 3) := by decide +kernel
theorem dX1_richest_4 : decode cX1_richest 4 = .ok (.iload_n 1, 1) := by decide +kernel
theorem dX1_richest_5 : decode cX1_richest 5 = .ok (.iconst 2, 1) := by decide +kernel
theorem dX1_richest_6 : decode cX1_richest 6 = .ok (.if_icmp .le 10, 3) := by decide +kernel
theorem dX1_richest_9 : decode cX1_richest 9 = .ok (.aload_n 0, 1) := by decide +kernel
theorem dX1_richest_10 : decode cX1_richest 10 = .ok (.bipush (-2), 2) := by decide +kernel
theorem dX1_richest_12 : decode cX1_richest 12 = .ok (.invokevirtual 32, 3) := by decide +kernel
theorem dX1_richest_15 : decode cX1_richest 15 = .ok (.ireturn, 1) := by decide +kernel
theorem dX1_richest_16 : decode cX1_richest 16 = .ok (.iload_n 1, 1) := by decide +kernel
theorem dX1_richest_17 : decode cX1_richest 17 = .ok (.iconst 2, 1) := by decide +kernel
theorem dX1_richest_18 : decode cX1_richest 18 = .ok (.if_icmp .ne 13, 3) := by decide +kernel
theorem dX1_richest_21 : decode cX1_richest 21 = .ok (.aload_n 0, 1) := by decide +kernel
theorem dX1_richest_22 : decode cX1_richest 22 = .ok (.getfield 10, 3) := by decide +kernel
theorem dX1_richest_25 : decode cX1_richest 25 = .ok (.getfield 136, 3) := by decide +kernel
theorem dX1_richest_28 : decode cX1_richest 28 = .ok (.goto 10, 3) := by decide +kernel
theorem dX1_richest_31 : decode cX1_richest 31 = .ok (.aload_n 0, 1) := by decide +kernel
theorem dX1_richest_32 : decode cX1_richest 32 = .ok (.getfield 10, 3) := by decide +kernel
theorem dX1_richest_35 : decode cX1_richest 35 = .ok (.getfield 139, 3) := by decide +kernel
theorem dX1_richest_38 : decode cX1_richest 38 = .ok (.istore_n 2, 1) := by decide +kernel
theorem dX1_richest_39 : decode cX1_richest 39 = .ok (.bipush (-9), 2) := by decide +kernel
theorem dX1_richest_41 : decode cX1_richest 41 = .ok (.istore_n 3, 1) := by decide +kernel
theorem dX1_richest_42 : decode cX1_richest 42 = .ok (.iconst (-1), 1) := by decide +kernel
theorem dX1_richest_43 : decode cX1_richest 43 = .ok (.istore 4, 2) := by decide +kernel
theorem dX1_richest_45 : decode cX1_richest 45 = .ok (.iconst 0, 1) := by decide +kernel
theorem dX1_richest_46 : decode cX1_richest 46 = .ok (.istore 5, 2) := by decide +kernel
theorem dX1_richest_48 : decode cX1_richest 48 = .ok (.iload 5, 2) := by decide +kernel
theorem dX1_richest_50 : decode cX1_richest 50 = .ok (.iload_n 2, 1) := by decide +kernel
theorem dX1_richest_51 : decode cX1_richest 51 = .ok (.if_icmp .ge 32, 3) := by decide +kernel
theorem dX1_richest_54 : decode cX1_richest 54 = .ok (.aload_n 0, 1) := by decide +kernel
theorem dX1_richest_55 : decode cX1_richest 55 = .ok (.iload 5, 2) := by decide +kernel
theorem dX1_richest_57 : decode cX1_richest 57 = .ok (.iload_n 1, 1) := by decide +kernel
theorem dX1_richest_58 : decode cX1_richest 58 = .ok (.invokevirtual 142, 3) := by decide +kernel
theorem dX1_richest_61 : decode cX1_richest 61 = .ok (.istore 6, 2) := by decide +kernel
theorem dX1_richest_63 : decode cX1_richest 63 = .ok (.iload 6, 2) := by decide +kernel
theorem dX1_richest_65 : decode cX1_richest 65 = .ok (.iload 4, 2) := by decide +kernel
theorem dX1_richest_67 : decode cX1_richest 67 = .ok (.if_icmp .le 10, 3) := by decide +kernel
theorem dX1_richest_70 : decode cX1_richest 70 = .ok (.iload 6, 2) := by decide +kernel
theorem dX1_richest_72 : decode cX1_richest 72 = .ok (.istore 4, 2) := by decide +kernel
theorem dX1_richest_74 : decode cX1_richest 74 = .ok (.iload 5, 2) := by decide +kernel
theorem dX1_richest_76 : decode cX1_richest 76 = .ok (.istore_n 3, 1) := by decide +kernel
theorem dX1_richest_77 : decode cX1_richest 77 = .ok (.iinc 5 1, 3) := by decide +kernel
theorem dX1_richest_80 : decode cX1_richest 80 = .ok (.goto (-32), 3) := by decide +kernel
theorem dX1_richest_83 : decode cX1_richest 83 = .ok (.iload_n 3, 1) := by decide +kernel
theorem dX1_richest_84 : decode cX1_richest 84 = .ok (.ireturn, 1) := by decide +kernel
set_option maxRecDepth 20000 in
theorem ggX1_owned_X0_ownBits : GoodIn wsX1_owned wsX0_ownBits := goodIn_r _ [5, 6, 7, 8, 9, 10, 11, 52, 53, 54, 55, 56, 57, 58, 59, 60, 61, 62, 63, 64] (by decide +kernel) (by decide +kernel)
set_option maxRecDepth 20000 in
theorem gX1_owned_X0_ownBits_n145 : GoodIn wsX1_owned (wsX0_ownBits) := ggX1_owned_X0_ownBits
set_option maxRecDepth 20000 in
theorem ggX1_owned_X0_allCardBits : GoodIn wsX1_owned wsX0_allCardBits := goodIn_r _ [14, 6, 52, 53, 54, 55, 56, 57, 58, 59, 60, 61, 62, 63, 64] (by decide +kernel) (by decide +kernel)
set_option maxRecDepth 20000 in
theorem gX1_owned_X0_allCardBits_n148 : GoodIn wsX1_owned (wsX0_allCardBits) := ggX1_owned_X0_allCardBits
set_option maxRecDepth 20000 in
theorem ggX1_owned_X0_pileBits : GoodIn wsX1_owned wsX0_pileBits := goodIn_r _ [17, 6, 18, 19, 20, 3, 21, 7, 22, 23, 24, 25, 9, 10, 11, 52, 53, 54, 55, 56, 57, 58, 59, 60, 61, 62, 63, 64] (by decide +kernel) (by decide +kernel)
set_option maxRecDepth 20000 in
theorem gX1_owned_X0_pileBits_n151 : GoodIn wsX1_owned (wsX0_pileBits) := ggX1_owned_X0_pileBits
set_option maxRecDepth 20000 in
theorem ggX1_owned_X0_cleanBits : GoodIn wsX1_owned wsX0_cleanBits := goodIn_r _ [28, 29, 6, 8, 9, 10, 11, 52, 53, 54, 55, 56, 57, 58, 59, 60, 61, 62, 63, 64] (by decide +kernel) (by decide +kernel)
set_option maxRecDepth 20000 in
theorem gX1_owned_X0_cleanBits_n154 : GoodIn wsX1_owned (wsX0_cleanBits) := ggX1_owned_X0_cleanBits
set_option maxRecDepth 20000 in
theorem ggX1_owned_X0_allPurses : GoodIn wsX1_owned wsX0_allPurses := goodIn_r _ [32, 29, 33, 9, 10, 11, 52, 53, 54, 55, 56, 57, 58, 59, 60, 61, 62, 63, 64] (by decide +kernel) (by decide +kernel)
set_option maxRecDepth 20000 in
theorem gX1_owned_X0_allPurses_n157 : GoodIn wsX1_owned (wsX0_allPurses) := ggX1_owned_X0_allPurses
set_option maxRecDepth 20000 in
theorem ggX1_owned_X1_refuse : GoodIn wsX1_owned wsX1_refuse := goodIn_r _ [37, 38, 39, 9, 10, 11, 40, 41, 42, 43, 44, 45, 46, 47, 48, 49, 50, 51] (by decide +kernel) (by decide +kernel)
set_option maxRecDepth 20000 in
theorem gX1_owned_X1_refuse : GoodIn wsX1_owned (wsV RX1 32 RX1 yX1_refuse wsX1_refuse) := goodIn_app (goodIn_of _ (by decide +kernel)) ggX1_owned_X1_refuse
theorem dX1_owned_0 : decode cX1_owned 0 = .ok (.iload_n 1, 1) := by decide +kernel
theorem dX1_owned_1 : decode cX1_owned 1 = .ok (.tableswitch 83 0 3 #[31, 39, 67, 75], 31) := by decide +kernel
theorem dX1_owned_32 : decode cX1_owned 32 = .ok (.aload_n 0, 1) := by decide +kernel
theorem dX1_owned_33 : decode cX1_owned 33 = .ok (.getfield 10, 3) := by decide +kernel
theorem dX1_owned_36 : decode cX1_owned 36 = .ok (.invokevirtual 145, 3) := by decide +kernel
theorem dX1_owned_39 : decode cX1_owned 39 = .ok (.ireturn, 1) := by decide +kernel
theorem dX1_owned_40 : decode cX1_owned 40 = .ok (.aload_n 0, 1) := by decide +kernel
theorem dX1_owned_41 : decode cX1_owned 41 = .ok (.getfield 10, 3) := by decide +kernel
theorem dX1_owned_44 : decode cX1_owned 44 = .ok (.invokevirtual 148, 3) := by decide +kernel
theorem dX1_owned_47 : decode cX1_owned 47 = .ok (.aload_n 0, 1) := by decide +kernel
theorem dX1_owned_48 : decode cX1_owned 48 = .ok (.getfield 10, 3) := by decide +kernel
theorem dX1_owned_51 : decode cX1_owned 51 = .ok (.invokevirtual 151, 3) := by decide +kernel
theorem dX1_owned_54 : decode cX1_owned 54 = .ok (.iconst (-1), 1) := by decide +kernel
theorem dX1_owned_55 : decode cX1_owned 55 = .ok (.ixor, 1) := by decide +kernel
theorem dX1_owned_56 : decode cX1_owned 56 = .ok (.iand, 1) := by decide +kernel
theorem dX1_owned_57 : decode cX1_owned 57 = .ok (.aload_n 0, 1) := by decide +kernel
theorem dX1_owned_58 : decode cX1_owned 58 = .ok (.getfield 10, 3) := by decide +kernel
theorem dX1_owned_61 : decode cX1_owned 61 = .ok (.invokevirtual 145, 3) := by decide +kernel
theorem dX1_owned_64 : decode cX1_owned 64 = .ok (.iconst (-1), 1) := by decide +kernel
theorem dX1_owned_65 : decode cX1_owned 65 = .ok (.ixor, 1) := by decide +kernel
theorem dX1_owned_66 : decode cX1_owned 66 = .ok (.iand, 1) := by decide +kernel
theorem dX1_owned_67 : decode cX1_owned 67 = .ok (.ireturn, 1) := by decide +kernel
theorem dX1_owned_68 : decode cX1_owned 68 = .ok (.aload_n 0, 1) := by decide +kernel
theorem dX1_owned_69 : decode cX1_owned 69 = .ok (.getfield 10, 3) := by decide +kernel
theorem dX1_owned_72 : decode cX1_owned 72 = .ok (.invokevirtual 154, 3) := by decide +kernel
theorem dX1_owned_75 : decode cX1_owned 75 = .ok (.ireturn, 1) := by decide +kernel
theorem dX1_owned_76 : decode cX1_owned 76 = .ok (.aload_n 0, 1) := by decide +kernel
theorem dX1_owned_77 : decode cX1_owned 77 = .ok (.getfield 10, 3) := by decide +kernel
theorem dX1_owned_80 : decode cX1_owned 80 = .ok (.invokevirtual 157, 3) := by decide +kernel
theorem dX1_owned_83 : decode cX1_owned 83 = .ok (.ireturn, 1) := by decide +kernel
theorem dX1_owned_84 : decode cX1_owned 84 = .ok (.aload_n 0, 1) := by decide +kernel
theorem dX1_owned_85 : decode cX1_owned 85 = .ok (.bipush (-2), 2) := by decide +kernel
theorem dX1_owned_87 : decode cX1_owned 87 = .ok (.invokevirtual 32, 3) := by decide +kernel
theorem dX1_owned_90 : decode cX1_owned 90 = .ok (.ireturn, 1) := by decide +kernel
set_option maxRecDepth 20000 in
theorem ggX1_mean_X1_refuseFar : GoodIn wsX1_mean wsX1_refuseFar := goodIn_r _ [6, 7, 8, 9, 10, 5, 11, 12, 13, 14, 15, 16, 17, 18, 28, 29, 30, 31, 32, 33, 34, 35, 36] (by decide +kernel) (by decide +kernel)
set_option maxRecDepth 20000 in
theorem gX1_mean_X1_refuseFar : GoodIn wsX1_mean (wsV RX1 160 RX1 yX1_refuseFar wsX1_refuseFar) := goodIn_app (goodIn_of _ (by decide +kernel)) ggX1_mean_X1_refuseFar
set_option maxRecDepth 20000 in
theorem ggX1_mean_X0_allPurses : GoodIn wsX1_mean wsX0_allPurses := goodIn_r _ [22, 23, 24, 14, 5, 15, 37, 38, 39, 40, 41, 42, 43, 44, 45, 46, 47, 48, 49] (by decide +kernel) (by decide +kernel)
set_option maxRecDepth 20000 in
theorem gX1_mean_X0_allPurses_n157 : GoodIn wsX1_mean (wsX0_allPurses) := ggX1_mean_X0_allPurses
set_option maxRecDepth 20000 in
theorem ggX1_mean_X1_inLeastTerms : GoodIn wsX1_mean wsX1_inLeastTerms := goodIn_r _ [27] (by decide +kernel) (by decide +kernel)
set_option maxRecDepth 20000 in
theorem gX1_mean_X1_inLeastTerms : GoodIn wsX1_mean (va_wsS RX1 164 yX1_inLeastTerms wsX1_inLeastTerms) := goodIn_app (goodIn_of _ (by decide +kernel)) ggX1_mean_X1_inLeastTerms
theorem dX1_mean_0 : decode cX1_mean 0 = .ok (.iload_n 1, 1) := by decide +kernel
theorem dX1_mean_1 : decode cX1_mean 1 = .ok (.ifCond .lt 8, 3) := by decide +kernel
theorem dX1_mean_4 : decode cX1_mean 4 = .ok (.iload_n 1, 1) := by decide +kernel
theorem dX1_mean_5 : decode cX1_mean 5 = .ok (.iconst 1, 1) := by decide +kernel
theorem dX1_mean_6 : decode cX1_mean 6 = .ok (.if_icmp .le 10, 3) := by decide +kernel
theorem dX1_mean_9 : decode cX1_mean 9 = .ok (.aload_n 0, 1) := by decide +kernel
theorem dX1_mean_10 : decode cX1_mean 10 = .ok (.bipush (-2), 2) := by decide +kernel
theorem dX1_mean_12 : decode cX1_mean 12 = .ok (.invokevirtual 160, 3) := by decide +kernel
theorem dX1_mean_15 : decode cX1_mean 15 = .ok (.lreturn, 1) := by decide +kernel
theorem dX1_mean_16 : decode cX1_mean 16 = .ok (.aload_n 0, 1) := by decide +kernel
theorem dX1_mean_17 : decode cX1_mean 17 = .ok (.getfield 10, 3) := by decide +kernel
theorem dX1_mean_20 : decode cX1_mean 20 = .ok (.invokevirtual 157, 3) := by decide +kernel
theorem dX1_mean_23 : decode cX1_mean 23 = .ok (.i2l, 1) := by decide +kernel
theorem dX1_mean_24 : decode cX1_mean 24 = .ok (.aload_n 0, 1) := by decide +kernel
theorem dX1_mean_25 : decode cX1_mean 25 = .ok (.getfield 10, 3) := by decide +kernel
theorem dX1_mean_28 : decode cX1_mean 28 = .ok (.getfield 139, 3) := by decide +kernel
theorem dX1_mean_31 : decode cX1_mean 31 = .ok (.i2l, 1) := by decide +kernel
theorem dX1_mean_32 : decode cX1_mean 32 = .ok (.iload_n 1, 1) := by decide +kernel
theorem dX1_mean_33 : decode cX1_mean 33 = .ok (.invokestatic 164, 3) := by decide +kernel
theorem dX1_mean_36 : decode cX1_mean 36 = .ok (.lreturn, 1) := by decide +kernel
set_option maxRecDepth 20000 in
theorem ggX1_count_X0_pileBits : GoodIn wsX1_count wsX0_pileBits := goodIn_r _ [8, 9, 10, 11, 12, 6, 13, 14, 15, 16, 17, 18, 19, 20, 21, 51, 52, 53, 54, 55, 56, 57, 58, 59, 60, 61, 62, 63] (by decide +kernel) (by decide +kernel)
set_option maxRecDepth 20000 in
theorem gX1_count_X0_pileBits_n151 : GoodIn wsX1_count (wsX0_pileBits) := ggX1_count_X0_pileBits
set_option maxRecDepth 20000 in
theorem ggX1_count_X0_allWorth : GoodIn wsX1_count wsX0_allWorth := goodIn_r _ [24, 9, 25, 26, 27, 6, 28, 29, 30, 31, 32, 33, 34, 35, 19, 20, 21, 51, 52, 53, 54, 55, 56, 57, 58, 59, 60, 61, 62, 63] (by decide +kernel) (by decide +kernel)
set_option maxRecDepth 20000 in
theorem gX1_count_X0_allWorth_n171 : GoodIn wsX1_count (wsX0_allWorth) := ggX1_count_X0_allWorth
set_option maxRecDepth 20000 in
theorem ggX1_count_X0_allBelieved : GoodIn wsX1_count wsX0_allBelieved := goodIn_r _ [38, 39, 40, 19, 20, 21, 51, 52, 53, 54, 55, 56, 57, 58, 59, 60, 61, 62, 63] (by decide +kernel) (by decide +kernel)
set_option maxRecDepth 20000 in
theorem gX1_count_X0_allBelieved_n174 : GoodIn wsX1_count (wsX0_allBelieved) := ggX1_count_X0_allBelieved
set_option maxRecDepth 20000 in
theorem ggX1_count_X1_at : GoodIn wsX1_count wsX1_at := goodIn_r _ [21] (by decide +kernel) (by decide +kernel)
set_option maxRecDepth 20000 in
theorem gX1_count_X1_at : GoodIn wsX1_count (va_wsS RX1 51 yX1_at wsX1_at) := goodIn_app (goodIn_of _ (by decide +kernel)) ggX1_count_X1_at
theorem dX1_count_0 : decode cX1_count 0 = .ok (.iload_n 1, 1) := by decide +kernel
theorem dX1_count_1 : decode cX1_count 1 = .ok (.tableswitch 105 0 7 #[47, 55, 63, 71, 79, 87, 95, 100], 47) := by decide +kernel
theorem dX1_count_48 : decode cX1_count 48 = .ok (.aload_n 0, 1) := by decide +kernel
theorem dX1_count_49 : decode cX1_count 49 = .ok (.getfield 10, 3) := by decide +kernel
theorem dX1_count_52 : decode cX1_count 52 = .ok (.getfield 136, 3) := by decide +kernel
theorem dX1_count_55 : decode cX1_count 55 = .ok (.ireturn, 1) := by decide +kernel
theorem dX1_count_56 : decode cX1_count 56 = .ok (.aload_n 0, 1) := by decide +kernel
theorem dX1_count_57 : decode cX1_count 57 = .ok (.getfield 10, 3) := by decide +kernel
theorem dX1_count_60 : decode cX1_count 60 = .ok (.getfield 139, 3) := by decide +kernel
theorem dX1_count_63 : decode cX1_count 63 = .ok (.ireturn, 1) := by decide +kernel
theorem dX1_count_64 : decode cX1_count 64 = .ok (.aload_n 0, 1) := by decide +kernel
theorem dX1_count_65 : decode cX1_count 65 = .ok (.getfield 10, 3) := by decide +kernel
theorem dX1_count_68 : decode cX1_count 68 = .ok (.getfield 168, 3) := by decide +kernel
theorem dX1_count_71 : decode cX1_count 71 = .ok (.ireturn, 1) := by decide +kernel
theorem dX1_count_72 : decode cX1_count 72 = .ok (.aload_n 0, 1) := by decide +kernel
theorem dX1_count_73 : decode cX1_count 73 = .ok (.getfield 10, 3) := by decide +kernel
theorem dX1_count_76 : decode cX1_count 76 = .ok (.invokevirtual 151, 3) := by decide +kernel
theorem dX1_count_79 : decode cX1_count 79 = .ok (.ireturn, 1) := by decide +kernel
theorem dX1_count_80 : decode cX1_count 80 = .ok (.aload_n 0, 1) := by decide +kernel
theorem dX1_count_81 : decode cX1_count 81 = .ok (.getfield 10, 3) := by decide +kernel
theorem dX1_count_84 : decode cX1_count 84 = .ok (.invokevirtual 171, 3) := by decide +kernel
theorem dX1_count_87 : decode cX1_count 87 = .ok (.ireturn, 1) := by decide +kernel
theorem dX1_count_88 : decode cX1_count 88 = .ok (.aload_n 0, 1) := by decide +kernel
theorem dX1_count_89 : decode cX1_count 89 = .ok (.getfield 10, 3) := by decide +kernel
theorem dX1_count_92 : decode cX1_count 92 = .ok (.invokevirtual 174, 3) := by decide +kernel
theorem dX1_count_95 : decode cX1_count 95 = .ok (.ireturn, 1) := by decide +kernel
theorem dX1_count_96 : decode cX1_count 96 = .ok (.aload_n 0, 1) := by decide +kernel
theorem dX1_count_97 : decode cX1_count 97 = .ok (.getfield 177, 3) := by decide +kernel
theorem dX1_count_100 : decode cX1_count 100 = .ok (.ireturn, 1) := by decide +kernel
theorem dX1_count_101 : decode cX1_count 101 = .ok (.aload_n 0, 1) := by decide +kernel
theorem dX1_count_102 : decode cX1_count 102 = .ok (.getfield 36, 3) := by decide +kernel
theorem dX1_count_105 : decode cX1_count 105 = .ok (.ireturn, 1) := by decide +kernel
theorem dX1_count_106 : decode cX1_count 106 = .ok (.iload_n 1, 1) := by decide +kernel
theorem dX1_count_107 : decode cX1_count 107 = .ok (.bipush 11, 2) := by decide +kernel
theorem dX1_count_109 : decode cX1_count 109 = .ok (.if_icmp .lt 23, 3) := by decide +kernel
theorem dX1_count_112 : decode cX1_count 112 = .ok (.iload_n 1, 1) := by decide +kernel
theorem dX1_count_113 : decode cX1_count 113 = .ok (.bipush 16, 2) := by decide +kernel
theorem dX1_count_115 : decode cX1_count 115 = .ok (.if_icmp .gt 17, 3) := by decide +kernel
theorem dX1_count_118 : decode cX1_count 118 = .ok (.aload_n 0, 1) := by decide +kernel
theorem dX1_count_119 : decode cX1_count 119 = .ok (.getfield 29, 3) := by decide +kernel
theorem dX1_count_122 : decode cX1_count 122 = .ok (.iload_n 1, 1) := by decide +kernel
theorem dX1_count_123 : decode cX1_count 123 = .ok (.bipush 10, 2) := by decide +kernel
theorem dX1_count_125 : decode cX1_count 125 = .ok (.isub, 1) := by decide +kernel
theorem dX1_count_126 : decode cX1_count 126 = .ok (.invokestatic 51, 3) := by decide +kernel
theorem dX1_count_129 : decode cX1_count 129 = .ok (.goto 5, 3) := by decide +kernel
theorem dX1_count_132 : decode cX1_count 132 = .ok (.bipush (-9), 2) := by decide +kernel
theorem dX1_count_134 : decode cX1_count 134 = .ok (.ireturn, 1) := by decide +kernel
set_option maxRecDepth 20000 in
theorem ggX1_cardThen_X0_hasCard : GoodIn wsX1_cardThen wsX0_hasCard := goodIn_r _ [6, 7, 93, 94, 95, 96, 97, 98, 99, 100, 101, 102, 103, 104, 105] (by decide +kernel) (by decide +kernel)
set_option maxRecDepth 20000 in
theorem gX1_cardThen_X0_hasCard_n69 : GoodIn wsX1_cardThen (wsX0_hasCard) := ggX1_cardThen_X0_hasCard
set_option maxRecDepth 20000 in
theorem ggX1_cardThen_X1_refuse : GoodIn wsX1_cardThen wsX1_refuse := goodIn_r _ [12, 13, 14, 15, 11, 16, 17, 18, 19, 84, 85, 86, 87, 88, 89, 90, 91, 92] (by decide +kernel) (by decide +kernel)
set_option maxRecDepth 20000 in
theorem gX1_cardThen_X1_refuse : GoodIn wsX1_cardThen (wsV RX1 32 RX1 yX1_refuse wsX1_refuse) := goodIn_app (goodIn_of _ (by decide +kernel)) ggX1_cardThen_X1_refuse
set_option maxRecDepth 20000 in
theorem ggX1_cardThen_X1_beyond : GoodIn wsX1_cardThen wsX1_beyond := goodIn_r _ [22] (by decide +kernel) (by decide +kernel)
set_option maxRecDepth 20000 in
theorem gX1_cardThen_X1_beyond : GoodIn wsX1_cardThen (va_wsS RX1 62 yX1_beyond wsX1_beyond) := goodIn_app (goodIn_of _ (by decide +kernel)) ggX1_cardThen_X1_beyond
set_option maxRecDepth 20000 in
theorem ggX1_cardThen_X0_become : GoodIn wsX1_cardThen wsX0_become := goodIn_r _ [25, 7, 26, 27, 28, 29, 30, 31, 32, 33, 34, 35, 36, 37, 38, 11, 39, 40, 41, 42, 43, 44, 45, 46, 47, 93, 94, 95, 96, 97, 98, 99, 100, 101, 102, 103, 104, 105] (by decide +kernel) (by decide +kernel)
set_option maxRecDepth 20000 in
theorem gX1_cardThen_X0_become_n47 : GoodIn wsX1_cardThen (wsX0_become) := ggX1_cardThen_X0_become
set_option maxRecDepth 20000 in
theorem ggX1_cardThen_X0_goOn : GoodIn wsX1_cardThen wsX0_goOn := goodIn_r _ [50, 27, 7, 33, 15, 11, 16, 51, 52, 53, 4, 54, 32, 55, 3, 5, 6, 56, 57, 58, 59, 30, 36, 37, 60, 41, 42, 43, 61, 62, 63, 64, 65, 66, 67, 26, 68, 69, 70, 71, 29, 31, 28, 72, 73, 74, 75, 35, 34, 76, 77, 78, 79, 18, 19, 80, 81, 82, 83, 93, 94, 95, 96, 97, 98, 99, 100, 101, 102, 103, 104, 105] (by decide +kernel) (by decide +kernel)
set_option maxRecDepth 20000 in
theorem gX1_cardThen_X0_goOn_n97 : GoodIn wsX1_cardThen (wsX0_goOn) := ggX1_cardThen_X0_goOn
set_option maxRecDepth 20000 in
theorem ggX1_cardThen_X1_at : GoodIn wsX1_cardThen wsX1_at := goodIn_r _ [16] (by decide +kernel) (by decide +kernel)
set_option maxRecDepth 20000 in
theorem gX1_cardThen_X1_at : GoodIn wsX1_cardThen (va_wsS RX1 51 yX1_at wsX1_at) := goodIn_app (goodIn_of _ (by decide +kernel)) ggX1_cardThen_X1_at
theorem dX1_cardThen_0 : decode cX1_cardThen 0 = .ok (.aload_n 0, 1) := by decide +kernel
theorem dX1_cardThen_1 : decode cX1_cardThen 1 = .ok (.getfield 10, 3) := by decide +kernel
theorem dX1_cardThen_4 : decode cX1_cardThen 4 = .ok (.iload_n 1, 1) := by decide +kernel
theorem dX1_cardThen_5 : decode cX1_cardThen 5 = .ok (.invokevirtual 69, 3) := by decide +kernel
theorem dX1_cardThen_8 : decode cX1_cardThen 8 = .ok (.ifCond .ne 9, 3) := by decide +kernel
theorem dX1_cardThen_11 : decode cX1_cardThen 11 = .ok (.aload_n 0, 1) := by decide +kernel
theorem dX1_cardThen_12 : decode cX1_cardThen 12 = .ok (.iconst (-1), 1) := by decide +kernel
theorem dX1_cardThen_13 : decode cX1_cardThen 13 = .ok (.invokevirtual 32, 3) := by decide +kernel
theorem dX1_cardThen_16 : decode cX1_cardThen 16 = .ok (.ireturn, 1) := by decide +kernel
theorem dX1_cardThen_17 : decode cX1_cardThen 17 = .ok (.iload_n 2, 1) := by decide +kernel
theorem dX1_cardThen_18 : decode cX1_cardThen 18 = .ok (.iconst 0, 1) := by decide +kernel
theorem dX1_cardThen_19 : decode cX1_cardThen 19 = .ok (.bipush 60, 2) := by decide +kernel
theorem dX1_cardThen_21 : decode cX1_cardThen 21 = .ok (.invokestatic 62, 3) := by decide +kernel
theorem dX1_cardThen_24 : decode cX1_cardThen 24 = .ok (.istore_n 3, 1) := by decide +kernel
theorem dX1_cardThen_25 : decode cX1_cardThen 25 = .ok (.iload_n 3, 1) := by decide +kernel
theorem dX1_cardThen_26 : decode cX1_cardThen 26 = .ok (.ifCond .eq 9, 3) := by decide +kernel
theorem dX1_cardThen_29 : decode cX1_cardThen 29 = .ok (.aload_n 0, 1) := by decide +kernel
theorem dX1_cardThen_30 : decode cX1_cardThen 30 = .ok (.iload_n 3, 1) := by decide +kernel
theorem dX1_cardThen_31 : decode cX1_cardThen 31 = .ok (.invokevirtual 32, 3) := by decide +kernel
theorem dX1_cardThen_34 : decode cX1_cardThen 34 = .ok (.ireturn, 1) := by decide +kernel
theorem dX1_cardThen_35 : decode cX1_cardThen 35 = .ok (.aload_n 0, 1) := by decide +kernel
theorem dX1_cardThen_36 : decode cX1_cardThen 36 = .ok (.getfield 16, 3) := by decide +kernel
theorem dX1_cardThen_39 : decode cX1_cardThen 39 = .ok (.aload_n 0, 1) := by decide +kernel
theorem dX1_cardThen_40 : decode cX1_cardThen 40 = .ok (.getfield 10, 3) := by decide +kernel
theorem dX1_cardThen_43 : decode cX1_cardThen 43 = .ok (.invokevirtual 47, 3) := by decide +kernel
theorem dX1_cardThen_46 : decode cX1_cardThen 46 = .ok (.aload_n 0, 1) := by decide +kernel
theorem dX1_cardThen_47 : decode cX1_cardThen 47 = .ok (.getfield 16, 3) := by decide +kernel
theorem dX1_cardThen_50 : decode cX1_cardThen 50 = .ok (.iload_n 2, 1) := by decide +kernel
theorem dX1_cardThen_51 : decode cX1_cardThen 51 = .ok (.iconst 1, 1) := by decide +kernel
theorem dX1_cardThen_52 : decode cX1_cardThen 52 = .ok (.invokevirtual 97, 3) := by decide +kernel
theorem dX1_cardThen_55 : decode cX1_cardThen 55 = .ok (.pop, 1) := by decide +kernel
theorem dX1_cardThen_56 : decode cX1_cardThen 56 = .ok (.aload_n 0, 1) := by decide +kernel
theorem dX1_cardThen_57 : decode cX1_cardThen 57 = .ok (.getfield 16, 3) := by decide +kernel
theorem dX1_cardThen_60 : decode cX1_cardThen 60 = .ok (.getfield 75, 3) := by decide +kernel
theorem dX1_cardThen_63 : decode cX1_cardThen 63 = .ok (.iload_n 1, 1) := by decide +kernel
theorem dX1_cardThen_64 : decode cX1_cardThen 64 = .ok (.invokestatic 51, 3) := by decide +kernel
theorem dX1_cardThen_67 : decode cX1_cardThen 67 = .ok (.ireturn, 1) := by decide +kernel
set_option maxRecDepth 20000 in
theorem ggX1_bidderThen_X0_hasBidder : GoodIn wsX1_bidderThen wsX0_hasBidder := goodIn_r _ [6, 7, 93, 94, 95, 96, 97, 98, 99, 100, 101, 102, 103, 104, 105] (by decide +kernel) (by decide +kernel)
set_option maxRecDepth 20000 in
theorem gX1_bidderThen_X0_hasBidder_n59 : GoodIn wsX1_bidderThen (wsX0_hasBidder) := ggX1_bidderThen_X0_hasBidder
set_option maxRecDepth 20000 in
theorem ggX1_bidderThen_X1_refuse : GoodIn wsX1_bidderThen wsX1_refuse := goodIn_r _ [12, 13, 14, 15, 11, 16, 17, 18, 19, 84, 85, 86, 87, 88, 89, 90, 91, 92] (by decide +kernel) (by decide +kernel)
set_option maxRecDepth 20000 in
theorem gX1_bidderThen_X1_refuse : GoodIn wsX1_bidderThen (wsV RX1 32 RX1 yX1_refuse wsX1_refuse) := goodIn_app (goodIn_of _ (by decide +kernel)) ggX1_bidderThen_X1_refuse
set_option maxRecDepth 20000 in
theorem ggX1_bidderThen_X1_beyond : GoodIn wsX1_bidderThen wsX1_beyond := goodIn_r _ [22] (by decide +kernel) (by decide +kernel)
set_option maxRecDepth 20000 in
theorem gX1_bidderThen_X1_beyond : GoodIn wsX1_bidderThen (va_wsS RX1 62 yX1_beyond wsX1_beyond) := goodIn_app (goodIn_of _ (by decide +kernel)) ggX1_bidderThen_X1_beyond
set_option maxRecDepth 20000 in
theorem ggX1_bidderThen_X0_become : GoodIn wsX1_bidderThen wsX0_become := goodIn_r _ [25, 26, 7, 27, 28, 29, 30, 31, 32, 33, 34, 35, 36, 37, 38, 11, 39, 40, 41, 42, 43, 44, 45, 46, 47, 93, 94, 95, 96, 97, 98, 99, 100, 101, 102, 103, 104, 105] (by decide +kernel) (by decide +kernel)
set_option maxRecDepth 20000 in
theorem gX1_bidderThen_X0_become_n47 : GoodIn wsX1_bidderThen (wsX0_become) := ggX1_bidderThen_X0_become
set_option maxRecDepth 20000 in
theorem ggX1_bidderThen_X0_goOn : GoodIn wsX1_bidderThen wsX0_goOn := goodIn_r _ [50, 27, 26, 33, 15, 11, 16, 51, 52, 53, 4, 54, 32, 55, 56, 57, 58, 59, 60, 61, 62, 30, 36, 37, 63, 41, 42, 43, 64, 65, 66, 67, 68, 69, 70, 7, 71, 72, 73, 74, 29, 31, 28, 75, 76, 77, 78, 35, 34, 79, 3, 5, 6, 18, 19, 80, 81, 82, 83, 93, 94, 95, 96, 97, 98, 99, 100, 101, 102, 103, 104, 105] (by decide +kernel) (by decide +kernel)
set_option maxRecDepth 20000 in
theorem gX1_bidderThen_X0_goOn_n97 : GoodIn wsX1_bidderThen (wsX0_goOn) := ggX1_bidderThen_X0_goOn
set_option maxRecDepth 20000 in
theorem ggX1_bidderThen_X1_at : GoodIn wsX1_bidderThen wsX1_at := goodIn_r _ [16] (by decide +kernel) (by decide +kernel)
set_option maxRecDepth 20000 in
theorem gX1_bidderThen_X1_at : GoodIn wsX1_bidderThen (va_wsS RX1 51 yX1_at wsX1_at) := goodIn_app (goodIn_of _ (by decide +kernel)) ggX1_bidderThen_X1_at
theorem dX1_bidderThen_0 : decode cX1_bidderThen 0 = .ok (.aload_n 0, 1) := by decide +kernel
theorem dX1_bidderThen_1 : decode cX1_bidderThen 1 = .ok (.getfield 10, 3) := by decide +kernel
theorem dX1_bidderThen_4 : decode cX1_bidderThen 4 = .ok (.iload_n 1, 1) := by decide +kernel
theorem dX1_bidderThen_5 : decode cX1_bidderThen 5 = .ok (.invokevirtual 59, 3) := by decide +kernel
theorem dX1_bidderThen_8 : decode cX1_bidderThen 8 = .ok (.ifCond .ne 9, 3) := by decide +kernel
theorem dX1_bidderThen_11 : decode cX1_bidderThen 11 = .ok (.aload_n 0, 1) := by decide +kernel
theorem dX1_bidderThen_12 : decode cX1_bidderThen 12 = .ok (.iconst (-1), 1) := by decide +kernel
theorem dX1_bidderThen_13 : decode cX1_bidderThen 13 = .ok (.invokevirtual 32, 3) := by decide +kernel
theorem dX1_bidderThen_16 : decode cX1_bidderThen 16 = .ok (.ireturn, 1) := by decide +kernel
theorem dX1_bidderThen_17 : decode cX1_bidderThen 17 = .ok (.iload_n 2, 1) := by decide +kernel
theorem dX1_bidderThen_18 : decode cX1_bidderThen 18 = .ok (.iconst 0, 1) := by decide +kernel
theorem dX1_bidderThen_19 : decode cX1_bidderThen 19 = .ok (.bipush 60, 2) := by decide +kernel
theorem dX1_bidderThen_21 : decode cX1_bidderThen 21 = .ok (.invokestatic 62, 3) := by decide +kernel
theorem dX1_bidderThen_24 : decode cX1_bidderThen 24 = .ok (.istore 4, 2) := by decide +kernel
theorem dX1_bidderThen_26 : decode cX1_bidderThen 26 = .ok (.iload 4, 2) := by decide +kernel
theorem dX1_bidderThen_28 : decode cX1_bidderThen 28 = .ok (.ifCond .eq 10, 3) := by decide +kernel
theorem dX1_bidderThen_31 : decode cX1_bidderThen 31 = .ok (.aload_n 0, 1) := by decide +kernel
theorem dX1_bidderThen_32 : decode cX1_bidderThen 32 = .ok (.iload 4, 2) := by decide +kernel
theorem dX1_bidderThen_34 : decode cX1_bidderThen 34 = .ok (.invokevirtual 32, 3) := by decide +kernel
theorem dX1_bidderThen_37 : decode cX1_bidderThen 37 = .ok (.ireturn, 1) := by decide +kernel
theorem dX1_bidderThen_38 : decode cX1_bidderThen 38 = .ok (.iload_n 3, 1) := by decide +kernel
theorem dX1_bidderThen_39 : decode cX1_bidderThen 39 = .ok (.ifCond .lt 8, 3) := by decide +kernel
theorem dX1_bidderThen_42 : decode cX1_bidderThen 42 = .ok (.iload_n 3, 1) := by decide +kernel
theorem dX1_bidderThen_43 : decode cX1_bidderThen 43 = .ok (.iconst 1, 1) := by decide +kernel
theorem dX1_bidderThen_44 : decode cX1_bidderThen 44 = .ok (.if_icmp .le 10, 3) := by decide +kernel
theorem dX1_bidderThen_47 : decode cX1_bidderThen 47 = .ok (.aload_n 0, 1) := by decide +kernel
theorem dX1_bidderThen_48 : decode cX1_bidderThen 48 = .ok (.bipush (-2), 2) := by decide +kernel
theorem dX1_bidderThen_50 : decode cX1_bidderThen 50 = .ok (.invokevirtual 32, 3) := by decide +kernel
theorem dX1_bidderThen_53 : decode cX1_bidderThen 53 = .ok (.ireturn, 1) := by decide +kernel
theorem dX1_bidderThen_54 : decode cX1_bidderThen 54 = .ok (.aload_n 0, 1) := by decide +kernel
theorem dX1_bidderThen_55 : decode cX1_bidderThen 55 = .ok (.getfield 16, 3) := by decide +kernel
theorem dX1_bidderThen_58 : decode cX1_bidderThen 58 = .ok (.aload_n 0, 1) := by decide +kernel
theorem dX1_bidderThen_59 : decode cX1_bidderThen 59 = .ok (.getfield 10, 3) := by decide +kernel
theorem dX1_bidderThen_62 : decode cX1_bidderThen 62 = .ok (.invokevirtual 47, 3) := by decide +kernel
theorem dX1_bidderThen_65 : decode cX1_bidderThen 65 = .ok (.aload_n 0, 1) := by decide +kernel
theorem dX1_bidderThen_66 : decode cX1_bidderThen 66 = .ok (.getfield 16, 3) := by decide +kernel
theorem dX1_bidderThen_69 : decode cX1_bidderThen 69 = .ok (.iload_n 2, 1) := by decide +kernel
theorem dX1_bidderThen_70 : decode cX1_bidderThen 70 = .ok (.iconst 1, 1) := by decide +kernel
theorem dX1_bidderThen_71 : decode cX1_bidderThen 71 = .ok (.invokevirtual 97, 3) := by decide +kernel
theorem dX1_bidderThen_74 : decode cX1_bidderThen 74 = .ok (.pop, 1) := by decide +kernel
theorem dX1_bidderThen_75 : decode cX1_bidderThen 75 = .ok (.iload_n 3, 1) := by decide +kernel
theorem dX1_bidderThen_76 : decode cX1_bidderThen 76 = .ok (.ifCond .ne 17, 3) := by decide +kernel
theorem dX1_bidderThen_79 : decode cX1_bidderThen 79 = .ok (.aload_n 0, 1) := by decide +kernel
theorem dX1_bidderThen_80 : decode cX1_bidderThen 80 = .ok (.getfield 16, 3) := by decide +kernel
theorem dX1_bidderThen_83 : decode cX1_bidderThen 83 = .ok (.getfield 66, 3) := by decide +kernel
theorem dX1_bidderThen_86 : decode cX1_bidderThen 86 = .ok (.iload_n 1, 1) := by decide +kernel
theorem dX1_bidderThen_87 : decode cX1_bidderThen 87 = .ok (.invokestatic 51, 3) := by decide +kernel
theorem dX1_bidderThen_90 : decode cX1_bidderThen 90 = .ok (.goto 14, 3) := by decide +kernel
theorem dX1_bidderThen_93 : decode cX1_bidderThen 93 = .ok (.aload_n 0, 1) := by decide +kernel
theorem dX1_bidderThen_94 : decode cX1_bidderThen 94 = .ok (.getfield 16, 3) := by decide +kernel
theorem dX1_bidderThen_97 : decode cX1_bidderThen 97 = .ok (.getfield 123, 3) := by decide +kernel
theorem dX1_bidderThen_100 : decode cX1_bidderThen 100 = .ok (.iload_n 1, 1) := by decide +kernel
theorem dX1_bidderThen_101 : decode cX1_bidderThen 101 = .ok (.invokestatic 51, 3) := by decide +kernel
theorem dX1_bidderThen_104 : decode cX1_bidderThen 104 = .ok (.ireturn, 1) := by decide +kernel
set_option maxRecDepth 20000 in
theorem ggX1_pileThen_X1_beyond : GoodIn wsX1_pileThen wsX1_beyond := goodIn_r _ [6] (by decide +kernel) (by decide +kernel)
set_option maxRecDepth 20000 in
theorem gX1_pileThen_X1_beyond : GoodIn wsX1_pileThen (va_wsS RX1 62 yX1_beyond wsX1_beyond) := goodIn_app (goodIn_of _ (by decide +kernel)) ggX1_pileThen_X1_beyond
set_option maxRecDepth 20000 in
theorem ggX1_pileThen_X1_refuse : GoodIn wsX1_pileThen wsX1_refuse := goodIn_r _ [10, 11, 12, 13, 5, 14, 15, 16, 17, 87, 88, 89, 90, 91, 92, 93, 94, 95] (by decide +kernel) (by decide +kernel)
set_option maxRecDepth 20000 in
theorem gX1_pileThen_X1_refuse : GoodIn wsX1_pileThen (wsV RX1 32 RX1 yX1_refuse wsX1_refuse) := goodIn_app (goodIn_of _ (by decide +kernel)) ggX1_pileThen_X1_refuse
set_option maxRecDepth 20000 in
theorem ggX1_pileThen_X0_become : GoodIn wsX1_pileThen wsX0_become := goodIn_r _ [21, 22, 23, 24, 25, 26, 27, 28, 29, 30, 31, 32, 33, 34, 35, 5, 36, 37, 38, 39, 40, 41, 42, 43, 44, 96, 97, 98, 99, 100, 101, 102, 103, 104, 105, 106, 107, 108] (by decide +kernel) (by decide +kernel)
set_option maxRecDepth 20000 in
theorem gX1_pileThen_X0_become_n47 : GoodIn wsX1_pileThen (wsX0_become) := ggX1_pileThen_X0_become
set_option maxRecDepth 20000 in
theorem ggX1_pileThen_X0_goOn : GoodIn wsX1_pileThen wsX0_goOn := goodIn_r _ [47, 24, 22, 30, 13, 5, 14, 48, 49, 50, 19, 51, 29, 52, 53, 54, 55, 56, 57, 58, 59, 27, 33, 34, 60, 38, 39, 40, 61, 62, 63, 64, 65, 66, 67, 23, 68, 69, 70, 71, 26, 28, 25, 72, 73, 74, 75, 32, 31, 76, 77, 78, 79, 16, 17, 80, 81, 82, 83, 96, 97, 98, 99, 100, 101, 102, 103, 104, 105, 106, 107, 108] (by decide +kernel) (by decide +kernel)
set_option maxRecDepth 20000 in
theorem gX1_pileThen_X0_goOn_n97 : GoodIn wsX1_pileThen (wsX0_goOn) := ggX1_pileThen_X0_goOn
set_option maxRecDepth 20000 in
theorem ggX1_pileThen_X0_pileBits : GoodIn wsX1_pileThen wsX0_pileBits := goodIn_r _ [86, 22, 48, 49, 50, 19, 51, 29, 52, 53, 54, 55, 13, 5, 14, 96, 97, 98, 99, 100, 101, 102, 103, 104, 105, 106, 107, 108] (by decide +kernel) (by decide +kernel)
set_option maxRecDepth 20000 in
theorem gX1_pileThen_X0_pileBits_n151 : GoodIn wsX1_pileThen (wsX0_pileBits) := ggX1_pileThen_X0_pileBits
theorem dX1_pileThen_0 : decode cX1_pileThen 0 = .ok (.iload_n 1, 1) := by decide +kernel
theorem dX1_pileThen_1 : decode cX1_pileThen 1 = .ok (.iconst 0, 1) := by decide +kernel
theorem dX1_pileThen_2 : decode cX1_pileThen 2 = .ok (.bipush 60, 2) := by decide +kernel
theorem dX1_pileThen_4 : decode cX1_pileThen 4 = .ok (.invokestatic 62, 3) := by decide +kernel
theorem dX1_pileThen_7 : decode cX1_pileThen 7 = .ok (.istore_n 2, 1) := by decide +kernel
theorem dX1_pileThen_8 : decode cX1_pileThen 8 = .ok (.iload_n 2, 1) := by decide +kernel
theorem dX1_pileThen_9 : decode cX1_pileThen 9 = .ok (.ifCond .eq 9, 3) := by decide +kernel
theorem dX1_pileThen_12 : decode cX1_pileThen 12 = .ok (.aload_n 0, 1) := by decide +kernel
theorem dX1_pileThen_13 : decode cX1_pileThen 13 = .ok (.iload_n 2, 1) := by decide +kernel
theorem dX1_pileThen_14 : decode cX1_pileThen 14 = .ok (.invokevirtual 32, 3) := by decide +kernel
theorem dX1_pileThen_17 : decode cX1_pileThen 17 = .ok (.ireturn, 1) := by decide +kernel
theorem dX1_pileThen_18 : decode cX1_pileThen 18 = .ok (.aload_n 0, 1) := by decide +kernel
theorem dX1_pileThen_19 : decode cX1_pileThen 19 = .ok (.getfield 16, 3) := by decide +kernel
theorem dX1_pileThen_22 : decode cX1_pileThen 22 = .ok (.aload_n 0, 1) := by decide +kernel
theorem dX1_pileThen_23 : decode cX1_pileThen 23 = .ok (.getfield 10, 3) := by decide +kernel
theorem dX1_pileThen_26 : decode cX1_pileThen 26 = .ok (.invokevirtual 47, 3) := by decide +kernel
theorem dX1_pileThen_29 : decode cX1_pileThen 29 = .ok (.aload_n 0, 1) := by decide +kernel
theorem dX1_pileThen_30 : decode cX1_pileThen 30 = .ok (.getfield 16, 3) := by decide +kernel
theorem dX1_pileThen_33 : decode cX1_pileThen 33 = .ok (.iload_n 1, 1) := by decide +kernel
theorem dX1_pileThen_34 : decode cX1_pileThen 34 = .ok (.iconst 1, 1) := by decide +kernel
theorem dX1_pileThen_35 : decode cX1_pileThen 35 = .ok (.invokevirtual 97, 3) := by decide +kernel
theorem dX1_pileThen_38 : decode cX1_pileThen 38 = .ok (.pop, 1) := by decide +kernel
theorem dX1_pileThen_39 : decode cX1_pileThen 39 = .ok (.aload_n 0, 1) := by decide +kernel
theorem dX1_pileThen_40 : decode cX1_pileThen 40 = .ok (.getfield 16, 3) := by decide +kernel
theorem dX1_pileThen_43 : decode cX1_pileThen 43 = .ok (.invokevirtual 151, 3) := by decide +kernel
theorem dX1_pileThen_46 : decode cX1_pileThen 46 = .ok (.ireturn, 1) := by decide +kernel
set_option maxRecDepth 20000 in
theorem ggX1_sold_X0_hasCard : GoodIn wsX1_sold wsX0_hasCard := goodIn_r _ [6, 7, 90, 91, 92, 93, 94, 95, 96, 97, 98, 99, 100, 101, 102] (by decide +kernel) (by decide +kernel)
set_option maxRecDepth 20000 in
theorem gX1_sold_X0_hasCard_n69 : GoodIn wsX1_sold (wsX0_hasCard) := ggX1_sold_X0_hasCard
set_option maxRecDepth 20000 in
theorem ggX1_sold_X1_refuse : GoodIn wsX1_sold wsX1_refuse := goodIn_r _ [12, 13, 14, 15, 11, 16, 17, 18, 19, 81, 82, 83, 84, 85, 86, 87, 88, 89] (by decide +kernel) (by decide +kernel)
set_option maxRecDepth 20000 in
theorem gX1_sold_X1_refuse : GoodIn wsX1_sold (wsV RX1 32 RX1 yX1_refuse wsX1_refuse) := goodIn_app (goodIn_of _ (by decide +kernel)) ggX1_sold_X1_refuse
set_option maxRecDepth 20000 in
theorem ggX1_sold_X0_become : GoodIn wsX1_sold wsX0_become := goodIn_r _ [22, 7, 23, 24, 25, 26, 27, 28, 29, 30, 31, 32, 33, 34, 35, 11, 36, 37, 38, 39, 40, 41, 42, 43, 44, 90, 91, 92, 93, 94, 95, 96, 97, 98, 99, 100, 101, 102] (by decide +kernel) (by decide +kernel)
set_option maxRecDepth 20000 in
theorem gX1_sold_X0_become_n47 : GoodIn wsX1_sold (wsX0_become) := ggX1_sold_X0_become
set_option maxRecDepth 20000 in
theorem ggX1_sold_X0_inPile : GoodIn wsX1_sold wsX0_inPile := goodIn_r _ [47, 29, 48, 3, 5, 4, 6, 7, 15, 11, 16, 90, 91, 92, 93, 94, 95, 96, 97, 98, 99, 100, 101, 102] (by decide +kernel) (by decide +kernel)
set_option maxRecDepth 20000 in
theorem gX1_sold_X0_inPile_n72 : GoodIn wsX1_sold (wsX0_inPile) := ggX1_sold_X0_inPile
set_option maxRecDepth 20000 in
theorem ggX1_sold_X0_goOn : GoodIn wsX1_sold wsX0_goOn := goodIn_r _ [51, 24, 7, 30, 15, 11, 16, 52, 45, 46, 4, 47, 29, 48, 3, 5, 6, 53, 54, 55, 56, 27, 33, 34, 57, 38, 39, 40, 58, 59, 60, 61, 62, 63, 64, 23, 65, 66, 67, 68, 26, 28, 25, 69, 70, 71, 72, 32, 31, 73, 74, 75, 76, 18, 19, 77, 78, 79, 80, 90, 91, 92, 93, 94, 95, 96, 97, 98, 99, 100, 101, 102] (by decide +kernel) (by decide +kernel)
set_option maxRecDepth 20000 in
theorem gX1_sold_X0_goOn_n97 : GoodIn wsX1_sold (wsX0_goOn) := ggX1_sold_X0_goOn
theorem dX1_sold_0 : decode cX1_sold 0 = .ok (.aload_n 0, 1) := by decide +kernel
theorem dX1_sold_1 : decode cX1_sold 1 = .ok (.getfield 10, 3) := by decide +kernel
theorem dX1_sold_4 : decode cX1_sold 4 = .ok (.iload_n 1, 1) := by decide +kernel
theorem dX1_sold_5 : decode cX1_sold 5 = .ok (.invokevirtual 69, 3) := by decide +kernel
theorem dX1_sold_8 : decode cX1_sold 8 = .ok (.ifCond .ne 9, 3) := by decide +kernel
theorem dX1_sold_11 : decode cX1_sold 11 = .ok (.aload_n 0, 1) := by decide +kernel
theorem dX1_sold_12 : decode cX1_sold 12 = .ok (.iconst (-1), 1) := by decide +kernel
theorem dX1_sold_13 : decode cX1_sold 13 = .ok (.invokevirtual 32, 3) := by decide +kernel
theorem dX1_sold_16 : decode cX1_sold 16 = .ok (.ireturn, 1) := by decide +kernel
theorem dX1_sold_17 : decode cX1_sold 17 = .ok (.aload_n 0, 1) := by decide +kernel
theorem dX1_sold_18 : decode cX1_sold 18 = .ok (.getfield 16, 3) := by decide +kernel
theorem dX1_sold_21 : decode cX1_sold 21 = .ok (.aload_n 0, 1) := by decide +kernel
theorem dX1_sold_22 : decode cX1_sold 22 = .ok (.getfield 10, 3) := by decide +kernel
theorem dX1_sold_25 : decode cX1_sold 25 = .ok (.invokevirtual 47, 3) := by decide +kernel
theorem dX1_sold_28 : decode cX1_sold 28 = .ok (.iconst 0, 1) := by decide +kernel
theorem dX1_sold_29 : decode cX1_sold 29 = .ok (.istore_n 2, 1) := by decide +kernel
theorem dX1_sold_30 : decode cX1_sold 30 = .ok (.iload_n 2, 1) := by decide +kernel
theorem dX1_sold_31 : decode cX1_sold 31 = .ok (.bipush 60, 2) := by decide +kernel
theorem dX1_sold_33 : decode cX1_sold 33 = .ok (.if_icmp .gt 32, 3) := by decide +kernel
theorem dX1_sold_36 : decode cX1_sold 36 = .ok (.aload_n 0, 1) := by decide +kernel
theorem dX1_sold_37 : decode cX1_sold 37 = .ok (.getfield 16, 3) := by decide +kernel
theorem dX1_sold_40 : decode cX1_sold 40 = .ok (.iload_n 1, 1) := by decide +kernel
theorem dX1_sold_41 : decode cX1_sold 41 = .ok (.invokevirtual 72, 3) := by decide +kernel
theorem dX1_sold_44 : decode cX1_sold 44 = .ok (.ifCond .ne 5, 3) := by decide +kernel
theorem dX1_sold_47 : decode cX1_sold 47 = .ok (.iload_n 2, 1) := by decide +kernel
theorem dX1_sold_48 : decode cX1_sold 48 = .ok (.ireturn, 1) := by decide +kernel
theorem dX1_sold_49 : decode cX1_sold 49 = .ok (.aload_n 0, 1) := by decide +kernel
theorem dX1_sold_50 : decode cX1_sold 50 = .ok (.getfield 16, 3) := by decide +kernel
theorem dX1_sold_53 : decode cX1_sold 53 = .ok (.iconst 1, 1) := by decide +kernel
theorem dX1_sold_54 : decode cX1_sold 54 = .ok (.iconst 1, 1) := by decide +kernel
theorem dX1_sold_55 : decode cX1_sold 55 = .ok (.invokevirtual 97, 3) := by decide +kernel
theorem dX1_sold_58 : decode cX1_sold 58 = .ok (.pop, 1) := by decide +kernel
theorem dX1_sold_59 : decode cX1_sold 59 = .ok (.iinc 2 1, 3) := by decide +kernel
theorem dX1_sold_62 : decode cX1_sold 62 = .ok (.goto (-32), 3) := by decide +kernel
theorem dX1_sold_65 : decode cX1_sold 65 = .ok (.bipush (-9), 2) := by decide +kernel
theorem dX1_sold_67 : decode cX1_sold 67 = .ok (.ireturn, 1) := by decide +kernel
set_option maxRecDepth 20000 in
theorem ggX1_out_X0_become : GoodIn wsX1_out wsX0_become := goodIn_r _ [6, 7, 8, 9, 10, 11, 12, 13, 14, 15, 16, 17, 18, 19, 20, 21, 22, 23, 24, 25, 26, 27, 28, 29, 30, 86, 87, 88, 89, 90, 91, 92, 93, 94, 95, 96, 97, 98] (by decide +kernel) (by decide +kernel)
set_option maxRecDepth 20000 in
theorem gX1_out_X0_become_n47 : GoodIn wsX1_out (wsX0_become) := ggX1_out_X0_become
set_option maxRecDepth 20000 in
theorem ggX1_out_X0_pileBits : GoodIn wsX1_out wsX0_pileBits := goodIn_r _ [33, 7, 34, 35, 36, 4, 37, 14, 38, 39, 40, 41, 42, 21, 43, 86, 87, 88, 89, 90, 91, 92, 93, 94, 95, 96, 97, 98] (by decide +kernel) (by decide +kernel)
set_option maxRecDepth 20000 in
theorem gX1_out_X0_pileBits_n151 : GoodIn wsX1_out (wsX0_pileBits) := ggX1_out_X0_pileBits
set_option maxRecDepth 20000 in
theorem ggX1_out_X0_goOn : GoodIn wsX1_out wsX0_goOn := goodIn_r _ [46, 9, 7, 15, 42, 21, 43, 34, 35, 36, 4, 37, 14, 38, 39, 40, 41, 47, 48, 49, 50, 12, 18, 19, 51, 24, 25, 26, 52, 53, 54, 55, 56, 57, 58, 8, 59, 60, 61, 62, 11, 13, 10, 63, 64, 65, 66, 17, 16, 67, 68, 69, 70, 71, 72, 73, 74, 75, 76, 86, 87, 88, 89, 90, 91, 92, 93, 94, 95, 96, 97, 98] (by decide +kernel) (by decide +kernel)
set_option maxRecDepth 20000 in
theorem gX1_out_X0_goOn_n97 : GoodIn wsX1_out (wsX0_goOn) := ggX1_out_X0_goOn
theorem dX1_out_0 : decode cX1_out 0 = .ok (.aload_n 0, 1) := by decide +kernel
theorem dX1_out_1 : decode cX1_out 1 = .ok (.getfield 16, 3) := by decide +kernel
theorem dX1_out_4 : decode cX1_out 4 = .ok (.aload_n 0, 1) := by decide +kernel
theorem dX1_out_5 : decode cX1_out 5 = .ok (.getfield 10, 3) := by decide +kernel
theorem dX1_out_8 : decode cX1_out 8 = .ok (.invokevirtual 47, 3) := by decide +kernel
theorem dX1_out_11 : decode cX1_out 11 = .ok (.iconst 0, 1) := by decide +kernel
theorem dX1_out_12 : decode cX1_out 12 = .ok (.istore_n 1, 1) := by decide +kernel
theorem dX1_out_13 : decode cX1_out 13 = .ok (.iload_n 1, 1) := by decide +kernel
theorem dX1_out_14 : decode cX1_out 14 = .ok (.bipush 60, 2) := by decide +kernel
theorem dX1_out_16 : decode cX1_out 16 = .ok (.if_icmp .gt 31, 3) := by decide +kernel
theorem dX1_out_19 : decode cX1_out 19 = .ok (.aload_n 0, 1) := by decide +kernel
theorem dX1_out_20 : decode cX1_out 20 = .ok (.getfield 16, 3) := by decide +kernel
theorem dX1_out_23 : decode cX1_out 23 = .ok (.invokevirtual 151, 3) := by decide +kernel
theorem dX1_out_26 : decode cX1_out 26 = .ok (.ifCond .ne 5, 3) := by decide +kernel
theorem dX1_out_29 : decode cX1_out 29 = .ok (.iload_n 1, 1) := by decide +kernel
theorem dX1_out_30 : decode cX1_out 30 = .ok (.ireturn, 1) := by decide +kernel
theorem dX1_out_31 : decode cX1_out 31 = .ok (.aload_n 0, 1) := by decide +kernel
theorem dX1_out_32 : decode cX1_out 32 = .ok (.getfield 16, 3) := by decide +kernel
theorem dX1_out_35 : decode cX1_out 35 = .ok (.iconst 1, 1) := by decide +kernel
theorem dX1_out_36 : decode cX1_out 36 = .ok (.iconst 1, 1) := by decide +kernel
theorem dX1_out_37 : decode cX1_out 37 = .ok (.invokevirtual 97, 3) := by decide +kernel
theorem dX1_out_40 : decode cX1_out 40 = .ok (.pop, 1) := by decide +kernel
theorem dX1_out_41 : decode cX1_out 41 = .ok (.iinc 1 1, 3) := by decide +kernel
theorem dX1_out_44 : decode cX1_out 44 = .ok (.goto (-31), 3) := by decide +kernel
theorem dX1_out_47 : decode cX1_out 47 = .ok (.bipush (-9), 2) := by decide +kernel
theorem dX1_out_49 : decode cX1_out 49 = .ok (.ireturn, 1) := by decide +kernel
set_option maxRecDepth 20000 in
theorem ggX1_ruined_X0_hasBidder : GoodIn wsX1_ruined wsX0_hasBidder := goodIn_r _ [6, 7, 90, 91, 92, 93, 94, 95, 96, 97, 98, 99, 100, 101, 102] (by decide +kernel) (by decide +kernel)
set_option maxRecDepth 20000 in
theorem gX1_ruined_X0_hasBidder_n59 : GoodIn wsX1_ruined (wsX0_hasBidder) := ggX1_ruined_X0_hasBidder
set_option maxRecDepth 20000 in
theorem ggX1_ruined_X1_refuse : GoodIn wsX1_ruined wsX1_refuse := goodIn_r _ [12, 13, 14, 15, 11, 16, 17, 18, 19, 81, 82, 83, 84, 85, 86, 87, 88, 89] (by decide +kernel) (by decide +kernel)
set_option maxRecDepth 20000 in
theorem gX1_ruined_X1_refuse : GoodIn wsX1_ruined (wsV RX1 32 RX1 yX1_refuse wsX1_refuse) := goodIn_app (goodIn_of _ (by decide +kernel)) ggX1_ruined_X1_refuse
set_option maxRecDepth 20000 in
theorem ggX1_ruined_X0_become : GoodIn wsX1_ruined wsX0_become := goodIn_r _ [22, 23, 7, 24, 25, 26, 27, 28, 29, 30, 31, 32, 33, 34, 35, 11, 36, 37, 38, 39, 40, 41, 42, 43, 44, 90, 91, 92, 93, 94, 95, 96, 97, 98, 99, 100, 101, 102] (by decide +kernel) (by decide +kernel)
set_option maxRecDepth 20000 in
theorem gX1_ruined_X0_become_n47 : GoodIn wsX1_ruined (wsX0_become) := ggX1_ruined_X0_become
set_option maxRecDepth 20000 in
theorem ggX1_ruined_X1_at : GoodIn wsX1_ruined wsX1_at := goodIn_r _ [16] (by decide +kernel) (by decide +kernel)
set_option maxRecDepth 20000 in
theorem gX1_ruined_X1_at : GoodIn wsX1_ruined (va_wsS RX1 51 yX1_at wsX1_at) := goodIn_app (goodIn_of _ (by decide +kernel)) ggX1_ruined_X1_at
set_option maxRecDepth 20000 in
theorem ggX1_ruined_X0_goOn : GoodIn wsX1_ruined wsX0_goOn := goodIn_r _ [47, 24, 23, 30, 15, 11, 16, 48, 49, 50, 4, 51, 29, 52, 53, 54, 55, 56, 57, 58, 59, 27, 33, 34, 60, 38, 39, 40, 61, 62, 63, 64, 65, 66, 67, 7, 68, 69, 70, 71, 26, 28, 25, 72, 73, 74, 75, 32, 31, 76, 3, 5, 6, 18, 19, 77, 78, 79, 80, 90, 91, 92, 93, 94, 95, 96, 97, 98, 99, 100, 101, 102] (by decide +kernel) (by decide +kernel)
set_option maxRecDepth 20000 in
theorem gX1_ruined_X0_goOn_n97 : GoodIn wsX1_ruined (wsX0_goOn) := ggX1_ruined_X0_goOn
theorem dX1_ruined_0 : decode cX1_ruined 0 = .ok (.aload_n 0, 1) := by decide +kernel
theorem dX1_ruined_1 : decode cX1_ruined 1 = .ok (.getfield 10, 3) := by decide +kernel
theorem dX1_ruined_4 : decode cX1_ruined 4 = .ok (.iload_n 1, 1) := by decide +kernel
theorem dX1_ruined_5 : decode cX1_ruined 5 = .ok (.invokevirtual 59, 3) := by decide +kernel
theorem dX1_ruined_8 : decode cX1_ruined 8 = .ok (.ifCond .ne 9, 3) := by decide +kernel
theorem dX1_ruined_11 : decode cX1_ruined 11 = .ok (.aload_n 0, 1) := by decide +kernel
theorem dX1_ruined_12 : decode cX1_ruined 12 = .ok (.iconst (-1), 1) := by decide +kernel
theorem dX1_ruined_13 : decode cX1_ruined 13 = .ok (.invokevirtual 32, 3) := by decide +kernel
theorem dX1_ruined_16 : decode cX1_ruined 16 = .ok (.ireturn, 1) := by decide +kernel
theorem dX1_ruined_17 : decode cX1_ruined 17 = .ok (.aload_n 0, 1) := by decide +kernel
theorem dX1_ruined_18 : decode cX1_ruined 18 = .ok (.getfield 16, 3) := by decide +kernel
theorem dX1_ruined_21 : decode cX1_ruined 21 = .ok (.aload_n 0, 1) := by decide +kernel
theorem dX1_ruined_22 : decode cX1_ruined 22 = .ok (.getfield 10, 3) := by decide +kernel
theorem dX1_ruined_25 : decode cX1_ruined 25 = .ok (.invokevirtual 47, 3) := by decide +kernel
theorem dX1_ruined_28 : decode cX1_ruined 28 = .ok (.iconst 0, 1) := by decide +kernel
theorem dX1_ruined_29 : decode cX1_ruined 29 = .ok (.istore_n 2, 1) := by decide +kernel
theorem dX1_ruined_30 : decode cX1_ruined 30 = .ok (.iload_n 2, 1) := by decide +kernel
theorem dX1_ruined_31 : decode cX1_ruined 31 = .ok (.bipush 60, 2) := by decide +kernel
theorem dX1_ruined_33 : decode cX1_ruined 33 = .ok (.if_icmp .gt 35, 3) := by decide +kernel
theorem dX1_ruined_36 : decode cX1_ruined 36 = .ok (.aload_n 0, 1) := by decide +kernel
theorem dX1_ruined_37 : decode cX1_ruined 37 = .ok (.getfield 16, 3) := by decide +kernel
theorem dX1_ruined_40 : decode cX1_ruined 40 = .ok (.getfield 123, 3) := by decide +kernel
theorem dX1_ruined_43 : decode cX1_ruined 43 = .ok (.iload_n 1, 1) := by decide +kernel
theorem dX1_ruined_44 : decode cX1_ruined 44 = .ok (.invokestatic 51, 3) := by decide +kernel
theorem dX1_ruined_47 : decode cX1_ruined 47 = .ok (.ifCond .ne 5, 3) := by decide +kernel
theorem dX1_ruined_50 : decode cX1_ruined 50 = .ok (.iload_n 2, 1) := by decide +kernel
theorem dX1_ruined_51 : decode cX1_ruined 51 = .ok (.ireturn, 1) := by decide +kernel
theorem dX1_ruined_52 : decode cX1_ruined 52 = .ok (.aload_n 0, 1) := by decide +kernel
theorem dX1_ruined_53 : decode cX1_ruined 53 = .ok (.getfield 16, 3) := by decide +kernel
theorem dX1_ruined_56 : decode cX1_ruined 56 = .ok (.iconst 1, 1) := by decide +kernel
theorem dX1_ruined_57 : decode cX1_ruined 57 = .ok (.iconst 1, 1) := by decide +kernel
theorem dX1_ruined_58 : decode cX1_ruined 58 = .ok (.invokevirtual 97, 3) := by decide +kernel
theorem dX1_ruined_61 : decode cX1_ruined 61 = .ok (.pop, 1) := by decide +kernel
theorem dX1_ruined_62 : decode cX1_ruined 62 = .ok (.iinc 2 1, 3) := by decide +kernel
theorem dX1_ruined_65 : decode cX1_ruined 65 = .ok (.goto (-35), 3) := by decide +kernel
theorem dX1_ruined_68 : decode cX1_ruined 68 = .ok (.bipush (-9), 2) := by decide +kernel
theorem dX1_ruined_70 : decode cX1_ruined 70 = .ok (.ireturn, 1) := by decide +kernel
set_option maxRecDepth 20000 in
theorem ggX1_lots_X1_beyond : GoodIn wsX1_lots wsX1_beyond := goodIn_r _ [6] (by decide +kernel) (by decide +kernel)
set_option maxRecDepth 20000 in
theorem gX1_lots_X1_beyond : GoodIn wsX1_lots (va_wsS RX1 62 yX1_beyond wsX1_beyond) := goodIn_app (goodIn_of _ (by decide +kernel)) ggX1_lots_X1_beyond
set_option maxRecDepth 20000 in
theorem ggX1_lots_X1_refuse : GoodIn wsX1_lots wsX1_refuse := goodIn_r _ [10, 11, 12, 13, 5, 14, 15, 16, 17, 110, 111, 112, 113, 114, 115, 116, 117, 118] (by decide +kernel) (by decide +kernel)
set_option maxRecDepth 20000 in
theorem gX1_lots_X1_refuse : GoodIn wsX1_lots (wsV RX1 32 RX1 yX1_refuse wsX1_refuse) := goodIn_app (goodIn_of _ (by decide +kernel)) ggX1_lots_X1_refuse
set_option maxRecDepth 20000 in
theorem ggX1_lots_X0_become : GoodIn wsX1_lots wsX0_become := goodIn_r _ [21, 22, 23, 24, 25, 26, 27, 28, 29, 30, 31, 32, 33, 34, 35, 5, 36, 37, 38, 39, 40, 41, 42, 43, 44, 119, 120, 121, 122, 123, 124, 125, 126, 127, 128, 129, 130, 131] (by decide +kernel) (by decide +kernel)
set_option maxRecDepth 20000 in
theorem gX1_lots_X0_become_n47 : GoodIn wsX1_lots (wsX0_become) := ggX1_lots_X0_become
set_option maxRecDepth 20000 in
theorem ggX1_lots_X0_drawPurses : GoodIn wsX1_lots wsX0_drawPurses := goodIn_r _ [47, 23, 48, 49, 33, 50, 16, 5, 17, 119, 120, 121, 122, 123, 124, 125, 126, 127, 128, 129, 130, 131] (by decide +kernel) (by decide +kernel)
set_option maxRecDepth 20000 in
theorem gX1_lots_X0_drawPurses_n180 : GoodIn wsX1_lots (wsX0_drawPurses) := ggX1_lots_X0_drawPurses
set_option maxRecDepth 20000 in
theorem ggX1_lots_X0_allToPile : GoodIn wsX1_lots wsX0_allToPile := goodIn_r _ [53, 22, 29, 16, 5, 17, 119, 120, 121, 122, 123, 124, 125, 126, 127, 128, 129, 130, 131] (by decide +kernel) (by decide +kernel)
set_option maxRecDepth 20000 in
theorem gX1_lots_X0_allToPile_n183 : GoodIn wsX1_lots (wsX0_allToPile) := ggX1_lots_X0_allToPile
set_option maxRecDepth 20000 in
theorem ggX1_lots_X0_goOn : GoodIn wsX1_lots wsX0_goOn := goodIn_r _ [56, 24, 22, 30, 13, 5, 14, 57, 58, 59, 19, 60, 29, 61, 62, 63, 64, 65, 66, 67, 68, 27, 33, 34, 69, 38, 39, 40, 70, 71, 72, 73, 74, 75, 76, 23, 77, 78, 79, 80, 26, 28, 25, 81, 82, 83, 84, 32, 31, 85, 86, 87, 88, 16, 17, 89, 90, 91, 92, 119, 120, 121, 122, 123, 124, 125, 126, 127, 128, 129, 130, 131] (by decide +kernel) (by decide +kernel)
set_option maxRecDepth 20000 in
theorem gX1_lots_X0_goOn_n97 : GoodIn wsX1_lots (wsX0_goOn) := ggX1_lots_X0_goOn
set_option maxRecDepth 20000 in
theorem ggX1_lots_X0_heldCount : GoodIn wsX1_lots wsX0_heldCount := goodIn_r _ [95, 22, 96, 97, 98, 19, 99, 57, 58, 59, 60, 29, 61, 62, 63, 64, 13, 5, 14, 100, 101, 102, 103, 104, 105, 106, 119, 120, 121, 122, 123, 124, 125, 126, 127, 128, 129, 130, 131] (by decide +kernel) (by decide +kernel)
set_option maxRecDepth 20000 in
theorem gX1_lots_X0_heldCount_n101 : GoodIn wsX1_lots (wsX0_heldCount) := ggX1_lots_X0_heldCount
set_option maxRecDepth 20000 in
theorem ggX1_lots_X0_allBelieved : GoodIn wsX1_lots wsX0_allBelieved := goodIn_r _ [109, 23, 34, 13, 5, 14, 119, 120, 121, 122, 123, 124, 125, 126, 127, 128, 129, 130, 131] (by decide +kernel) (by decide +kernel)
set_option maxRecDepth 20000 in
theorem gX1_lots_X0_allBelieved_n174 : GoodIn wsX1_lots (wsX0_allBelieved) := ggX1_lots_X0_allBelieved
theorem dX1_lots_0 : decode cX1_lots 0 = .ok (.iload_n 1, 1) := by decide +kernel
theorem dX1_lots_1 : decode cX1_lots 1 = .ok (.iconst 1, 1) := by decide +kernel
theorem dX1_lots_2 : decode cX1_lots 2 = .ok (.bipush 20, 2) := by decide +kernel
theorem dX1_lots_4 : decode cX1_lots 4 = .ok (.invokestatic 62, 3) := by decide +kernel
theorem dX1_lots_7 : decode cX1_lots 7 = .ok (.istore 4, 2) := by decide +kernel
theorem dX1_lots_9 : decode cX1_lots 9 = .ok (.iload 4, 2) := by decide +kernel
theorem dX1_lots_11 : decode cX1_lots 11 = .ok (.ifCond .eq 10, 3) := by decide +kernel
theorem dX1_lots_14 : decode cX1_lots 14 = .ok (.aload_n 0, 1) := by decide +kernel
theorem dX1_lots_15 : decode cX1_lots 15 = .ok (.iload 4, 2) := by decide +kernel
theorem dX1_lots_17 : decode cX1_lots 17 = .ok (.invokevirtual 32, 3) := by decide +kernel
theorem dX1_lots_20 : decode cX1_lots 20 = .ok (.ireturn, 1) := by decide +kernel
theorem dX1_lots_21 : decode cX1_lots 21 = .ok (.iload_n 3, 1) := by decide +kernel
theorem dX1_lots_22 : decode cX1_lots 22 = .ok (.ifCond .lt 8, 3) := by decide +kernel
theorem dX1_lots_25 : decode cX1_lots 25 = .ok (.iload_n 3, 1) := by decide +kernel
theorem dX1_lots_26 : decode cX1_lots 26 = .ok (.iconst 1, 1) := by decide +kernel
theorem dX1_lots_27 : decode cX1_lots 27 = .ok (.if_icmp .le 10, 3) := by decide +kernel
theorem dX1_lots_30 : decode cX1_lots 30 = .ok (.aload_n 0, 1) := by decide +kernel
theorem dX1_lots_31 : decode cX1_lots 31 = .ok (.bipush (-2), 2) := by decide +kernel
theorem dX1_lots_33 : decode cX1_lots 33 = .ok (.invokevirtual 32, 3) := by decide +kernel
theorem dX1_lots_36 : decode cX1_lots 36 = .ok (.ireturn, 1) := by decide +kernel
theorem dX1_lots_37 : decode cX1_lots 37 = .ok (.iload_n 2, 1) := by decide +kernel
theorem dX1_lots_38 : decode cX1_lots 38 = .ok (.istore 5, 2) := by decide +kernel
theorem dX1_lots_40 : decode cX1_lots 40 = .ok (.iconst 0, 1) := by decide +kernel
theorem dX1_lots_41 : decode cX1_lots 41 = .ok (.istore 6, 2) := by decide +kernel
theorem dX1_lots_43 : decode cX1_lots 43 = .ok (.iconst 0, 1) := by decide +kernel
theorem dX1_lots_44 : decode cX1_lots 44 = .ok (.istore 7, 2) := by decide +kernel
theorem dX1_lots_46 : decode cX1_lots 46 = .ok (.iload 7, 2) := by decide +kernel
theorem dX1_lots_48 : decode cX1_lots 48 = .ok (.iload_n 1, 1) := by decide +kernel
theorem dX1_lots_49 : decode cX1_lots 49 = .ok (.if_icmp .ge 74, 3) := by decide +kernel
theorem dX1_lots_52 : decode cX1_lots 52 = .ok (.aload_n 0, 1) := by decide +kernel
theorem dX1_lots_53 : decode cX1_lots 53 = .ok (.getfield 16, 3) := by decide +kernel
theorem dX1_lots_56 : decode cX1_lots 56 = .ok (.aload_n 0, 1) := by decide +kernel
theorem dX1_lots_57 : decode cX1_lots 57 = .ok (.getfield 10, 3) := by decide +kernel
theorem dX1_lots_60 : decode cX1_lots 60 = .ok (.invokevirtual 47, 3) := by decide +kernel
theorem dX1_lots_63 : decode cX1_lots 63 = .ok (.aload_n 0, 1) := by decide +kernel
theorem dX1_lots_64 : decode cX1_lots 64 = .ok (.getfield 16, 3) := by decide +kernel
theorem dX1_lots_67 : decode cX1_lots 67 = .ok (.iload 5, 2) := by decide +kernel
theorem dX1_lots_69 : decode cX1_lots 69 = .ok (.invokevirtual 180, 3) := by decide +kernel
theorem dX1_lots_72 : decode cX1_lots 72 = .ok (.istore 5, 2) := by decide +kernel
theorem dX1_lots_74 : decode cX1_lots 74 = .ok (.aload_n 0, 1) := by decide +kernel
theorem dX1_lots_75 : decode cX1_lots 75 = .ok (.getfield 16, 3) := by decide +kernel
theorem dX1_lots_78 : decode cX1_lots 78 = .ok (.invokevirtual 183, 3) := by decide +kernel
theorem dX1_lots_81 : decode cX1_lots 81 = .ok (.aload_n 0, 1) := by decide +kernel
theorem dX1_lots_82 : decode cX1_lots 82 = .ok (.getfield 16, 3) := by decide +kernel
theorem dX1_lots_85 : decode cX1_lots 85 = .ok (.iconst 2, 1) := by decide +kernel
theorem dX1_lots_86 : decode cX1_lots 86 = .ok (.iconst 1, 1) := by decide +kernel
theorem dX1_lots_87 : decode cX1_lots 87 = .ok (.invokevirtual 97, 3) := by decide +kernel
theorem dX1_lots_90 : decode cX1_lots 90 = .ok (.pop, 1) := by decide +kernel
theorem dX1_lots_91 : decode cX1_lots 91 = .ok (.iload 6, 2) := by decide +kernel
theorem dX1_lots_93 : decode cX1_lots 93 = .ok (.iload_n 3, 1) := by decide +kernel
theorem dX1_lots_94 : decode cX1_lots 94 = .ok (.ifCond .ne 13, 3) := by decide +kernel
theorem dX1_lots_97 : decode cX1_lots 97 = .ok (.aload_n 0, 1) := by decide +kernel
theorem dX1_lots_98 : decode cX1_lots 98 = .ok (.getfield 16, 3) := by decide +kernel
theorem dX1_lots_101 : decode cX1_lots 101 = .ok (.invokevirtual 101, 3) := by decide +kernel
theorem dX1_lots_104 : decode cX1_lots 104 = .ok (.goto 10, 3) := by decide +kernel
theorem dX1_lots_107 : decode cX1_lots 107 = .ok (.aload_n 0, 1) := by decide +kernel
theorem dX1_lots_108 : decode cX1_lots 108 = .ok (.getfield 16, 3) := by decide +kernel
theorem dX1_lots_111 : decode cX1_lots 111 = .ok (.invokevirtual 174, 3) := by decide +kernel
theorem dX1_lots_114 : decode cX1_lots 114 = .ok (.iadd, 1) := by decide +kernel
theorem dX1_lots_115 : decode cX1_lots 115 = .ok (.istore 6, 2) := by decide +kernel
theorem dX1_lots_117 : decode cX1_lots 117 = .ok (.iinc 7 1, 3) := by decide +kernel
theorem dX1_lots_120 : decode cX1_lots 120 = .ok (.goto (-74), 3) := by decide +kernel
theorem dX1_lots_123 : decode cX1_lots 123 = .ok (.iload 6, 2) := by decide +kernel
theorem dX1_lots_125 : decode cX1_lots 125 = .ok (.ireturn, 1) := by decide +kernel
set_option maxRecDepth 20000 in
theorem ggX1_stutter_X0_hasBidder : GoodIn wsX1_stutter wsX0_hasBidder := goodIn_r _ [6, 7, 102, 103, 104, 105, 106, 107, 108, 109, 110, 111, 112, 113, 114] (by decide +kernel) (by decide +kernel)
set_option maxRecDepth 20000 in
theorem gX1_stutter_X0_hasBidder_n59 : GoodIn wsX1_stutter (wsX0_hasBidder) := ggX1_stutter_X0_hasBidder
set_option maxRecDepth 20000 in
theorem ggX1_stutter_X0_hasCard : GoodIn wsX1_stutter wsX0_hasCard := goodIn_r _ [10, 11, 102, 103, 104, 105, 106, 107, 108, 109, 110, 111, 112, 113, 114] (by decide +kernel) (by decide +kernel)
set_option maxRecDepth 20000 in
theorem gX1_stutter_X0_hasCard_n69 : GoodIn wsX1_stutter (wsX0_hasCard) := ggX1_stutter_X0_hasCard
set_option maxRecDepth 20000 in
theorem ggX1_stutter_X1_refuseFar : GoodIn wsX1_stutter wsX1_refuseFar := goodIn_r _ [16, 17, 18, 19, 20, 15, 21, 22, 23, 24, 25, 26, 27, 28, 93, 94, 95, 96, 97, 98, 99, 100, 101] (by decide +kernel) (by decide +kernel)
set_option maxRecDepth 20000 in
theorem gX1_stutter_X1_refuseFar : GoodIn wsX1_stutter (wsV RX1 160 RX1 yX1_refuseFar wsX1_refuseFar) := goodIn_app (goodIn_of _ (by decide +kernel)) ggX1_stutter_X1_refuseFar
set_option maxRecDepth 20000 in
theorem ggX1_stutter_X1_goStuttering : GoodIn wsX1_stutter wsX1_goStuttering := goodIn_r _ [32, 2, 1, 33, 4, 34, 35, 11, 7, 36, 37, 38, 39, 40, 41, 42, 43, 44, 45, 46, 47, 15, 48, 49, 50, 51, 52, 53, 54, 55, 56, 57, 58, 59, 60, 8, 9, 10, 24, 25, 61, 62, 63, 64, 65, 66, 67, 68, 69, 70, 71, 72, 73, 74, 75, 76, 77, 78, 79, 80, 81, 82, 83, 84, 85, 3, 5, 6, 27, 28, 86, 87, 88, 89, 93, 94, 95, 96, 97, 98, 99, 100, 101, 102, 103, 104, 105, 106, 107, 108, 109, 110, 111, 112, 113, 114] (by decide +kernel) (by decide +kernel)
set_option maxRecDepth 20000 in
theorem gX1_stutter_X1_goStuttering : GoodIn wsX1_stutter (wsV RX1 186 RX1 yX1_goStuttering wsX1_goStuttering) := goodIn_app (goodIn_of _ (by decide +kernel)) ggX1_stutter_X1_goStuttering
set_option maxRecDepth 20000 in
theorem ggX1_stutter_X1_at : GoodIn wsX1_stutter wsX1_at := goodIn_r _ [25] (by decide +kernel) (by decide +kernel)
set_option maxRecDepth 20000 in
theorem gX1_stutter_X1_at : GoodIn wsX1_stutter (va_wsS RX1 51 yX1_at wsX1_at) := goodIn_app (goodIn_of _ (by decide +kernel)) ggX1_stutter_X1_at
set_option maxRecDepth 20000 in
theorem ggX1_stutter_X1_inLeastTerms : GoodIn wsX1_stutter wsX1_inLeastTerms := goodIn_r _ [92] (by decide +kernel) (by decide +kernel)
set_option maxRecDepth 20000 in
theorem gX1_stutter_X1_inLeastTerms : GoodIn wsX1_stutter (va_wsS RX1 164 yX1_inLeastTerms wsX1_inLeastTerms) := goodIn_app (goodIn_of _ (by decide +kernel)) ggX1_stutter_X1_inLeastTerms
theorem dX1_stutter_0 : decode cX1_stutter 0 = .ok (.aload_n 0, 1) := by decide +kernel
theorem dX1_stutter_1 : decode cX1_stutter 1 = .ok (.getfield 10, 3) := by decide +kernel
theorem dX1_stutter_4 : decode cX1_stutter 4 = .ok (.iload_n 1, 1) := by decide +kernel
theorem dX1_stutter_5 : decode cX1_stutter 5 = .ok (.invokevirtual 59, 3) := by decide +kernel
theorem dX1_stutter_8 : decode cX1_stutter 8 = .ok (.ifCond .eq 14, 3) := by decide +kernel
theorem dX1_stutter_11 : decode cX1_stutter 11 = .ok (.aload_n 0, 1) := by decide +kernel
theorem dX1_stutter_12 : decode cX1_stutter 12 = .ok (.getfield 10, 3) := by decide +kernel
theorem dX1_stutter_15 : decode cX1_stutter 15 = .ok (.iload_n 2, 1) := by decide +kernel
theorem dX1_stutter_16 : decode cX1_stutter 16 = .ok (.invokevirtual 69, 3) := by decide +kernel
theorem dX1_stutter_19 : decode cX1_stutter 19 = .ok (.ifCond .ne 9, 3) := by decide +kernel
theorem dX1_stutter_22 : decode cX1_stutter 22 = .ok (.aload_n 0, 1) := by decide +kernel
theorem dX1_stutter_23 : decode cX1_stutter 23 = .ok (.iconst (-1), 1) := by decide +kernel
theorem dX1_stutter_24 : decode cX1_stutter 24 = .ok (.invokevirtual 160, 3) := by decide +kernel
theorem dX1_stutter_27 : decode cX1_stutter 27 = .ok (.lreturn, 1) := by decide +kernel
theorem dX1_stutter_28 : decode cX1_stutter 28 = .ok (.iload_n 3, 1) := by decide +kernel
theorem dX1_stutter_29 : decode cX1_stutter 29 = .ok (.ifCond .lt 9, 3) := by decide +kernel
theorem dX1_stutter_32 : decode cX1_stutter 32 = .ok (.iload 4, 2) := by decide +kernel
theorem dX1_stutter_34 : decode cX1_stutter 34 = .ok (.iconst 2, 1) := by decide +kernel
theorem dX1_stutter_35 : decode cX1_stutter 35 = .ok (.if_icmp .ge 10, 3) := by decide +kernel
theorem dX1_stutter_38 : decode cX1_stutter 38 = .ok (.aload_n 0, 1) := by decide +kernel
theorem dX1_stutter_39 : decode cX1_stutter 39 = .ok (.bipush (-4), 2) := by decide +kernel
theorem dX1_stutter_41 : decode cX1_stutter 41 = .ok (.invokevirtual 160, 3) := by decide +kernel
theorem dX1_stutter_44 : decode cX1_stutter 44 = .ok (.lreturn, 1) := by decide +kernel
theorem dX1_stutter_45 : decode cX1_stutter 45 = .ok (.iload_n 3, 1) := by decide +kernel
theorem dX1_stutter_46 : decode cX1_stutter 46 = .ok (.bipush 7, 2) := by decide +kernel
theorem dX1_stutter_48 : decode cX1_stutter 48 = .ok (.if_icmp .gt 10, 3) := by decide +kernel
theorem dX1_stutter_51 : decode cX1_stutter 51 = .ok (.iload 4, 2) := by decide +kernel
theorem dX1_stutter_53 : decode cX1_stutter 53 = .ok (.bipush 20, 2) := by decide +kernel
theorem dX1_stutter_55 : decode cX1_stutter 55 = .ok (.if_icmp .le 10, 3) := by decide +kernel
theorem dX1_stutter_58 : decode cX1_stutter 58 = .ok (.aload_n 0, 1) := by decide +kernel
theorem dX1_stutter_59 : decode cX1_stutter 59 = .ok (.bipush (-6), 2) := by decide +kernel
theorem dX1_stutter_61 : decode cX1_stutter 61 = .ok (.invokevirtual 160, 3) := by decide +kernel
theorem dX1_stutter_64 : decode cX1_stutter 64 = .ok (.lreturn, 1) := by decide +kernel
theorem dX1_stutter_65 : decode cX1_stutter 65 = .ok (.iload 5, 2) := by decide +kernel
theorem dX1_stutter_67 : decode cX1_stutter 67 = .ok (.ifCond .lt 9, 3) := by decide +kernel
theorem dX1_stutter_70 : decode cX1_stutter 70 = .ok (.iload 5, 2) := by decide +kernel
theorem dX1_stutter_72 : decode cX1_stutter 72 = .ok (.iconst 1, 1) := by decide +kernel
theorem dX1_stutter_73 : decode cX1_stutter 73 = .ok (.if_icmp .le 10, 3) := by decide +kernel
theorem dX1_stutter_76 : decode cX1_stutter 76 = .ok (.aload_n 0, 1) := by decide +kernel
theorem dX1_stutter_77 : decode cX1_stutter 77 = .ok (.bipush (-2), 2) := by decide +kernel
theorem dX1_stutter_79 : decode cX1_stutter 79 = .ok (.invokevirtual 160, 3) := by decide +kernel
theorem dX1_stutter_82 : decode cX1_stutter 82 = .ok (.lreturn, 1) := by decide +kernel
theorem dX1_stutter_83 : decode cX1_stutter 83 = .ok (.lconst 1, 1) := by decide +kernel
theorem dX1_stutter_84 : decode cX1_stutter 84 = .ok (.lstore 6, 2) := by decide +kernel
theorem dX1_stutter_86 : decode cX1_stutter 86 = .ok (.iconst 0, 1) := by decide +kernel
theorem dX1_stutter_87 : decode cX1_stutter 87 = .ok (.istore 8, 2) := by decide +kernel
theorem dX1_stutter_89 : decode cX1_stutter 89 = .ok (.iload 8, 2) := by decide +kernel
theorem dX1_stutter_91 : decode cX1_stutter 91 = .ok (.iload_n 3, 1) := by decide +kernel
theorem dX1_stutter_92 : decode cX1_stutter 92 = .ok (.if_icmp .ge 17, 3) := by decide +kernel
