theorem dX0_init_0 : decode cX0_init 0 = .ok (.aload_n 0, 1) := by decide +kernel
theorem dX0_init_1 : decode cX0_init 1 = .ok (.invokespecial 3, 3) := by decide +kernel
theorem dX0_init_4 : decode cX0_init 4 = .ok (.aload_n 0, 1) := by decide +kernel
theorem dX0_init_5 : decode cX0_init 5 = .ok (.bipush 8, 2) := by decide +kernel
theorem dX0_init_7 : decode cX0_init 7 = .ok (.newarray .int, 2) := by decide +kernel
theorem dX0_init_9 : decode cX0_init 9 = .ok (.putfield 9, 3) := by decide +kernel
theorem dX0_init_12 : decode cX0_init 12 = .ok (.aload_n 0, 1) := by decide +kernel
theorem dX0_init_13 : decode cX0_init 13 = .ok (.bipush 8, 2) := by decide +kernel
theorem dX0_init_15 : decode cX0_init 15 = .ok (.newarray .int, 2) := by decide +kernel
theorem dX0_init_17 : decode cX0_init 17 = .ok (.putfield 15, 3) := by decide +kernel
theorem dX0_init_20 : decode cX0_init 20 = .ok (.aload_n 0, 1) := by decide +kernel
theorem dX0_init_21 : decode cX0_init 21 = .ok (.bipush 8, 2) := by decide +kernel
theorem dX0_init_23 : decode cX0_init 23 = .ok (.newarray .int, 2) := by decide +kernel
theorem dX0_init_25 : decode cX0_init 25 = .ok (.putfield 18, 3) := by decide +kernel
theorem dX0_init_28 : decode cX0_init 28 = .ok (.aload_n 0, 1) := by decide +kernel
theorem dX0_init_29 : decode cX0_init 29 = .ok (.bipush 8, 2) := by decide +kernel
theorem dX0_init_31 : decode cX0_init 31 = .ok (.newarray .int, 2) := by decide +kernel
theorem dX0_init_33 : decode cX0_init 33 = .ok (.putfield 21, 3) := by decide +kernel
theorem dX0_init_36 : decode cX0_init 36 = .ok (.aload_n 0, 1) := by decide +kernel
theorem dX0_init_37 : decode cX0_init 37 = .ok (.bipush 8, 2) := by decide +kernel
theorem dX0_init_39 : decode cX0_init 39 = .ok (.newarray .int, 2) := by decide +kernel
theorem dX0_init_41 : decode cX0_init 41 = .ok (.putfield 24, 3) := by decide +kernel
theorem dX0_init_44 : decode cX0_init 44 = .ok (.aload_n 0, 1) := by decide +kernel
theorem dX0_init_45 : decode cX0_init 45 = .ok (.bipush 8, 2) := by decide +kernel
theorem dX0_init_47 : decode cX0_init 47 = .ok (.newarray .int, 2) := by decide +kernel
theorem dX0_init_49 : decode cX0_init 49 = .ok (.putfield 27, 3) := by decide +kernel
theorem dX0_init_52 : decode cX0_init 52 = .ok (.aload_n 0, 1) := by decide +kernel
theorem dX0_init_53 : decode cX0_init 53 = .ok (.bipush 6, 2) := by decide +kernel
theorem dX0_init_55 : decode cX0_init 55 = .ok (.newarray .int, 2) := by decide +kernel
theorem dX0_init_57 : decode cX0_init 57 = .ok (.putfield 30, 3) := by decide +kernel
theorem dX0_init_60 : decode cX0_init 60 = .ok (.aload_n 0, 1) := by decide +kernel
theorem dX0_init_61 : decode cX0_init 61 = .ok (.bipush 6, 2) := by decide +kernel
theorem dX0_init_63 : decode cX0_init 63 = .ok (.newarray .int, 2) := by decide +kernel
theorem dX0_init_65 : decode cX0_init 65 = .ok (.putfield 33, 3) := by decide +kernel
theorem dX0_init_68 : decode cX0_init 68 = .ok (.aload_n 0, 1) := by decide +kernel
theorem dX0_init_69 : decode cX0_init 69 = .ok (.bipush 6, 2) := by decide +kernel
theorem dX0_init_71 : decode cX0_init 71 = .ok (.newarray .int, 2) := by decide +kernel
theorem dX0_init_73 : decode cX0_init 73 = .ok (.putfield 36, 3) := by decide +kernel
theorem dX0_init_76 : decode cX0_init 76 = .ok (.aload_n 0, 1) := by decide +kernel
theorem dX0_init_77 : decode cX0_init 77 = .ok (.bipush 6, 2) := by decide +kernel
theorem dX0_init_79 : decode cX0_init 79 = .ok (.newarray .int, 2) := by decide +kernel
theorem dX0_init_81 : decode cX0_init 81 = .ok (.putfield 39, 3) := by decide +kernel
theorem dX0_init_84 : decode cX0_init 84 = .ok (.return_, 1) := by decide +kernel
set_option maxRecDepth 20000 in
theorem ggX0_become_X1_copyRow : GoodIn wsX0_become wsX1_copyRow := goodIn_r _ [16, 17, 18, 19, 20, 21, 22, 23, 24] (by decide +kernel) (by decide +kernel)
set_option maxRecDepth 20000 in
theorem gX0_become_X1_copyRow_n52 : GoodIn wsX0_become (wsX1_copyRow) := ggX0_become_X1_copyRow
theorem dX0_become_0 : decode cX0_become 0 = .ok (.aload_n 1, 1) := by decide +kernel
theorem dX0_become_1 : decode cX0_become 1 = .ok (.ifnonnull 4, 3) := by decide +kernel
theorem dX0_become_4 : decode cX0_become 4 = .ok (.return_, 1) := by decide +kernel
theorem dX0_become_5 : decode cX0_become 5 = .ok (.aload_n 0, 1) := by decide +kernel
theorem dX0_become_6 : decode cX0_become 6 = .ok (.aload_n 1, 1) := by decide +kernel
theorem dX0_become_7 : decode cX0_become 7 = .ok (.getfield 42, 3) := by decide +kernel
theorem dX0_become_10 : decode cX0_become 10 = .ok (.putfield 42, 3) := by decide +kernel
theorem dX0_become_13 : decode cX0_become 13 = .ok (.aload_n 0, 1) := by decide +kernel
theorem dX0_become_14 : decode cX0_become 14 = .ok (.aload_n 1, 1) := by decide +kernel
theorem dX0_become_15 : decode cX0_become 15 = .ok (.getfield 46, 3) := by decide +kernel
theorem dX0_become_18 : decode cX0_become 18 = .ok (.putfield 46, 3) := by decide +kernel
theorem dX0_become_21 : decode cX0_become 21 = .ok (.aload_n 0, 1) := by decide +kernel
theorem dX0_become_22 : decode cX0_become 22 = .ok (.aload_n 1, 1) := by decide +kernel
theorem dX0_become_23 : decode cX0_become 23 = .ok (.getfield 49, 3) := by decide +kernel
theorem dX0_become_26 : decode cX0_become 26 = .ok (.putfield 49, 3) := by decide +kernel
theorem dX0_become_29 : decode cX0_become 29 = .ok (.aload_n 1, 1) := by decide +kernel
theorem dX0_become_30 : decode cX0_become 30 = .ok (.getfield 9, 3) := by decide +kernel
theorem dX0_become_33 : decode cX0_become 33 = .ok (.aload_n 0, 1) := by decide +kernel
theorem dX0_become_34 : decode cX0_become 34 = .ok (.getfield 9, 3) := by decide +kernel
theorem dX0_become_37 : decode cX0_become 37 = .ok (.invokestatic 52, 3) := by decide +kernel
theorem dX0_become_40 : decode cX0_become 40 = .ok (.aload_n 1, 1) := by decide +kernel
theorem dX0_become_41 : decode cX0_become 41 = .ok (.getfield 15, 3) := by decide +kernel
theorem dX0_become_44 : decode cX0_become 44 = .ok (.aload_n 0, 1) := by decide +kernel
theorem dX0_become_45 : decode cX0_become 45 = .ok (.getfield 15, 3) := by decide +kernel
theorem dX0_become_48 : decode cX0_become 48 = .ok (.invokestatic 52, 3) := by decide +kernel
theorem dX0_become_51 : decode cX0_become 51 = .ok (.aload_n 1, 1) := by decide +kernel
theorem dX0_become_52 : decode cX0_become 52 = .ok (.getfield 18, 3) := by decide +kernel
theorem dX0_become_55 : decode cX0_become 55 = .ok (.aload_n 0, 1) := by decide +kernel
theorem dX0_become_56 : decode cX0_become 56 = .ok (.getfield 18, 3) := by decide +kernel
theorem dX0_become_59 : decode cX0_become 59 = .ok (.invokestatic 52, 3) := by decide +kernel
theorem dX0_become_62 : decode cX0_become 62 = .ok (.aload_n 1, 1) := by decide +kernel
theorem dX0_become_63 : decode cX0_become 63 = .ok (.getfield 21, 3) := by decide +kernel
theorem dX0_become_66 : decode cX0_become 66 = .ok (.aload_n 0, 1) := by decide +kernel
theorem dX0_become_67 : decode cX0_become 67 = .ok (.getfield 21, 3) := by decide +kernel
theorem dX0_become_70 : decode cX0_become 70 = .ok (.invokestatic 52, 3) := by decide +kernel
theorem dX0_become_73 : decode cX0_become 73 = .ok (.aload_n 1, 1) := by decide +kernel
theorem dX0_become_74 : decode cX0_become 74 = .ok (.getfield 24, 3) := by decide +kernel
theorem dX0_become_77 : decode cX0_become 77 = .ok (.aload_n 0, 1) := by decide +kernel
theorem dX0_become_78 : decode cX0_become 78 = .ok (.getfield 24, 3) := by decide +kernel
theorem dX0_become_81 : decode cX0_become 81 = .ok (.invokestatic 52, 3) := by decide +kernel
theorem dX0_become_84 : decode cX0_become 84 = .ok (.aload_n 1, 1) := by decide +kernel
theorem dX0_become_85 : decode cX0_become 85 = .ok (.getfield 27, 3) := by decide +kernel
theorem dX0_become_88 : decode cX0_become 88 = .ok (.aload_n 0, 1) := by decide +kernel
theorem dX0_become_89 : decode cX0_become 89 = .ok (.getfield 27, 3) := by decide +kernel
theorem dX0_become_92 : decode cX0_become 92 = .ok (.invokestatic 52, 3) := by decide +kernel
theorem dX0_become_95 : decode cX0_become 95 = .ok (.aload_n 1, 1) := by decide +kernel
theorem dX0_become_96 : decode cX0_become 96 = .ok (.getfield 30, 3) := by decide +kernel
theorem dX0_become_99 : decode cX0_become 99 = .ok (.aload_n 0, 1) := by decide +kernel
theorem dX0_become_100 : decode cX0_become 100 = .ok (.getfield 30, 3) := by decide +kernel
theorem dX0_become_103 : decode cX0_become 103 = .ok (.invokestatic 52, 3) := by decide +kernel
theorem dX0_become_106 : decode cX0_become 106 = .ok (.aload_n 1, 1) := by decide +kernel
theorem dX0_become_107 : decode cX0_become 107 = .ok (.getfield 33, 3) := by decide +kernel
theorem dX0_become_110 : decode cX0_become 110 = .ok (.aload_n 0, 1) := by decide +kernel
theorem dX0_become_111 : decode cX0_become 111 = .ok (.getfield 33, 3) := by decide +kernel
theorem dX0_become_114 : decode cX0_become 114 = .ok (.invokestatic 52, 3) := by decide +kernel
theorem dX0_become_117 : decode cX0_become 117 = .ok (.aload_n 1, 1) := by decide +kernel
theorem dX0_become_118 : decode cX0_become 118 = .ok (.getfield 36, 3) := by decide +kernel
theorem dX0_become_121 : decode cX0_become 121 = .ok (.aload_n 0, 1) := by decide +kernel
theorem dX0_become_122 : decode cX0_become 122 = .ok (.getfield 36, 3) := by decide +kernel
theorem dX0_become_125 : decode cX0_become 125 = .ok (.invokestatic 52, 3) := by decide +kernel
theorem dX0_become_128 : decode cX0_become 128 = .ok (.aload_n 1, 1) := by decide +kernel
theorem dX0_become_129 : decode cX0_become 129 = .ok (.getfield 39, 3) := by decide +kernel
theorem dX0_become_132 : decode cX0_become 132 = .ok (.aload_n 0, 1) := by decide +kernel
theorem dX0_become_133 : decode cX0_become 133 = .ok (.getfield 39, 3) := by decide +kernel
theorem dX0_become_136 : decode cX0_become 136 = .ok (.invokestatic 52, 3) := by decide +kernel
theorem dX0_become_139 : decode cX0_become 139 = .ok (.return_, 1) := by decide +kernel
theorem dX0_hasCard_0 : decode cX0_hasCard 0 = .ok (.iload_n 1, 1) := by decide +kernel
theorem dX0_hasCard_1 : decode cX0_hasCard 1 = .ok (.ifCond .lt 15, 3) := by decide +kernel
theorem dX0_hasCard_4 : decode cX0_hasCard 4 = .ok (.iload_n 1, 1) := by decide +kernel
theorem dX0_hasCard_5 : decode cX0_hasCard 5 = .ok (.aload_n 0, 1) := by decide +kernel
theorem dX0_hasCard_6 : decode cX0_hasCard 6 = .ok (.getfield 42, 3) := by decide +kernel
theorem dX0_hasCard_9 : decode cX0_hasCard 9 = .ok (.if_icmp .ge 7, 3) := by decide +kernel
theorem dX0_hasCard_12 : decode cX0_hasCard 12 = .ok (.iconst 1, 1) := by decide +kernel
theorem dX0_hasCard_13 : decode cX0_hasCard 13 = .ok (.goto 4, 3) := by decide +kernel
theorem dX0_hasCard_16 : decode cX0_hasCard 16 = .ok (.iconst 0, 1) := by decide +kernel
theorem dX0_hasCard_17 : decode cX0_hasCard 17 = .ok (.ireturn, 1) := by decide +kernel
theorem dX0_hasBidder_0 : decode cX0_hasBidder 0 = .ok (.iload_n 1, 1) := by decide +kernel
theorem dX0_hasBidder_1 : decode cX0_hasBidder 1 = .ok (.ifCond .lt 15, 3) := by decide +kernel
theorem dX0_hasBidder_4 : decode cX0_hasBidder 4 = .ok (.iload_n 1, 1) := by decide +kernel
theorem dX0_hasBidder_5 : decode cX0_hasBidder 5 = .ok (.aload_n 0, 1) := by decide +kernel
theorem dX0_hasBidder_6 : decode cX0_hasBidder 6 = .ok (.getfield 46, 3) := by decide +kernel
theorem dX0_hasBidder_9 : decode cX0_hasBidder 9 = .ok (.if_icmp .ge 7, 3) := by decide +kernel
theorem dX0_hasBidder_12 : decode cX0_hasBidder 12 = .ok (.iconst 1, 1) := by decide +kernel
theorem dX0_hasBidder_13 : decode cX0_hasBidder 13 = .ok (.goto 4, 3) := by decide +kernel
theorem dX0_hasBidder_16 : decode cX0_hasBidder 16 = .ok (.iconst 0, 1) := by decide +kernel
theorem dX0_hasBidder_17 : decode cX0_hasBidder 17 = .ok (.ireturn, 1) := by decide +kernel
set_option maxRecDepth 20000 in
theorem ggX0_inPile_X0_hasCard : GoodIn wsX0_inPile wsX0_hasCard := goodIn_r _ [6, 7, 11, 12, 13, 14, 15, 16, 17, 18, 19, 20, 21, 22, 23] (by decide +kernel) (by decide +kernel)
set_option maxRecDepth 20000 in
theorem gX0_inPile_X0_hasCard : GoodIn wsX0_inPile (wsV RX0 56 RX0 yX0_hasCard wsX0_hasCard) := goodIn_app (goodIn_of _ (by decide +kernel)) ggX0_inPile_X0_hasCard
set_option maxRecDepth 20000 in
theorem ggX0_inPile_X1_at : GoodIn wsX0_inPile wsX1_at := goodIn_r _ [10] (by decide +kernel) (by decide +kernel)
set_option maxRecDepth 20000 in
theorem gX0_inPile_X1_at_n60 : GoodIn wsX0_inPile (wsX1_at) := ggX0_inPile_X1_at
theorem dX0_inPile_0 : decode cX0_inPile 0 = .ok (.aload_n 0, 1) := by decide +kernel
theorem dX0_inPile_1 : decode cX0_inPile 1 = .ok (.iload_n 1, 1) := by decide +kernel
theorem dX0_inPile_2 : decode cX0_inPile 2 = .ok (.invokevirtual 56, 3) := by decide +kernel
theorem dX0_inPile_5 : decode cX0_inPile 5 = .ok (.ifCond .eq 18, 3) := by decide +kernel
theorem dX0_inPile_8 : decode cX0_inPile 8 = .ok (.aload_n 0, 1) := by decide +kernel
theorem dX0_inPile_9 : decode cX0_inPile 9 = .ok (.getfield 24, 3) := by decide +kernel
theorem dX0_inPile_12 : decode cX0_inPile 12 = .ok (.iload_n 1, 1) := by decide +kernel
theorem dX0_inPile_13 : decode cX0_inPile 13 = .ok (.invokestatic 60, 3) := by decide +kernel
theorem dX0_inPile_16 : decode cX0_inPile 16 = .ok (.ifCond .ge 7, 3) := by decide +kernel
theorem dX0_inPile_19 : decode cX0_inPile 19 = .ok (.iconst 1, 1) := by decide +kernel
theorem dX0_inPile_20 : decode cX0_inPile 20 = .ok (.goto 4, 3) := by decide +kernel
theorem dX0_inPile_23 : decode cX0_inPile 23 = .ok (.iconst 0, 1) := by decide +kernel
theorem dX0_inPile_24 : decode cX0_inPile 24 = .ok (.ireturn, 1) := by decide +kernel
set_option maxRecDepth 20000 in
theorem ggX0_addCard_X1_put : GoodIn wsX0_addCard wsX1_put := goodIn_r _ [10] (by decide +kernel) (by decide +kernel)
set_option maxRecDepth 20000 in
theorem gX0_addCard_X1_put_n64 : GoodIn wsX0_addCard (wsX1_put) := ggX0_addCard_X1_put
theorem dX0_addCard_0 : decode cX0_addCard 0 = .ok (.aload_n 0, 1) := by decide +kernel
theorem dX0_addCard_1 : decode cX0_addCard 1 = .ok (.getfield 42, 3) := by decide +kernel
theorem dX0_addCard_4 : decode cX0_addCard 4 = .ok (.bipush 8, 2) := by decide +kernel
theorem dX0_addCard_6 : decode cX0_addCard 6 = .ok (.if_icmp .ge 9, 3) := by decide +kernel
theorem dX0_addCard_9 : decode cX0_addCard 9 = .ok (.iload_n 3, 1) := by decide +kernel
theorem dX0_addCard_10 : decode cX0_addCard 10 = .ok (.bipush 6, 2) := by decide +kernel
theorem dX0_addCard_12 : decode cX0_addCard 12 = .ok (.if_icmp .lt 5, 3) := by decide +kernel
theorem dX0_addCard_15 : decode cX0_addCard 15 = .ok (.iconst 0, 1) := by decide +kernel
theorem dX0_addCard_16 : decode cX0_addCard 16 = .ok (.ireturn, 1) := by decide +kernel
theorem dX0_addCard_17 : decode cX0_addCard 17 = .ok (.aload_n 0, 1) := by decide +kernel
theorem dX0_addCard_18 : decode cX0_addCard 18 = .ok (.getfield 9, 3) := by decide +kernel
theorem dX0_addCard_21 : decode cX0_addCard 21 = .ok (.aload_n 0, 1) := by decide +kernel
theorem dX0_addCard_22 : decode cX0_addCard 22 = .ok (.getfield 42, 3) := by decide +kernel
theorem dX0_addCard_25 : decode cX0_addCard 25 = .ok (.iload_n 1, 1) := by decide +kernel
theorem dX0_addCard_26 : decode cX0_addCard 26 = .ok (.invokestatic 64, 3) := by decide +kernel
theorem dX0_addCard_29 : decode cX0_addCard 29 = .ok (.aload_n 0, 1) := by decide +kernel
theorem dX0_addCard_30 : decode cX0_addCard 30 = .ok (.getfield 15, 3) := by decide +kernel
theorem dX0_addCard_33 : decode cX0_addCard 33 = .ok (.aload_n 0, 1) := by decide +kernel
theorem dX0_addCard_34 : decode cX0_addCard 34 = .ok (.getfield 42, 3) := by decide +kernel
theorem dX0_addCard_37 : decode cX0_addCard 37 = .ok (.iload_n 2, 1) := by decide +kernel
theorem dX0_addCard_38 : decode cX0_addCard 38 = .ok (.invokestatic 64, 3) := by decide +kernel
theorem dX0_addCard_41 : decode cX0_addCard 41 = .ok (.aload_n 0, 1) := by decide +kernel
theorem dX0_addCard_42 : decode cX0_addCard 42 = .ok (.getfield 18, 3) := by decide +kernel
theorem dX0_addCard_45 : decode cX0_addCard 45 = .ok (.aload_n 0, 1) := by decide +kernel
theorem dX0_addCard_46 : decode cX0_addCard 46 = .ok (.getfield 42, 3) := by decide +kernel
theorem dX0_addCard_49 : decode cX0_addCard 49 = .ok (.iload_n 3, 1) := by decide +kernel
theorem dX0_addCard_50 : decode cX0_addCard 50 = .ok (.invokestatic 64, 3) := by decide +kernel
theorem dX0_addCard_53 : decode cX0_addCard 53 = .ok (.aload_n 0, 1) := by decide +kernel
theorem dX0_addCard_54 : decode cX0_addCard 54 = .ok (.getfield 21, 3) := by decide +kernel
theorem dX0_addCard_57 : decode cX0_addCard 57 = .ok (.aload_n 0, 1) := by decide +kernel
theorem dX0_addCard_58 : decode cX0_addCard 58 = .ok (.getfield 42, 3) := by decide +kernel
theorem dX0_addCard_61 : decode cX0_addCard 61 = .ok (.iconst 0, 1) := by decide +kernel
theorem dX0_addCard_62 : decode cX0_addCard 62 = .ok (.invokestatic 64, 3) := by decide +kernel
theorem dX0_addCard_65 : decode cX0_addCard 65 = .ok (.aload_n 0, 1) := by decide +kernel
theorem dX0_addCard_66 : decode cX0_addCard 66 = .ok (.getfield 24, 3) := by decide +kernel
theorem dX0_addCard_69 : decode cX0_addCard 69 = .ok (.aload_n 0, 1) := by decide +kernel
theorem dX0_addCard_70 : decode cX0_addCard 70 = .ok (.getfield 42, 3) := by decide +kernel
theorem dX0_addCard_73 : decode cX0_addCard 73 = .ok (.bipush (-9), 2) := by decide +kernel
theorem dX0_addCard_75 : decode cX0_addCard 75 = .ok (.invokestatic 64, 3) := by decide +kernel
theorem dX0_addCard_78 : decode cX0_addCard 78 = .ok (.aload_n 0, 1) := by decide +kernel
theorem dX0_addCard_79 : decode cX0_addCard 79 = .ok (.getfield 27, 3) := by decide +kernel
theorem dX0_addCard_82 : decode cX0_addCard 82 = .ok (.aload_n 0, 1) := by decide +kernel
theorem dX0_addCard_83 : decode cX0_addCard 83 = .ok (.getfield 42, 3) := by decide +kernel
theorem dX0_addCard_86 : decode cX0_addCard 86 = .ok (.aload_n 0, 1) := by decide +kernel
theorem dX0_addCard_87 : decode cX0_addCard 87 = .ok (.getfield 42, 3) := by decide +kernel
theorem dX0_addCard_90 : decode cX0_addCard 90 = .ok (.invokestatic 64, 3) := by decide +kernel
theorem dX0_addCard_93 : decode cX0_addCard 93 = .ok (.aload_n 0, 1) := by decide +kernel
theorem dX0_addCard_94 : decode cX0_addCard 94 = .ok (.dup, 1) := by decide +kernel
theorem dX0_addCard_95 : decode cX0_addCard 95 = .ok (.getfield 42, 3) := by decide +kernel
theorem dX0_addCard_98 : decode cX0_addCard 98 = .ok (.iconst 1, 1) := by decide +kernel
theorem dX0_addCard_99 : decode cX0_addCard 99 = .ok (.iadd, 1) := by decide +kernel
theorem dX0_addCard_100 : decode cX0_addCard 100 = .ok (.putfield 42, 3) := by decide +kernel
theorem dX0_addCard_103 : decode cX0_addCard 103 = .ok (.iconst 1, 1) := by decide +kernel
theorem dX0_addCard_104 : decode cX0_addCard 104 = .ok (.ireturn, 1) := by decide +kernel
set_option maxRecDepth 20000 in
theorem ggX0_addBidder_X1_put : GoodIn wsX0_addBidder wsX1_put := goodIn_r _ [8] (by decide +kernel) (by decide +kernel)
set_option maxRecDepth 20000 in
theorem gX0_addBidder_X1_put_n64 : GoodIn wsX0_addBidder (wsX1_put) := ggX0_addBidder_X1_put
theorem dX0_addBidder_0 : decode cX0_addBidder 0 = .ok (.aload_n 0, 1) := by decide +kernel
theorem dX0_addBidder_1 : decode cX0_addBidder 1 = .ok (.getfield 46, 3) := by decide +kernel
theorem dX0_addBidder_4 : decode cX0_addBidder 4 = .ok (.bipush 6, 2) := by decide +kernel
theorem dX0_addBidder_6 : decode cX0_addBidder 6 = .ok (.if_icmp .lt 5, 3) := by decide +kernel
theorem dX0_addBidder_9 : decode cX0_addBidder 9 = .ok (.iconst 0, 1) := by decide +kernel
theorem dX0_addBidder_10 : decode cX0_addBidder 10 = .ok (.ireturn, 1) := by decide +kernel
theorem dX0_addBidder_11 : decode cX0_addBidder 11 = .ok (.aload_n 0, 1) := by decide +kernel
theorem dX0_addBidder_12 : decode cX0_addBidder 12 = .ok (.getfield 30, 3) := by decide +kernel
theorem dX0_addBidder_15 : decode cX0_addBidder 15 = .ok (.aload_n 0, 1) := by decide +kernel
theorem dX0_addBidder_16 : decode cX0_addBidder 16 = .ok (.getfield 46, 3) := by decide +kernel
theorem dX0_addBidder_19 : decode cX0_addBidder 19 = .ok (.iload_n 1, 1) := by decide +kernel
theorem dX0_addBidder_20 : decode cX0_addBidder 20 = .ok (.invokestatic 64, 3) := by decide +kernel
theorem dX0_addBidder_23 : decode cX0_addBidder 23 = .ok (.aload_n 0, 1) := by decide +kernel
theorem dX0_addBidder_24 : decode cX0_addBidder 24 = .ok (.getfield 33, 3) := by decide +kernel
theorem dX0_addBidder_27 : decode cX0_addBidder 27 = .ok (.aload_n 0, 1) := by decide +kernel
theorem dX0_addBidder_28 : decode cX0_addBidder 28 = .ok (.getfield 46, 3) := by decide +kernel
theorem dX0_addBidder_31 : decode cX0_addBidder 31 = .ok (.iload_n 2, 1) := by decide +kernel
theorem dX0_addBidder_32 : decode cX0_addBidder 32 = .ok (.invokestatic 64, 3) := by decide +kernel
theorem dX0_addBidder_35 : decode cX0_addBidder 35 = .ok (.aload_n 0, 1) := by decide +kernel
theorem dX0_addBidder_36 : decode cX0_addBidder 36 = .ok (.getfield 36, 3) := by decide +kernel
theorem dX0_addBidder_39 : decode cX0_addBidder 39 = .ok (.aload_n 0, 1) := by decide +kernel
theorem dX0_addBidder_40 : decode cX0_addBidder 40 = .ok (.getfield 46, 3) := by decide +kernel
theorem dX0_addBidder_43 : decode cX0_addBidder 43 = .ok (.iload_n 3, 1) := by decide +kernel
theorem dX0_addBidder_44 : decode cX0_addBidder 44 = .ok (.invokestatic 64, 3) := by decide +kernel
theorem dX0_addBidder_47 : decode cX0_addBidder 47 = .ok (.aload_n 0, 1) := by decide +kernel
theorem dX0_addBidder_48 : decode cX0_addBidder 48 = .ok (.getfield 39, 3) := by decide +kernel
theorem dX0_addBidder_51 : decode cX0_addBidder 51 = .ok (.aload_n 0, 1) := by decide +kernel
theorem dX0_addBidder_52 : decode cX0_addBidder 52 = .ok (.getfield 46, 3) := by decide +kernel
theorem dX0_addBidder_55 : decode cX0_addBidder 55 = .ok (.bipush 50, 2) := by decide +kernel
theorem dX0_addBidder_57 : decode cX0_addBidder 57 = .ok (.invokestatic 64, 3) := by decide +kernel
theorem dX0_addBidder_60 : decode cX0_addBidder 60 = .ok (.aload_n 0, 1) := by decide +kernel
theorem dX0_addBidder_61 : decode cX0_addBidder 61 = .ok (.dup, 1) := by decide +kernel
theorem dX0_addBidder_62 : decode cX0_addBidder 62 = .ok (.getfield 46, 3) := by decide +kernel
theorem dX0_addBidder_65 : decode cX0_addBidder 65 = .ok (.iconst 1, 1) := by decide +kernel
theorem dX0_addBidder_66 : decode cX0_addBidder 66 = .ok (.iadd, 1) := by decide +kernel
theorem dX0_addBidder_67 : decode cX0_addBidder 67 = .ok (.putfield 46, 3) := by decide +kernel
theorem dX0_addBidder_70 : decode cX0_addBidder 70 = .ok (.iconst 1, 1) := by decide +kernel
theorem dX0_addBidder_71 : decode cX0_addBidder 71 = .ok (.ireturn, 1) := by decide +kernel
set_option maxRecDepth 20000 in
theorem ggX0_fillPurse_X0_hasBidder : GoodIn wsX0_fillPurse wsX0_hasBidder := goodIn_r _ [6, 7, 11, 12, 13, 14, 15, 16, 17, 18, 19, 20, 21, 22, 23] (by decide +kernel) (by decide +kernel)
set_option maxRecDepth 20000 in
theorem gX0_fillPurse_X0_hasBidder : GoodIn wsX0_fillPurse (wsV RX0 68 RX0 yX0_hasBidder wsX0_hasBidder) := goodIn_app (goodIn_of _ (by decide +kernel)) ggX0_fillPurse_X0_hasBidder
set_option maxRecDepth 20000 in
theorem ggX0_fillPurse_X1_put : GoodIn wsX0_fillPurse wsX1_put := goodIn_r _ [10] (by decide +kernel) (by decide +kernel)
set_option maxRecDepth 20000 in
theorem gX0_fillPurse_X1_put_n64 : GoodIn wsX0_fillPurse (wsX1_put) := ggX0_fillPurse_X1_put
theorem dX0_fillPurse_0 : decode cX0_fillPurse 0 = .ok (.aload_n 0, 1) := by decide +kernel
theorem dX0_fillPurse_1 : decode cX0_fillPurse 1 = .ok (.iload_n 1, 1) := by decide +kernel
theorem dX0_fillPurse_2 : decode cX0_fillPurse 2 = .ok (.invokevirtual 68, 3) := by decide +kernel
theorem dX0_fillPurse_5 : decode cX0_fillPurse 5 = .ok (.ifCond .ne 5, 3) := by decide +kernel
theorem dX0_fillPurse_8 : decode cX0_fillPurse 8 = .ok (.iconst 0, 1) := by decide +kernel
theorem dX0_fillPurse_9 : decode cX0_fillPurse 9 = .ok (.ireturn, 1) := by decide +kernel
theorem dX0_fillPurse_10 : decode cX0_fillPurse 10 = .ok (.aload_n 0, 1) := by decide +kernel
theorem dX0_fillPurse_11 : decode cX0_fillPurse 11 = .ok (.getfield 36, 3) := by decide +kernel
theorem dX0_fillPurse_14 : decode cX0_fillPurse 14 = .ok (.iload_n 1, 1) := by decide +kernel
theorem dX0_fillPurse_15 : decode cX0_fillPurse 15 = .ok (.iload_n 2, 1) := by decide +kernel
theorem dX0_fillPurse_16 : decode cX0_fillPurse 16 = .ok (.invokestatic 64, 3) := by decide +kernel
theorem dX0_fillPurse_19 : decode cX0_fillPurse 19 = .ok (.iconst 1, 1) := by decide +kernel
theorem dX0_fillPurse_20 : decode cX0_fillPurse 20 = .ok (.ireturn, 1) := by decide +kernel
set_option maxRecDepth 20000 in
theorem ggX0_layInPile_X0_hasCard : GoodIn wsX0_layInPile wsX0_hasCard := goodIn_r _ [6, 7, 11, 12, 13, 14, 15, 16, 17, 18, 19, 20, 21, 22, 23] (by decide +kernel) (by decide +kernel)
set_option maxRecDepth 20000 in
theorem gX0_layInPile_X0_hasCard : GoodIn wsX0_layInPile (wsV RX0 56 RX0 yX0_hasCard wsX0_hasCard) := goodIn_app (goodIn_of _ (by decide +kernel)) ggX0_layInPile_X0_hasCard
set_option maxRecDepth 20000 in
theorem ggX0_layInPile_X1_put : GoodIn wsX0_layInPile wsX1_put := goodIn_r _ [10] (by decide +kernel) (by decide +kernel)
set_option maxRecDepth 20000 in
theorem gX0_layInPile_X1_put_n64 : GoodIn wsX0_layInPile (wsX1_put) := ggX0_layInPile_X1_put
theorem dX0_layInPile_0 : decode cX0_layInPile 0 = .ok (.aload_n 0, 1) := by decide +kernel
theorem dX0_layInPile_1 : decode cX0_layInPile 1 = .ok (.iload_n 1, 1) := by decide +kernel
theorem dX0_layInPile_2 : decode cX0_layInPile 2 = .ok (.invokevirtual 56, 3) := by decide +kernel
theorem dX0_layInPile_5 : decode cX0_layInPile 5 = .ok (.ifCond .ne 5, 3) := by decide +kernel
theorem dX0_layInPile_8 : decode cX0_layInPile 8 = .ok (.iconst 0, 1) := by decide +kernel
theorem dX0_layInPile_9 : decode cX0_layInPile 9 = .ok (.ireturn, 1) := by decide +kernel
theorem dX0_layInPile_10 : decode cX0_layInPile 10 = .ok (.aload_n 0, 1) := by decide +kernel
theorem dX0_layInPile_11 : decode cX0_layInPile 11 = .ok (.getfield 24, 3) := by decide +kernel
theorem dX0_layInPile_14 : decode cX0_layInPile 14 = .ok (.iload_n 1, 1) := by decide +kernel
theorem dX0_layInPile_15 : decode cX0_layInPile 15 = .ok (.bipush (-9), 2) := by decide +kernel
theorem dX0_layInPile_17 : decode cX0_layInPile 17 = .ok (.invokestatic 64, 3) := by decide +kernel
theorem dX0_layInPile_20 : decode cX0_layInPile 20 = .ok (.iconst 1, 1) := by decide +kernel
theorem dX0_layInPile_21 : decode cX0_layInPile 21 = .ok (.ireturn, 1) := by decide +kernel
set_option maxRecDepth 20000 in
theorem ggX0_handTo_X0_hasCard : GoodIn wsX0_handTo wsX0_hasCard := goodIn_r _ [6, 7, 16, 17, 18, 19, 20, 21, 22, 23, 24, 25, 26, 27, 28] (by decide +kernel) (by decide +kernel)
set_option maxRecDepth 20000 in
theorem gX0_handTo_X0_hasCard : GoodIn wsX0_handTo (wsV RX0 56 RX0 yX0_hasCard wsX0_hasCard) := goodIn_app (goodIn_of _ (by decide +kernel)) ggX0_handTo_X0_hasCard
set_option maxRecDepth 20000 in
theorem ggX0_handTo_X0_hasBidder : GoodIn wsX0_handTo wsX0_hasBidder := goodIn_r _ [11, 12, 16, 17, 18, 19, 20, 21, 22, 23, 24, 25, 26, 27, 28] (by decide +kernel) (by decide +kernel)
set_option maxRecDepth 20000 in
theorem gX0_handTo_X0_hasBidder : GoodIn wsX0_handTo (wsV RX0 68 RX0 yX0_hasBidder wsX0_hasBidder) := goodIn_app (goodIn_of _ (by decide +kernel)) ggX0_handTo_X0_hasBidder
set_option maxRecDepth 20000 in
theorem ggX0_handTo_X1_put : GoodIn wsX0_handTo wsX1_put := goodIn_r _ [15] (by decide +kernel) (by decide +kernel)
set_option maxRecDepth 20000 in
theorem gX0_handTo_X1_put_n64 : GoodIn wsX0_handTo (wsX1_put) := ggX0_handTo_X1_put
theorem dX0_handTo_0 : decode cX0_handTo 0 = .ok (.aload_n 0, 1) := by decide +kernel
theorem dX0_handTo_1 : decode cX0_handTo 1 = .ok (.iload_n 1, 1) := by decide +kernel
theorem dX0_handTo_2 : decode cX0_handTo 2 = .ok (.invokevirtual 56, 3) := by decide +kernel
theorem dX0_handTo_5 : decode cX0_handTo 5 = .ok (.ifCond .eq 11, 3) := by decide +kernel
theorem dX0_handTo_8 : decode cX0_handTo 8 = .ok (.aload_n 0, 1) := by decide +kernel
theorem dX0_handTo_9 : decode cX0_handTo 9 = .ok (.iload_n 2, 1) := by decide +kernel
theorem dX0_handTo_10 : decode cX0_handTo 10 = .ok (.invokevirtual 68, 3) := by decide +kernel
theorem dX0_handTo_13 : decode cX0_handTo 13 = .ok (.ifCond .ne 5, 3) := by decide +kernel
theorem dX0_handTo_16 : decode cX0_handTo 16 = .ok (.iconst 0, 1) := by decide +kernel
theorem dX0_handTo_17 : decode cX0_handTo 17 = .ok (.ireturn, 1) := by decide +kernel
theorem dX0_handTo_18 : decode cX0_handTo 18 = .ok (.aload_n 0, 1) := by decide +kernel
theorem dX0_handTo_19 : decode cX0_handTo 19 = .ok (.getfield 24, 3) := by decide +kernel
theorem dX0_handTo_22 : decode cX0_handTo 22 = .ok (.iload_n 1, 1) := by decide +kernel
theorem dX0_handTo_23 : decode cX0_handTo 23 = .ok (.iload_n 2, 1) := by decide +kernel
theorem dX0_handTo_24 : decode cX0_handTo 24 = .ok (.invokestatic 64, 3) := by decide +kernel
theorem dX0_handTo_27 : decode cX0_handTo 27 = .ok (.iconst 1, 1) := by decide +kernel
theorem dX0_handTo_28 : decode cX0_handTo 28 = .ok (.ireturn, 1) := by decide +kernel
set_option maxRecDepth 20000 in
theorem ggX0_placeOf_X1_at : GoodIn wsX0_placeOf wsX1_at := goodIn_r _ [5] (by decide +kernel) (by decide +kernel)
set_option maxRecDepth 20000 in
theorem gX0_placeOf_X1_at_n60 : GoodIn wsX0_placeOf (wsX1_at) := ggX0_placeOf_X1_at
theorem dX0_placeOf_0 : decode cX0_placeOf 0 = .ok (.iconst 0, 1) := by decide +kernel
theorem dX0_placeOf_1 : decode cX0_placeOf 1 = .ok (.istore_n 2, 1) := by decide +kernel
theorem dX0_placeOf_2 : decode cX0_placeOf 2 = .ok (.iload_n 2, 1) := by decide +kernel
theorem dX0_placeOf_3 : decode cX0_placeOf 3 = .ok (.aload_n 0, 1) := by decide +kernel
theorem dX0_placeOf_4 : decode cX0_placeOf 4 = .ok (.getfield 42, 3) := by decide +kernel
theorem dX0_placeOf_7 : decode cX0_placeOf 7 = .ok (.if_icmp .ge 23, 3) := by decide +kernel
theorem dX0_placeOf_10 : decode cX0_placeOf 10 = .ok (.aload_n 0, 1) := by decide +kernel
theorem dX0_placeOf_11 : decode cX0_placeOf 11 = .ok (.getfield 27, 3) := by decide +kernel
theorem dX0_placeOf_14 : decode cX0_placeOf 14 = .ok (.iload_n 2, 1) := by decide +kernel
theorem dX0_placeOf_15 : decode cX0_placeOf 15 = .ok (.invokestatic 60, 3) := by decide +kernel
theorem dX0_placeOf_18 : decode cX0_placeOf 18 = .ok (.iload_n 1, 1) := by decide +kernel
theorem dX0_placeOf_19 : decode cX0_placeOf 19 = .ok (.if_icmp .ne 5, 3) := by decide +kernel
theorem dX0_placeOf_22 : decode cX0_placeOf 22 = .ok (.iload_n 2, 1) := by decide +kernel
theorem dX0_placeOf_23 : decode cX0_placeOf 23 = .ok (.ireturn, 1) := by decide +kernel
theorem dX0_placeOf_24 : decode cX0_placeOf 24 = .ok (.iinc 2 1, 3) := by decide +kernel
theorem dX0_placeOf_27 : decode cX0_placeOf 27 = .ok (.goto (-25), 3) := by decide +kernel
theorem dX0_placeOf_30 : decode cX0_placeOf 30 = .ok (.bipush (-9), 2) := by decide +kernel
theorem dX0_placeOf_32 : decode cX0_placeOf 32 = .ok (.ireturn, 1) := by decide +kernel
set_option maxRecDepth 20000 in
theorem ggX0_changePlaces_X0_hasCard : GoodIn wsX0_changePlaces wsX0_hasCard := goodIn_r _ [6, 7, 17, 18, 19, 20, 21, 22, 23, 24, 25, 26, 27, 28, 29] (by decide +kernel) (by decide +kernel)
set_option maxRecDepth 20000 in
theorem gX0_changePlaces_X0_hasCard : GoodIn wsX0_changePlaces (wsV RX0 56 RX0 yX0_hasCard wsX0_hasCard) := goodIn_app (goodIn_of _ (by decide +kernel)) ggX0_changePlaces_X0_hasCard
set_option maxRecDepth 20000 in
theorem ggX0_changePlaces_X0_placeOf : GoodIn wsX0_changePlaces wsX0_placeOf := goodIn_r _ [11, 7, 1, 12, 13, 14, 17, 18, 19, 20, 21, 22, 23, 24, 25, 26, 27, 28, 29] (by decide +kernel) (by decide +kernel)
set_option maxRecDepth 20000 in
theorem gX0_changePlaces_X0_placeOf : GoodIn wsX0_changePlaces (wsV RX0 71 RX0 yX0_placeOf wsX0_placeOf) := goodIn_app (goodIn_of _ (by decide +kernel)) ggX0_changePlaces_X0_placeOf
set_option maxRecDepth 20000 in
theorem ggX0_changePlaces_X1_put : GoodIn wsX0_changePlaces wsX1_put := goodIn_r _ [16] (by decide +kernel) (by decide +kernel)
set_option maxRecDepth 20000 in
theorem gX0_changePlaces_X1_put_n64 : GoodIn wsX0_changePlaces (wsX1_put) := ggX0_changePlaces_X1_put
theorem dX0_changePlaces_0 : decode cX0_changePlaces 0 = .ok (.aload_n 0, 1) := by decide +kernel
theorem dX0_changePlaces_1 : decode cX0_changePlaces 1 = .ok (.iload_n 1, 1) := by decide +kernel
theorem dX0_changePlaces_2 : decode cX0_changePlaces 2 = .ok (.invokevirtual 56, 3) := by decide +kernel
theorem dX0_changePlaces_5 : decode cX0_changePlaces 5 = .ok (.ifCond .eq 16, 3) := by decide +kernel
theorem dX0_changePlaces_8 : decode cX0_changePlaces 8 = .ok (.aload_n 0, 1) := by decide +kernel
theorem dX0_changePlaces_9 : decode cX0_changePlaces 9 = .ok (.iload_n 2, 1) := by decide +kernel
theorem dX0_changePlaces_10 : decode cX0_changePlaces 10 = .ok (.invokevirtual 56, 3) := by decide +kernel
theorem dX0_changePlaces_13 : decode cX0_changePlaces 13 = .ok (.ifCond .eq 8, 3) := by decide +kernel
theorem dX0_changePlaces_16 : decode cX0_changePlaces 16 = .ok (.iload_n 1, 1) := by decide +kernel
theorem dX0_changePlaces_17 : decode cX0_changePlaces 17 = .ok (.iload_n 2, 1) := by decide +kernel
theorem dX0_changePlaces_18 : decode cX0_changePlaces 18 = .ok (.if_icmp .ne 5, 3) := by decide +kernel
theorem dX0_changePlaces_21 : decode cX0_changePlaces 21 = .ok (.iconst 0, 1) := by decide +kernel
theorem dX0_changePlaces_22 : decode cX0_changePlaces 22 = .ok (.ireturn, 1) := by decide +kernel
theorem dX0_changePlaces_23 : decode cX0_changePlaces 23 = .ok (.aload_n 0, 1) := by decide +kernel
theorem dX0_changePlaces_24 : decode cX0_changePlaces 24 = .ok (.iload_n 1, 1) := by decide +kernel
theorem dX0_changePlaces_25 : decode cX0_changePlaces 25 = .ok (.invokevirtual 71, 3) := by decide +kernel
theorem dX0_changePlaces_28 : decode cX0_changePlaces 28 = .ok (.istore_n 3, 1) := by decide +kernel
theorem dX0_changePlaces_29 : decode cX0_changePlaces 29 = .ok (.aload_n 0, 1) := by decide +kernel
theorem dX0_changePlaces_30 : decode cX0_changePlaces 30 = .ok (.getfield 27, 3) := by decide +kernel
theorem dX0_changePlaces_33 : decode cX0_changePlaces 33 = .ok (.aload_n 0, 1) := by decide +kernel
theorem dX0_changePlaces_34 : decode cX0_changePlaces 34 = .ok (.iload_n 2, 1) := by decide +kernel
theorem dX0_changePlaces_35 : decode cX0_changePlaces 35 = .ok (.invokevirtual 71, 3) := by decide +kernel
theorem dX0_changePlaces_38 : decode cX0_changePlaces 38 = .ok (.iload_n 1, 1) := by decide +kernel
theorem dX0_changePlaces_39 : decode cX0_changePlaces 39 = .ok (.invokestatic 64, 3) := by decide +kernel
theorem dX0_changePlaces_42 : decode cX0_changePlaces 42 = .ok (.aload_n 0, 1) := by decide +kernel
theorem dX0_changePlaces_43 : decode cX0_changePlaces 43 = .ok (.getfield 27, 3) := by decide +kernel
theorem dX0_changePlaces_46 : decode cX0_changePlaces 46 = .ok (.iload_n 3, 1) := by decide +kernel
theorem dX0_changePlaces_47 : decode cX0_changePlaces 47 = .ok (.iload_n 2, 1) := by decide +kernel
theorem dX0_changePlaces_48 : decode cX0_changePlaces 48 = .ok (.invokestatic 64, 3) := by decide +kernel
theorem dX0_changePlaces_51 : decode cX0_changePlaces 51 = .ok (.iconst 1, 1) := by decide +kernel
theorem dX0_changePlaces_52 : decode cX0_changePlaces 52 = .ok (.ireturn, 1) := by decide +kernel
set_option maxRecDepth 20000 in
theorem ggX0_toFront_X0_placeOf : GoodIn wsX0_toFront wsX0_placeOf := goodIn_r _ [6, 7, 1, 8, 9, 10, 13, 14, 15, 16, 17, 18, 19, 20, 21, 22, 23, 24, 25] (by decide +kernel) (by decide +kernel)
set_option maxRecDepth 20000 in
theorem gX0_toFront_X0_placeOf : GoodIn wsX0_toFront (wsV RX0 71 RX0 yX0_placeOf wsX0_placeOf) := goodIn_app (goodIn_of _ (by decide +kernel)) ggX0_toFront_X0_placeOf
set_option maxRecDepth 20000 in
theorem ggX0_toFront_X1_at : GoodIn wsX0_toFront wsX1_at := goodIn_r _ [10] (by decide +kernel) (by decide +kernel)
set_option maxRecDepth 20000 in
theorem gX0_toFront_X1_at_n60 : GoodIn wsX0_toFront (wsX1_at) := ggX0_toFront_X1_at
set_option maxRecDepth 20000 in
theorem ggX0_toFront_X1_put : GoodIn wsX0_toFront wsX1_put := goodIn_r _ [12] (by decide +kernel) (by decide +kernel)
set_option maxRecDepth 20000 in
theorem gX0_toFront_X1_put_n64 : GoodIn wsX0_toFront (wsX1_put) := ggX0_toFront_X1_put
theorem dX0_toFront_0 : decode cX0_toFront 0 = .ok (.aload_n 0, 1) := by decide +kernel
theorem dX0_toFront_1 : decode cX0_toFront 1 = .ok (.iload_n 1, 1) := by decide +kernel
theorem dX0_toFront_2 : decode cX0_toFront 2 = .ok (.invokevirtual 71, 3) := by decide +kernel
theorem dX0_toFront_5 : decode cX0_toFront 5 = .ok (.istore_n 2, 1) := by decide +kernel
theorem dX0_toFront_6 : decode cX0_toFront 6 = .ok (.iload_n 2, 1) := by decide +kernel
theorem dX0_toFront_7 : decode cX0_toFront 7 = .ok (.ifCond .le 27, 3) := by decide +kernel
theorem dX0_toFront_10 : decode cX0_toFront 10 = .ok (.aload_n 0, 1) := by decide +kernel
theorem dX0_toFront_11 : decode cX0_toFront 11 = .ok (.getfield 27, 3) := by decide +kernel
theorem dX0_toFront_14 : decode cX0_toFront 14 = .ok (.iload_n 2, 1) := by decide +kernel
theorem dX0_toFront_15 : decode cX0_toFront 15 = .ok (.aload_n 0, 1) := by decide +kernel
theorem dX0_toFront_16 : decode cX0_toFront 16 = .ok (.getfield 27, 3) := by decide +kernel
theorem dX0_toFront_19 : decode cX0_toFront 19 = .ok (.iload_n 2, 1) := by decide +kernel
theorem dX0_toFront_20 : decode cX0_toFront 20 = .ok (.iconst 1, 1) := by decide +kernel
theorem dX0_toFront_21 : decode cX0_toFront 21 = .ok (.isub, 1) := by decide +kernel
theorem dX0_toFront_22 : decode cX0_toFront 22 = .ok (.invokestatic 60, 3) := by decide +kernel
theorem dX0_toFront_25 : decode cX0_toFront 25 = .ok (.invokestatic 64, 3) := by decide +kernel
theorem dX0_toFront_28 : decode cX0_toFront 28 = .ok (.iinc 2 (-1), 3) := by decide +kernel
theorem dX0_toFront_31 : decode cX0_toFront 31 = .ok (.goto (-25), 3) := by decide +kernel
theorem dX0_toFront_34 : decode cX0_toFront 34 = .ok (.aload_n 0, 1) := by decide +kernel
theorem dX0_toFront_35 : decode cX0_toFront 35 = .ok (.getfield 27, 3) := by decide +kernel
theorem dX0_toFront_38 : decode cX0_toFront 38 = .ok (.iconst 0, 1) := by decide +kernel
theorem dX0_toFront_39 : decode cX0_toFront 39 = .ok (.iload_n 1, 1) := by decide +kernel
theorem dX0_toFront_40 : decode cX0_toFront 40 = .ok (.invokestatic 64, 3) := by decide +kernel
theorem dX0_toFront_43 : decode cX0_toFront 43 = .ok (.return_, 1) := by decide +kernel
set_option maxRecDepth 20000 in
theorem ggX0_worth_X1_at : GoodIn wsX0_worth wsX1_at := goodIn_r _ [10] (by decide +kernel) (by decide +kernel)
set_option maxRecDepth 20000 in
theorem gX0_worth_X1_at_n60 : GoodIn wsX0_worth (wsX1_at) := ggX0_worth_X1_at
theorem dX0_worth_0 : decode cX0_worth 0 = .ok (.aload_n 0, 1) := by decide +kernel
theorem dX0_worth_1 : decode cX0_worth 1 = .ok (.getfield 15, 3) := by decide +kernel
theorem dX0_worth_4 : decode cX0_worth 4 = .ok (.iload_n 1, 1) := by decide +kernel
theorem dX0_worth_5 : decode cX0_worth 5 = .ok (.invokestatic 60, 3) := by decide +kernel
theorem dX0_worth_8 : decode cX0_worth 8 = .ok (.iconst 3, 1) := by decide +kernel
theorem dX0_worth_9 : decode cX0_worth 9 = .ok (.iadd, 1) := by decide +kernel
theorem dX0_worth_10 : decode cX0_worth 10 = .ok (.istore_n 2, 1) := by decide +kernel
theorem dX0_worth_11 : decode cX0_worth 11 = .ok (.iconst 0, 1) := by decide +kernel
theorem dX0_worth_12 : decode cX0_worth 12 = .ok (.iload_n 2, 1) := by decide +kernel
theorem dX0_worth_13 : decode cX0_worth 13 = .ok (.aload_n 0, 1) := by decide +kernel
theorem dX0_worth_14 : decode cX0_worth 14 = .ok (.getfield 21, 3) := by decide +kernel
theorem dX0_worth_17 : decode cX0_worth 17 = .ok (.iload_n 1, 1) := by decide +kernel
theorem dX0_worth_18 : decode cX0_worth 18 = .ok (.invokestatic 60, 3) := by decide +kernel
theorem dX0_worth_21 : decode cX0_worth 21 = .ok (.iconst 3, 1) := by decide +kernel
theorem dX0_worth_22 : decode cX0_worth 22 = .ok (.idiv, 1) := by decide +kernel
theorem dX0_worth_23 : decode cX0_worth 23 = .ok (.isub, 1) := by decide +kernel
theorem dX0_worth_24 : decode cX0_worth 24 = .ok (.invokestatic 75, 3) := by decide +kernel
theorem dX0_worth_27 : decode cX0_worth 27 = .ok (.istore_n 3, 1) := by decide +kernel
theorem dX0_worth_28 : decode cX0_worth 28 = .ok (.aload_n 0, 1) := by decide +kernel
theorem dX0_worth_29 : decode cX0_worth 29 = .ok (.getfield 9, 3) := by decide +kernel
theorem dX0_worth_32 : decode cX0_worth 32 = .ok (.iload_n 1, 1) := by decide +kernel
theorem dX0_worth_33 : decode cX0_worth 33 = .ok (.invokestatic 60, 3) := by decide +kernel
theorem dX0_worth_36 : decode cX0_worth 36 = .ok (.tableswitch 52 1 5 #[36, 40, 44, 46, 48], 36) := by decide +kernel
theorem dX0_worth_72 : decode cX0_worth 72 = .ok (.iload_n 2, 1) := by decide +kernel
theorem dX0_worth_73 : decode cX0_worth 73 = .ok (.iconst 2, 1) := by decide +kernel
theorem dX0_worth_74 : decode cX0_worth 74 = .ok (.idiv, 1) := by decide +kernel
theorem dX0_worth_75 : decode cX0_worth 75 = .ok (.ireturn, 1) := by decide +kernel
theorem dX0_worth_76 : decode cX0_worth 76 = .ok (.iconst 4, 1) := by decide +kernel
theorem dX0_worth_77 : decode cX0_worth 77 = .ok (.iload_n 2, 1) := by decide +kernel
theorem dX0_worth_78 : decode cX0_worth 78 = .ok (.imul, 1) := by decide +kernel
theorem dX0_worth_79 : decode cX0_worth 79 = .ok (.ireturn, 1) := by decide +kernel
theorem dX0_worth_80 : decode cX0_worth 80 = .ok (.iload_n 3, 1) := by decide +kernel
theorem dX0_worth_81 : decode cX0_worth 81 = .ok (.ireturn, 1) := by decide +kernel
theorem dX0_worth_82 : decode cX0_worth 82 = .ok (.iconst 0, 1) := by decide +kernel
theorem dX0_worth_83 : decode cX0_worth 83 = .ok (.ireturn, 1) := by decide +kernel
theorem dX0_worth_84 : decode cX0_worth 84 = .ok (.iload_n 3, 1) := by decide +kernel
theorem dX0_worth_85 : decode cX0_worth 85 = .ok (.iconst 2, 1) := by decide +kernel
theorem dX0_worth_86 : decode cX0_worth 86 = .ok (.idiv, 1) := by decide +kernel
theorem dX0_worth_87 : decode cX0_worth 87 = .ok (.ireturn, 1) := by decide +kernel
theorem dX0_worth_88 : decode cX0_worth 88 = .ok (.iload_n 2, 1) := by decide +kernel
theorem dX0_worth_89 : decode cX0_worth 89 = .ok (.ireturn, 1) := by decide +kernel
set_option maxRecDepth 20000 in
theorem ggX0_most_X1_at : GoodIn wsX0_most wsX1_at := goodIn_r _ [15] (by decide +kernel) (by decide +kernel)
set_option maxRecDepth 20000 in
theorem gX0_most_X1_at_n60 : GoodIn wsX0_most (wsX1_at) := ggX0_most_X1_at
set_option maxRecDepth 20000 in
theorem ggX0_most_X0_hasBidder : GoodIn wsX0_most wsX0_hasBidder := goodIn_r _ [20, 21, 22, 23, 24, 25, 26, 27, 28, 29, 30, 31, 32, 33, 34] (by decide +kernel) (by decide +kernel)
set_option maxRecDepth 20000 in
theorem gX0_most_X0_hasBidder : GoodIn wsX0_most (wsV RX0 68 RX0 yX0_hasBidder wsX0_hasBidder) := goodIn_app (goodIn_of _ (by decide +kernel)) ggX0_most_X0_hasBidder
theorem dX0_most_0 : decode cX0_most 0 = .ok (.aload_n 0, 1) := by decide +kernel
theorem dX0_most_1 : decode cX0_most 1 = .ok (.getfield 18, 3) := by decide +kernel
theorem dX0_most_4 : decode cX0_most 4 = .ok (.iload_n 2, 1) := by decide +kernel
theorem dX0_most_5 : decode cX0_most 5 = .ok (.invokestatic 60, 3) := by decide +kernel
theorem dX0_most_8 : decode cX0_most 8 = .ok (.istore 4, 2) := by decide +kernel
theorem dX0_most_10 : decode cX0_most 10 = .ok (.iload 4, 2) := by decide +kernel
theorem dX0_most_12 : decode cX0_most 12 = .ok (.iload_n 1, 1) := by decide +kernel
theorem dX0_most_13 : decode cX0_most 13 = .ok (.if_icmp .ne 7, 3) := by decide +kernel
theorem dX0_most_16 : decode cX0_most 16 = .ok (.iconst 1, 1) := by decide +kernel
theorem dX0_most_17 : decode cX0_most 17 = .ok (.goto 4, 3) := by decide +kernel
theorem dX0_most_20 : decode cX0_most 20 = .ok (.iconst 0, 1) := by decide +kernel
theorem dX0_most_21 : decode cX0_most 21 = .ok (.istore 5, 2) := by decide +kernel
theorem dX0_most_23 : decode cX0_most 23 = .ok (.iload 5, 2) := by decide +kernel
theorem dX0_most_25 : decode cX0_most 25 = .ok (.ifCond .eq 16, 3) := by decide +kernel
theorem dX0_most_28 : decode cX0_most 28 = .ok (.iload_n 3, 1) := by decide +kernel
theorem dX0_most_29 : decode cX0_most 29 = .ok (.aload_n 0, 1) := by decide +kernel
theorem dX0_most_30 : decode cX0_most 30 = .ok (.getfield 33, 3) := by decide +kernel
theorem dX0_most_33 : decode cX0_most 33 = .ok (.iload_n 1, 1) := by decide +kernel
theorem dX0_most_34 : decode cX0_most 34 = .ok (.invokestatic 60, 3) := by decide +kernel
theorem dX0_most_37 : decode cX0_most 37 = .ok (.iadd, 1) := by decide +kernel
theorem dX0_most_38 : decode cX0_most 38 = .ok (.goto 6, 3) := by decide +kernel
theorem dX0_most_41 : decode cX0_most 41 = .ok (.iload_n 3, 1) := by decide +kernel
theorem dX0_most_42 : decode cX0_most 42 = .ok (.iconst 2, 1) := by decide +kernel
theorem dX0_most_43 : decode cX0_most 43 = .ok (.idiv, 1) := by decide +kernel
theorem dX0_most_44 : decode cX0_most 44 = .ok (.istore 6, 2) := by decide +kernel
theorem dX0_most_46 : decode cX0_most 46 = .ok (.aload_n 0, 1) := by decide +kernel
theorem dX0_most_47 : decode cX0_most 47 = .ok (.getfield 30, 3) := by decide +kernel
theorem dX0_most_50 : decode cX0_most 50 = .ok (.iload_n 1, 1) := by decide +kernel
theorem dX0_most_51 : decode cX0_most 51 = .ok (.invokestatic 60, 3) := by decide +kernel
theorem dX0_most_54 : decode cX0_most 54 = .ok (.tableswitch 142 1 5 #[34, 47, 107, 116, 131], 34) := by decide +kernel
theorem dX0_most_88 : decode cX0_most 88 = .ok (.iconst 0, 1) := by decide +kernel
theorem dX0_most_89 : decode cX0_most 89 = .ok (.iload 6, 2) := by decide +kernel
theorem dX0_most_91 : decode cX0_most 91 = .ok (.iconst 3, 1) := by decide +kernel
theorem dX0_most_92 : decode cX0_most 92 = .ok (.isub, 1) := by decide +kernel
theorem dX0_most_93 : decode cX0_most 93 = .ok (.invokestatic 75, 3) := by decide +kernel
theorem dX0_most_96 : decode cX0_most 96 = .ok (.istore 7, 2) := by decide +kernel
theorem dX0_most_98 : decode cX0_most 98 = .ok (.goto 102, 3) := by decide +kernel
theorem dX0_most_101 : decode cX0_most 101 = .ok (.iload 5, 2) := by decide +kernel
theorem dX0_most_103 : decode cX0_most 103 = .ok (.ifCond .ne 36, 3) := by decide +kernel
theorem dX0_most_106 : decode cX0_most 106 = .ok (.aload_n 0, 1) := by decide +kernel
theorem dX0_most_107 : decode cX0_most 107 = .ok (.iload 4, 2) := by decide +kernel
theorem dX0_most_109 : decode cX0_most 109 = .ok (.invokevirtual 68, 3) := by decide +kernel
theorem dX0_most_112 : decode cX0_most 112 = .ok (.ifCond .eq 27, 3) := by decide +kernel
theorem dX0_most_115 : decode cX0_most 115 = .ok (.aload_n 0, 1) := by decide +kernel
theorem dX0_most_116 : decode cX0_most 116 = .ok (.getfield 39, 3) := by decide +kernel
theorem dX0_most_119 : decode cX0_most 119 = .ok (.iload 4, 2) := by decide +kernel
theorem dX0_most_121 : decode cX0_most 121 = .ok (.invokestatic 60, 3) := by decide +kernel
theorem dX0_most_124 : decode cX0_most 124 = .ok (.aload_n 0, 1) := by decide +kernel
theorem dX0_most_125 : decode cX0_most 125 = .ok (.getfield 39, 3) := by decide +kernel
theorem dX0_most_128 : decode cX0_most 128 = .ok (.iload_n 1, 1) := by decide +kernel
theorem dX0_most_129 : decode cX0_most 129 = .ok (.invokestatic 60, 3) := by decide +kernel
theorem dX0_most_132 : decode cX0_most 132 = .ok (.if_icmp .le 7, 3) := by decide +kernel
theorem dX0_most_135 : decode cX0_most 135 = .ok (.iconst 1, 1) := by decide +kernel
theorem dX0_most_136 : decode cX0_most 136 = .ok (.goto 4, 3) := by decide +kernel
theorem dX0_most_139 : decode cX0_most 139 = .ok (.iconst 0, 1) := by decide +kernel
theorem dX0_most_140 : decode cX0_most 140 = .ok (.istore 8, 2) := by decide +kernel
theorem dX0_most_142 : decode cX0_most 142 = .ok (.iload 8, 2) := by decide +kernel
theorem dX0_most_144 : decode cX0_most 144 = .ok (.ifCond .eq 10, 3) := by decide +kernel
theorem dX0_most_147 : decode cX0_most 147 = .ok (.iconst 2, 1) := by decide +kernel
theorem dX0_most_148 : decode cX0_most 148 = .ok (.iload 6, 2) := by decide +kernel
theorem dX0_most_150 : decode cX0_most 150 = .ok (.imul, 1) := by decide +kernel
theorem dX0_most_151 : decode cX0_most 151 = .ok (.goto 5, 3) := by decide +kernel
theorem dX0_most_154 : decode cX0_most 154 = .ok (.iload 6, 2) := by decide +kernel
theorem dX0_most_156 : decode cX0_most 156 = .ok (.istore 7, 2) := by decide +kernel
theorem dX0_most_158 : decode cX0_most 158 = .ok (.goto 42, 3) := by decide +kernel
theorem dX0_most_161 : decode cX0_most 161 = .ok (.iload 6, 2) := by decide +kernel
theorem dX0_most_163 : decode cX0_most 163 = .ok (.iconst 5, 1) := by decide +kernel
theorem dX0_most_164 : decode cX0_most 164 = .ok (.iadd, 1) := by decide +kernel
theorem dX0_most_165 : decode cX0_most 165 = .ok (.istore 7, 2) := by decide +kernel
theorem dX0_most_167 : decode cX0_most 167 = .ok (.goto 33, 3) := by decide +kernel
theorem dX0_most_170 : decode cX0_most 170 = .ok (.iload 5, 2) := by decide +kernel
theorem dX0_most_172 : decode cX0_most 172 = .ok (.ifCond .eq 7, 3) := by decide +kernel
theorem dX0_most_175 : decode cX0_most 175 = .ok (.iload_n 3, 1) := by decide +kernel
theorem dX0_most_176 : decode cX0_most 176 = .ok (.goto 4, 3) := by decide +kernel
theorem dX0_most_179 : decode cX0_most 179 = .ok (.iconst 0, 1) := by decide +kernel
theorem dX0_most_180 : decode cX0_most 180 = .ok (.istore 7, 2) := by decide +kernel
theorem dX0_most_182 : decode cX0_most 182 = .ok (.goto 18, 3) := by decide +kernel
theorem dX0_most_185 : decode cX0_most 185 = .ok (.iconst 2, 1) := by decide +kernel
theorem dX0_most_186 : decode cX0_most 186 = .ok (.iload 6, 2) := by decide +kernel
theorem dX0_most_188 : decode cX0_most 188 = .ok (.iconst 5, 1) := by decide +kernel
theorem dX0_most_189 : decode cX0_most 189 = .ok (.iadd, 1) := by decide +kernel
theorem dX0_most_190 : decode cX0_most 190 = .ok (.imul, 1) := by decide +kernel
theorem dX0_most_191 : decode cX0_most 191 = .ok (.istore 7, 2) := by decide +kernel
theorem dX0_most_193 : decode cX0_most 193 = .ok (.goto 7, 3) := by decide +kernel
theorem dX0_most_196 : decode cX0_most 196 = .ok (.iload 6, 2) := by decide +kernel
theorem dX0_most_198 : decode cX0_most 198 = .ok (.istore 7, 2) := by decide +kernel
theorem dX0_most_200 : decode cX0_most 200 = .ok (.iload 7, 2) := by decide +kernel
theorem dX0_most_202 : decode cX0_most 202 = .ok (.aload_n 0, 1) := by decide +kernel
theorem dX0_most_203 : decode cX0_most 203 = .ok (.getfield 36, 3) := by decide +kernel
theorem dX0_most_206 : decode cX0_most 206 = .ok (.iload_n 1, 1) := by decide +kernel
theorem dX0_most_207 : decode cX0_most 207 = .ok (.invokestatic 60, 3) := by decide +kernel
theorem dX0_most_210 : decode cX0_most 210 = .ok (.invokestatic 81, 3) := by decide +kernel
theorem dX0_most_213 : decode cX0_most 213 = .ok (.ireturn, 1) := by decide +kernel
set_option maxRecDepth 20000 in
theorem ggX0_rivals_X0_worth : GoodIn wsX0_rivals wsX0_worth := goodIn_r _ [6, 7, 8, 9, 10, 11, 12, 13, 14, 15, 16, 33, 34, 35, 36, 37, 38, 39, 40, 41, 42, 43, 44, 45] (by decide +kernel) (by decide +kernel)
set_option maxRecDepth 20000 in
theorem gX0_rivals_X0_worth : GoodIn wsX0_rivals (wsV RX0 84 RX0 yX0_worth wsX0_worth) := goodIn_app (goodIn_of _ (by decide +kernel)) ggX0_rivals_X0_worth
set_option maxRecDepth 20000 in
theorem ggX0_rivals_X0_most : GoodIn wsX0_rivals wsX0_most := goodIn_r _ [20, 21, 22, 23, 9, 10, 11, 12, 24, 25, 26, 27, 28, 14, 15, 16, 29, 30, 31, 5, 32, 1, 33, 34, 35, 36, 37, 38, 39, 40, 41, 42, 43, 44, 45] (by decide +kernel) (by decide +kernel)
set_option maxRecDepth 20000 in
theorem gX0_rivals_X0_most : GoodIn wsX0_rivals (wsV RX0 87 RX0 yX0_most wsX0_most) := goodIn_app (goodIn_of _ (by decide +kernel)) ggX0_rivals_X0_most
theorem dX0_rivals_0 : decode cX0_rivals 0 = .ok (.aload_n 0, 1) := by decide +kernel
theorem dX0_rivals_1 : decode cX0_rivals 1 = .ok (.iload_n 1, 1) := by decide +kernel
theorem dX0_rivals_2 : decode cX0_rivals 2 = .ok (.invokevirtual 84, 3) := by decide +kernel
theorem dX0_rivals_5 : decode cX0_rivals 5 = .ok (.istore_n 2, 1) := by decide +kernel
theorem dX0_rivals_6 : decode cX0_rivals 6 = .ok (.iconst 0, 1) := by decide +kernel
theorem dX0_rivals_7 : decode cX0_rivals 7 = .ok (.istore_n 3, 1) := by decide +kernel
theorem dX0_rivals_8 : decode cX0_rivals 8 = .ok (.iconst 0, 1) := by decide +kernel
theorem dX0_rivals_9 : decode cX0_rivals 9 = .ok (.istore 4, 2) := by decide +kernel
theorem dX0_rivals_11 : decode cX0_rivals 11 = .ok (.iload 4, 2) := by decide +kernel
theorem dX0_rivals_13 : decode cX0_rivals 13 = .ok (.aload_n 0, 1) := by decide +kernel
theorem dX0_rivals_14 : decode cX0_rivals 14 = .ok (.getfield 46, 3) := by decide +kernel
theorem dX0_rivals_17 : decode cX0_rivals 17 = .ok (.if_icmp .ge 24, 3) := by decide +kernel
theorem dX0_rivals_20 : decode cX0_rivals 20 = .ok (.aload_n 0, 1) := by decide +kernel
theorem dX0_rivals_21 : decode cX0_rivals 21 = .ok (.iload 4, 2) := by decide +kernel
theorem dX0_rivals_23 : decode cX0_rivals 23 = .ok (.iload_n 1, 1) := by decide +kernel
theorem dX0_rivals_24 : decode cX0_rivals 24 = .ok (.iload_n 2, 1) := by decide +kernel
theorem dX0_rivals_25 : decode cX0_rivals 25 = .ok (.invokevirtual 87, 3) := by decide +kernel
theorem dX0_rivals_28 : decode cX0_rivals 28 = .ok (.iconst 1, 1) := by decide +kernel
theorem dX0_rivals_29 : decode cX0_rivals 29 = .ok (.if_icmp .lt 6, 3) := by decide +kernel
theorem dX0_rivals_32 : decode cX0_rivals 32 = .ok (.iinc 3 1, 3) := by decide +kernel
theorem dX0_rivals_35 : decode cX0_rivals 35 = .ok (.iinc 4 1, 3) := by decide +kernel
theorem dX0_rivals_38 : decode cX0_rivals 38 = .ok (.goto (-27), 3) := by decide +kernel
theorem dX0_rivals_41 : decode cX0_rivals 41 = .ok (.iload_n 3, 1) := by decide +kernel
theorem dX0_rivals_42 : decode cX0_rivals 42 = .ok (.ireturn, 1) := by decide +kernel
set_option maxRecDepth 20000 in
theorem ggX0_deal_X0_worth : GoodIn wsX0_deal wsX0_worth := goodIn_r _ [10, 11, 12, 13, 14, 4, 15, 16, 17, 18, 19, 33, 34, 35, 36, 37, 38, 39, 40, 41, 42, 43, 44, 45] (by decide +kernel) (by decide +kernel)
set_option maxRecDepth 20000 in
theorem gX0_deal_X0_worth : GoodIn wsX0_deal (wsV RX0 84 RX0 yX0_worth wsX0_worth) := goodIn_app (goodIn_of _ (by decide +kernel)) ggX0_deal_X0_worth
set_option maxRecDepth 20000 in
theorem ggX0_deal_X0_most : GoodIn wsX0_deal wsX0_most := goodIn_r _ [23, 24, 25, 26, 13, 14, 4, 15, 27, 28, 2, 3, 5, 17, 18, 19, 29, 30, 31, 9, 32, 1, 33, 34, 35, 36, 37, 38, 39, 40, 41, 42, 43, 44, 45] (by decide +kernel) (by decide +kernel)
set_option maxRecDepth 20000 in
theorem gX0_deal_X0_most : GoodIn wsX0_deal (wsV RX0 87 RX0 yX0_most wsX0_most) := goodIn_app (goodIn_of _ (by decide +kernel)) ggX0_deal_X0_most
theorem dX0_deal_0 : decode cX0_deal 0 = .ok (.aload_n 0, 1) := by decide +kernel
theorem dX0_deal_1 : decode cX0_deal 1 = .ok (.iload_n 1, 1) := by decide +kernel
theorem dX0_deal_2 : decode cX0_deal 2 = .ok (.invokevirtual 84, 3) := by decide +kernel
theorem dX0_deal_5 : decode cX0_deal 5 = .ok (.istore_n 3, 1) := by decide +kernel
theorem dX0_deal_6 : decode cX0_deal 6 = .ok (.iconst 0, 1) := by decide +kernel
theorem dX0_deal_7 : decode cX0_deal 7 = .ok (.istore 4, 2) := by decide +kernel
theorem dX0_deal_9 : decode cX0_deal 9 = .ok (.iconst 0, 1) := by decide +kernel
theorem dX0_deal_10 : decode cX0_deal 10 = .ok (.istore 5, 2) := by decide +kernel
theorem dX0_deal_12 : decode cX0_deal 12 = .ok (.bipush (-9), 2) := by decide +kernel
theorem dX0_deal_14 : decode cX0_deal 14 = .ok (.istore 6, 2) := by decide +kernel
theorem dX0_deal_16 : decode cX0_deal 16 = .ok (.iconst 0, 1) := by decide +kernel
theorem dX0_deal_17 : decode cX0_deal 17 = .ok (.istore 7, 2) := by decide +kernel
theorem dX0_deal_19 : decode cX0_deal 19 = .ok (.iload 7, 2) := by decide +kernel
theorem dX0_deal_21 : decode cX0_deal 21 = .ok (.aload_n 0, 1) := by decide +kernel
theorem dX0_deal_22 : decode cX0_deal 22 = .ok (.getfield 46, 3) := by decide +kernel
theorem dX0_deal_25 : decode cX0_deal 25 = .ok (.if_icmp .ge 66, 3) := by decide +kernel
theorem dX0_deal_28 : decode cX0_deal 28 = .ok (.iload_n 2, 1) := by decide +kernel
theorem dX0_deal_29 : decode cX0_deal 29 = .ok (.iload 7, 2) := by decide +kernel
theorem dX0_deal_31 : decode cX0_deal 31 = .ok (.ishr, 1) := by decide +kernel
theorem dX0_deal_32 : decode cX0_deal 32 = .ok (.iconst 1, 1) := by decide +kernel
theorem dX0_deal_33 : decode cX0_deal 33 = .ok (.iand, 1) := by decide +kernel
theorem dX0_deal_34 : decode cX0_deal 34 = .ok (.iconst 1, 1) := by decide +kernel
theorem dX0_deal_35 : decode cX0_deal 35 = .ok (.if_icmp .ne 7, 3) := by decide +kernel
theorem dX0_deal_38 : decode cX0_deal 38 = .ok (.iconst 0, 1) := by decide +kernel
theorem dX0_deal_39 : decode cX0_deal 39 = .ok (.goto 11, 3) := by decide +kernel
theorem dX0_deal_42 : decode cX0_deal 42 = .ok (.aload_n 0, 1) := by decide +kernel
theorem dX0_deal_43 : decode cX0_deal 43 = .ok (.iload 7, 2) := by decide +kernel
theorem dX0_deal_45 : decode cX0_deal 45 = .ok (.iload_n 1, 1) := by decide +kernel
theorem dX0_deal_46 : decode cX0_deal 46 = .ok (.iload_n 3, 1) := by decide +kernel
theorem dX0_deal_47 : decode cX0_deal 47 = .ok (.invokevirtual 87, 3) := by decide +kernel
theorem dX0_deal_50 : decode cX0_deal 50 = .ok (.istore 8, 2) := by decide +kernel
theorem dX0_deal_52 : decode cX0_deal 52 = .ok (.iload 8, 2) := by decide +kernel
theorem dX0_deal_54 : decode cX0_deal 54 = .ok (.iload 4, 2) := by decide +kernel
theorem dX0_deal_56 : decode cX0_deal 56 = .ok (.if_icmp .le 18, 3) := by decide +kernel
theorem dX0_deal_59 : decode cX0_deal 59 = .ok (.iload 4, 2) := by decide +kernel
theorem dX0_deal_61 : decode cX0_deal 61 = .ok (.istore 5, 2) := by decide +kernel
theorem dX0_deal_63 : decode cX0_deal 63 = .ok (.iload 8, 2) := by decide +kernel
theorem dX0_deal_65 : decode cX0_deal 65 = .ok (.istore 4, 2) := by decide +kernel
theorem dX0_deal_67 : decode cX0_deal 67 = .ok (.iload 7, 2) := by decide +kernel
theorem dX0_deal_69 : decode cX0_deal 69 = .ok (.istore 6, 2) := by decide +kernel
theorem dX0_deal_71 : decode cX0_deal 71 = .ok (.goto 14, 3) := by decide +kernel
theorem dX0_deal_74 : decode cX0_deal 74 = .ok (.iload 8, 2) := by decide +kernel
theorem dX0_deal_76 : decode cX0_deal 76 = .ok (.iload 5, 2) := by decide +kernel
theorem dX0_deal_78 : decode cX0_deal 78 = .ok (.if_icmp .le 7, 3) := by decide +kernel
theorem dX0_deal_81 : decode cX0_deal 81 = .ok (.iload 8, 2) := by decide +kernel
theorem dX0_deal_83 : decode cX0_deal 83 = .ok (.istore 5, 2) := by decide +kernel
theorem dX0_deal_85 : decode cX0_deal 85 = .ok (.iinc 7 1, 3) := by decide +kernel
theorem dX0_deal_88 : decode cX0_deal 88 = .ok (.goto (-69), 3) := by decide +kernel
theorem dX0_deal_91 : decode cX0_deal 91 = .ok (.iload 6, 2) := by decide +kernel
theorem dX0_deal_93 : decode cX0_deal 93 = .ok (.ifCond .ge 8, 3) := by decide +kernel
theorem dX0_deal_96 : decode cX0_deal 96 = .ok (.bipush (-9), 2) := by decide +kernel
theorem dX0_deal_98 : decode cX0_deal 98 = .ok (.goto 19, 3) := by decide +kernel
theorem dX0_deal_101 : decode cX0_deal 101 = .ok (.iload 6, 2) := by decide +kernel
theorem dX0_deal_103 : decode cX0_deal 103 = .ok (.sipush 1000, 3) := by decide +kernel
theorem dX0_deal_106 : decode cX0_deal 106 = .ok (.imul, 1) := by decide +kernel
theorem dX0_deal_107 : decode cX0_deal 107 = .ok (.iload 4, 2) := by decide +kernel
theorem dX0_deal_109 : decode cX0_deal 109 = .ok (.iload 5, 2) := by decide +kernel
theorem dX0_deal_111 : decode cX0_deal 111 = .ok (.iconst 1, 1) := by decide +kernel
theorem dX0_deal_112 : decode cX0_deal 112 = .ok (.iadd, 1) := by decide +kernel
theorem dX0_deal_113 : decode cX0_deal 113 = .ok (.invokestatic 81, 3) := by decide +kernel
theorem dX0_deal_116 : decode cX0_deal 116 = .ok (.iadd, 1) := by decide +kernel
theorem dX0_deal_117 : decode cX0_deal 117 = .ok (.ireturn, 1) := by decide +kernel
set_option maxRecDepth 20000 in
theorem ggX0_auction_X0_deal : GoodIn wsX0_auction wsX0_deal := goodIn_r _ [16, 17, 5, 6, 7, 8, 18, 19, 20, 15, 21, 22, 23, 9, 10, 11, 24, 25, 26, 27, 28, 29, 30, 31, 1, 32, 33, 4, 3, 34, 35, 36, 37, 40, 41, 42, 43, 44, 45, 46, 47, 48, 49, 50, 51, 52] (by decide +kernel) (by decide +kernel)
set_option maxRecDepth 20000 in
theorem gX0_auction_X0_deal : GoodIn wsX0_auction (wsV RX0 91 RX0 yX0_deal wsX0_deal) := goodIn_app (goodIn_of _ (by decide +kernel)) ggX0_auction_X0_deal
set_option maxRecDepth 20000 in
theorem ggX0_auction_X1_at : GoodIn wsX0_auction wsX1_at := goodIn_r _ [27] (by decide +kernel) (by decide +kernel)
set_option maxRecDepth 20000 in
theorem gX0_auction_X1_at_n60 : GoodIn wsX0_auction (wsX1_at) := ggX0_auction_X1_at
set_option maxRecDepth 20000 in
theorem ggX0_auction_X1_put : GoodIn wsX0_auction wsX1_put := goodIn_r _ [39] (by decide +kernel) (by decide +kernel)
set_option maxRecDepth 20000 in
theorem gX0_auction_X1_put_n64 : GoodIn wsX0_auction (wsX1_put) := ggX0_auction_X1_put
set_option maxRecDepth 20000 in
theorem ggX0_auction_X0_hasBidder : GoodIn wsX0_auction wsX0_hasBidder := goodIn_r _ [37, 17, 40, 41, 42, 43, 44, 45, 46, 47, 48, 49, 50, 51, 52] (by decide +kernel) (by decide +kernel)
set_option maxRecDepth 20000 in
theorem gX0_auction_X0_hasBidder : GoodIn wsX0_auction (wsV RX0 68 RX0 yX0_hasBidder wsX0_hasBidder) := goodIn_app (goodIn_of _ (by decide +kernel)) ggX0_auction_X0_hasBidder
set_option maxRecDepth 20000 in
theorem ggX0_auction_X0_worth : GoodIn wsX0_auction wsX0_worth := goodIn_r _ [21, 22, 23, 9, 10, 7, 11, 24, 25, 26, 27, 40, 41, 42, 43, 44, 45, 46, 47, 48, 49, 50, 51, 52] (by decide +kernel) (by decide +kernel)
set_option maxRecDepth 20000 in
theorem gX0_auction_X0_worth : GoodIn wsX0_auction (wsV RX0 84 RX0 yX0_worth wsX0_worth) := goodIn_app (goodIn_of _ (by decide +kernel)) ggX0_auction_X0_worth
theorem dX0_auction_0 : decode cX0_auction 0 = .ok (.aload_n 0, 1) := by decide +kernel
theorem dX0_auction_1 : decode cX0_auction 1 = .ok (.iload_n 1, 1) := by decide +kernel
theorem dX0_auction_2 : decode cX0_auction 2 = .ok (.iconst 0, 1) := by decide +kernel
theorem dX0_auction_3 : decode cX0_auction 3 = .ok (.invokevirtual 91, 3) := by decide +kernel
theorem dX0_auction_6 : decode cX0_auction 6 = .ok (.istore_n 2, 1) := by decide +kernel
theorem dX0_auction_7 : decode cX0_auction 7 = .ok (.iload_n 2, 1) := by decide +kernel
theorem dX0_auction_8 : decode cX0_auction 8 = .ok (.ifCond .ge 5, 3) := by decide +kernel
theorem dX0_auction_11 : decode cX0_auction 11 = .ok (.iconst 0, 1) := by decide +kernel
theorem dX0_auction_12 : decode cX0_auction 12 = .ok (.ireturn, 1) := by decide +kernel
theorem dX0_auction_13 : decode cX0_auction 13 = .ok (.iload_n 2, 1) := by decide +kernel
theorem dX0_auction_14 : decode cX0_auction 14 = .ok (.sipush 1000, 3) := by decide +kernel
theorem dX0_auction_17 : decode cX0_auction 17 = .ok (.idiv, 1) := by decide +kernel
theorem dX0_auction_18 : decode cX0_auction 18 = .ok (.istore_n 3, 1) := by decide +kernel
theorem dX0_auction_19 : decode cX0_auction 19 = .ok (.iload_n 2, 1) := by decide +kernel
theorem dX0_auction_20 : decode cX0_auction 20 = .ok (.sipush 1000, 3) := by decide +kernel
theorem dX0_auction_23 : decode cX0_auction 23 = .ok (.irem, 1) := by decide +kernel
theorem dX0_auction_24 : decode cX0_auction 24 = .ok (.istore 4, 2) := by decide +kernel
theorem dX0_auction_26 : decode cX0_auction 26 = .ok (.aload_n 0, 1) := by decide +kernel
theorem dX0_auction_27 : decode cX0_auction 27 = .ok (.getfield 18, 3) := by decide +kernel
theorem dX0_auction_30 : decode cX0_auction 30 = .ok (.iload_n 1, 1) := by decide +kernel
theorem dX0_auction_31 : decode cX0_auction 31 = .ok (.invokestatic 60, 3) := by decide +kernel
theorem dX0_auction_34 : decode cX0_auction 34 = .ok (.istore 5, 2) := by decide +kernel
theorem dX0_auction_36 : decode cX0_auction 36 = .ok (.aload_n 0, 1) := by decide +kernel
theorem dX0_auction_37 : decode cX0_auction 37 = .ok (.getfield 24, 3) := by decide +kernel
theorem dX0_auction_40 : decode cX0_auction 40 = .ok (.iload_n 1, 1) := by decide +kernel
theorem dX0_auction_41 : decode cX0_auction 41 = .ok (.iload_n 3, 1) := by decide +kernel
theorem dX0_auction_42 : decode cX0_auction 42 = .ok (.invokestatic 64, 3) := by decide +kernel
theorem dX0_auction_45 : decode cX0_auction 45 = .ok (.aload_n 0, 1) := by decide +kernel
theorem dX0_auction_46 : decode cX0_auction 46 = .ok (.getfield 36, 3) := by decide +kernel
theorem dX0_auction_49 : decode cX0_auction 49 = .ok (.iload_n 3, 1) := by decide +kernel
theorem dX0_auction_50 : decode cX0_auction 50 = .ok (.aload_n 0, 1) := by decide +kernel
theorem dX0_auction_51 : decode cX0_auction 51 = .ok (.getfield 36, 3) := by decide +kernel
theorem dX0_auction_54 : decode cX0_auction 54 = .ok (.iload_n 3, 1) := by decide +kernel
theorem dX0_auction_55 : decode cX0_auction 55 = .ok (.invokestatic 60, 3) := by decide +kernel
theorem dX0_auction_58 : decode cX0_auction 58 = .ok (.iload 4, 2) := by decide +kernel
theorem dX0_auction_60 : decode cX0_auction 60 = .ok (.isub, 1) := by decide +kernel
theorem dX0_auction_61 : decode cX0_auction 61 = .ok (.invokestatic 64, 3) := by decide +kernel
theorem dX0_auction_64 : decode cX0_auction 64 = .ok (.iload 5, 2) := by decide +kernel
theorem dX0_auction_66 : decode cX0_auction 66 = .ok (.iload_n 3, 1) := by decide +kernel
theorem dX0_auction_67 : decode cX0_auction 67 = .ok (.if_icmp .ne 31, 3) := by decide +kernel
theorem dX0_auction_70 : decode cX0_auction 70 = .ok (.aload_n 0, 1) := by decide +kernel
theorem dX0_auction_71 : decode cX0_auction 71 = .ok (.getfield 39, 3) := by decide +kernel
theorem dX0_auction_74 : decode cX0_auction 74 = .ok (.iload 5, 2) := by decide +kernel
theorem dX0_auction_76 : decode cX0_auction 76 = .ok (.bipush 99, 2) := by decide +kernel
theorem dX0_auction_78 : decode cX0_auction 78 = .ok (.aload_n 0, 1) := by decide +kernel
theorem dX0_auction_79 : decode cX0_auction 79 = .ok (.getfield 39, 3) := by decide +kernel
theorem dX0_auction_82 : decode cX0_auction 82 = .ok (.iload 5, 2) := by decide +kernel
theorem dX0_auction_84 : decode cX0_auction 84 = .ok (.invokestatic 60, 3) := by decide +kernel
theorem dX0_auction_87 : decode cX0_auction 87 = .ok (.iconst 2, 1) := by decide +kernel
theorem dX0_auction_88 : decode cX0_auction 88 = .ok (.iadd, 1) := by decide +kernel
theorem dX0_auction_89 : decode cX0_auction 89 = .ok (.invokestatic 81, 3) := by decide +kernel
theorem dX0_auction_92 : decode cX0_auction 92 = .ok (.invokestatic 64, 3) := by decide +kernel
theorem dX0_auction_95 : decode cX0_auction 95 = .ok (.goto 44, 3) := by decide +kernel
theorem dX0_auction_98 : decode cX0_auction 98 = .ok (.aload_n 0, 1) := by decide +kernel
theorem dX0_auction_99 : decode cX0_auction 99 = .ok (.iload 5, 2) := by decide +kernel
theorem dX0_auction_101 : decode cX0_auction 101 = .ok (.invokevirtual 68, 3) := by decide +kernel
theorem dX0_auction_104 : decode cX0_auction 104 = .ok (.ifCond .eq 35, 3) := by decide +kernel
theorem dX0_auction_107 : decode cX0_auction 107 = .ok (.aload_n 0, 1) := by decide +kernel
theorem dX0_auction_108 : decode cX0_auction 108 = .ok (.getfield 39, 3) := by decide +kernel
theorem dX0_auction_111 : decode cX0_auction 111 = .ok (.iload 5, 2) := by decide +kernel
theorem dX0_auction_113 : decode cX0_auction 113 = .ok (.iconst 0, 1) := by decide +kernel
theorem dX0_auction_114 : decode cX0_auction 114 = .ok (.aload_n 0, 1) := by decide +kernel
theorem dX0_auction_115 : decode cX0_auction 115 = .ok (.getfield 39, 3) := by decide +kernel
theorem dX0_auction_118 : decode cX0_auction 118 = .ok (.iload 5, 2) := by decide +kernel
theorem dX0_auction_120 : decode cX0_auction 120 = .ok (.invokestatic 60, 3) := by decide +kernel
theorem dX0_auction_123 : decode cX0_auction 123 = .ok (.aload_n 0, 1) := by decide +kernel
theorem dX0_auction_124 : decode cX0_auction 124 = .ok (.iload_n 1, 1) := by decide +kernel
theorem dX0_auction_125 : decode cX0_auction 125 = .ok (.invokevirtual 84, 3) := by decide +kernel
theorem dX0_auction_128 : decode cX0_auction 128 = .ok (.iconst 4, 1) := by decide +kernel
theorem dX0_auction_129 : decode cX0_auction 129 = .ok (.idiv, 1) := by decide +kernel
theorem dX0_auction_130 : decode cX0_auction 130 = .ok (.isub, 1) := by decide +kernel
theorem dX0_auction_131 : decode cX0_auction 131 = .ok (.iconst 1, 1) := by decide +kernel
theorem dX0_auction_132 : decode cX0_auction 132 = .ok (.isub, 1) := by decide +kernel
theorem dX0_auction_133 : decode cX0_auction 133 = .ok (.invokestatic 75, 3) := by decide +kernel
theorem dX0_auction_136 : decode cX0_auction 136 = .ok (.invokestatic 64, 3) := by decide +kernel
theorem dX0_auction_139 : decode cX0_auction 139 = .ok (.iload 4, 2) := by decide +kernel
theorem dX0_auction_141 : decode cX0_auction 141 = .ok (.ireturn, 1) := by decide +kernel
theorem dX0_hasTimeFor_0 : decode cX0_hasTimeFor 0 = .ok (.iload_n 1, 1) := by decide +kernel
theorem dX0_hasTimeFor_1 : decode cX0_hasTimeFor 1 = .ok (.iconst 1, 1) := by decide +kernel
theorem dX0_hasTimeFor_2 : decode cX0_hasTimeFor 2 = .ok (.if_icmp .lt 25, 3) := by decide +kernel
theorem dX0_hasTimeFor_5 : decode cX0_hasTimeFor 5 = .ok (.iload_n 1, 1) := by decide +kernel
theorem dX0_hasTimeFor_6 : decode cX0_hasTimeFor 6 = .ok (.bipush 60, 2) := by decide +kernel
theorem dX0_hasTimeFor_8 : decode cX0_hasTimeFor 8 = .ok (.if_icmp .gt 19, 3) := by decide +kernel
theorem dX0_hasTimeFor_11 : decode cX0_hasTimeFor 11 = .ok (.aload_n 0, 1) := by decide +kernel
theorem dX0_hasTimeFor_12 : decode cX0_hasTimeFor 12 = .ok (.getfield 49, 3) := by decide +kernel
theorem dX0_hasTimeFor_15 : decode cX0_hasTimeFor 15 = .ok (.iload_n 1, 1) := by decide +kernel
theorem dX0_hasTimeFor_16 : decode cX0_hasTimeFor 16 = .ok (.iadd, 1) := by decide +kernel
theorem dX0_hasTimeFor_17 : decode cX0_hasTimeFor 17 = .ok (.sipush 999, 3) := by decide +kernel
theorem dX0_hasTimeFor_20 : decode cX0_hasTimeFor 20 = .ok (.if_icmp .gt 7, 3) := by decide +kernel
theorem dX0_hasTimeFor_23 : decode cX0_hasTimeFor 23 = .ok (.iconst 1, 1) := by decide +kernel
theorem dX0_hasTimeFor_24 : decode cX0_hasTimeFor 24 = .ok (.goto 4, 3) := by decide +kernel
theorem dX0_hasTimeFor_27 : decode cX0_hasTimeFor 27 = .ok (.iconst 0, 1) := by decide +kernel
theorem dX0_hasTimeFor_28 : decode cX0_hasTimeFor 28 = .ok (.ireturn, 1) := by decide +kernel
set_option maxRecDepth 20000 in
theorem ggX0_goOn_X1_at : GoodIn wsX0_goOn wsX1_at := goodIn_r _ [6] (by decide +kernel) (by decide +kernel)
set_option maxRecDepth 20000 in
theorem gX0_goOn_X1_at_n60 : GoodIn wsX0_goOn (wsX1_at) := ggX0_goOn_X1_at
set_option maxRecDepth 20000 in
theorem ggX0_goOn_X0_inPile : GoodIn wsX0_goOn wsX0_inPile := goodIn_r _ [11, 12, 13, 14, 15, 10, 16, 2, 4, 5, 6, 59, 60, 61, 62, 63, 64, 65, 66, 67, 68, 69, 70, 71] (by decide +kernel) (by decide +kernel)
set_option maxRecDepth 20000 in
theorem gX0_goOn_X0_inPile : GoodIn wsX0_goOn (wsV RX0 94 RX0 yX0_inPile wsX0_inPile) := goodIn_app (goodIn_of _ (by decide +kernel)) ggX0_goOn_X0_inPile
set_option maxRecDepth 20000 in
theorem ggX0_goOn_X0_auction : GoodIn wsX0_goOn wsX0_auction := goodIn_r _ [20, 21, 12, 22, 23, 24, 25, 26, 27, 28, 29, 30, 31, 32, 33, 10, 34, 35, 36, 37, 38, 39, 40, 41, 42, 4, 5, 6, 43, 44, 45, 46, 47, 48, 49, 50, 51, 52, 53, 54, 59, 60, 61, 62, 63, 64, 65, 66, 67, 68, 69, 70, 71] (by decide +kernel) (by decide +kernel)
set_option maxRecDepth 20000 in
theorem gX0_goOn_X0_auction : GoodIn wsX0_goOn (wsV RX0 97 RX0 yX0_auction wsX0_auction) := goodIn_app (goodIn_of _ (by decide +kernel)) ggX0_goOn_X0_auction
set_option maxRecDepth 20000 in
theorem ggX0_goOn_X0_closeMonth : GoodIn wsX0_goOn wsX0_closeMonth := goodIn_r _ [58, 2, 41, 24, 25, 26, 27, 35, 22, 7, 8, 9, 10, 11, 12, 13, 14, 15, 16, 4, 5, 6, 53, 54, 59, 60, 61, 62, 63, 64, 65, 66, 67, 68, 69, 70, 71] (by decide +kernel) (by decide +kernel)
set_option maxRecDepth 20000 in
theorem gX0_goOn_X0_closeMonth : GoodIn wsX0_goOn (wsV RX0 100 RX0 yX0_closeMonth wsX0_closeMonth) := goodIn_app (goodIn_of _ (by decide +kernel)) ggX0_goOn_X0_closeMonth
theorem dX0_goOn_0 : decode cX0_goOn 0 = .ok (.iconst 0, 1) := by decide +kernel
theorem dX0_goOn_1 : decode cX0_goOn 1 = .ok (.istore_n 3, 1) := by decide +kernel
theorem dX0_goOn_2 : decode cX0_goOn 2 = .ok (.iconst 0, 1) := by decide +kernel
theorem dX0_goOn_3 : decode cX0_goOn 3 = .ok (.istore 4, 2) := by decide +kernel
theorem dX0_goOn_5 : decode cX0_goOn 5 = .ok (.iload 4, 2) := by decide +kernel
theorem dX0_goOn_7 : decode cX0_goOn 7 = .ok (.iload_n 1, 1) := by decide +kernel
theorem dX0_goOn_8 : decode cX0_goOn 8 = .ok (.if_icmp .ge 74, 3) := by decide +kernel
theorem dX0_goOn_11 : decode cX0_goOn 11 = .ok (.aload_n 0, 1) := by decide +kernel
theorem dX0_goOn_12 : decode cX0_goOn 12 = .ok (.dup, 1) := by decide +kernel
theorem dX0_goOn_13 : decode cX0_goOn 13 = .ok (.getfield 49, 3) := by decide +kernel
theorem dX0_goOn_16 : decode cX0_goOn 16 = .ok (.iconst 1, 1) := by decide +kernel
theorem dX0_goOn_17 : decode cX0_goOn 17 = .ok (.iadd, 1) := by decide +kernel
theorem dX0_goOn_18 : decode cX0_goOn 18 = .ok (.putfield 49, 3) := by decide +kernel
theorem dX0_goOn_21 : decode cX0_goOn 21 = .ok (.iconst 0, 1) := by decide +kernel
theorem dX0_goOn_22 : decode cX0_goOn 22 = .ok (.istore 5, 2) := by decide +kernel
theorem dX0_goOn_24 : decode cX0_goOn 24 = .ok (.iload_n 2, 1) := by decide +kernel
theorem dX0_goOn_25 : decode cX0_goOn 25 = .ok (.ifCond .eq 47, 3) := by decide +kernel
theorem dX0_goOn_28 : decode cX0_goOn 28 = .ok (.iload 5, 2) := by decide +kernel
theorem dX0_goOn_30 : decode cX0_goOn 30 = .ok (.aload_n 0, 1) := by decide +kernel
theorem dX0_goOn_31 : decode cX0_goOn 31 = .ok (.getfield 42, 3) := by decide +kernel
theorem dX0_goOn_34 : decode cX0_goOn 34 = .ok (.if_icmp .ge 38, 3) := by decide +kernel
theorem dX0_goOn_37 : decode cX0_goOn 37 = .ok (.aload_n 0, 1) := by decide +kernel
theorem dX0_goOn_38 : decode cX0_goOn 38 = .ok (.getfield 27, 3) := by decide +kernel
theorem dX0_goOn_41 : decode cX0_goOn 41 = .ok (.iload 5, 2) := by decide +kernel
theorem dX0_goOn_43 : decode cX0_goOn 43 = .ok (.invokestatic 60, 3) := by decide +kernel
theorem dX0_goOn_46 : decode cX0_goOn 46 = .ok (.istore 6, 2) := by decide +kernel
theorem dX0_goOn_48 : decode cX0_goOn 48 = .ok (.aload_n 0, 1) := by decide +kernel
theorem dX0_goOn_49 : decode cX0_goOn 49 = .ok (.iload 6, 2) := by decide +kernel
theorem dX0_goOn_51 : decode cX0_goOn 51 = .ok (.invokevirtual 94, 3) := by decide +kernel
theorem dX0_goOn_54 : decode cX0_goOn 54 = .ok (.ifCond .eq 12, 3) := by decide +kernel
theorem dX0_goOn_57 : decode cX0_goOn 57 = .ok (.iload_n 3, 1) := by decide +kernel
theorem dX0_goOn_58 : decode cX0_goOn 58 = .ok (.aload_n 0, 1) := by decide +kernel
theorem dX0_goOn_59 : decode cX0_goOn 59 = .ok (.iload 6, 2) := by decide +kernel
theorem dX0_goOn_61 : decode cX0_goOn 61 = .ok (.invokevirtual 97, 3) := by decide +kernel
theorem dX0_goOn_64 : decode cX0_goOn 64 = .ok (.iadd, 1) := by decide +kernel
theorem dX0_goOn_65 : decode cX0_goOn 65 = .ok (.istore_n 3, 1) := by decide +kernel
theorem dX0_goOn_66 : decode cX0_goOn 66 = .ok (.iinc 5 1, 3) := by decide +kernel
theorem dX0_goOn_69 : decode cX0_goOn 69 = .ok (.goto (-45), 3) := by decide +kernel
theorem dX0_goOn_72 : decode cX0_goOn 72 = .ok (.aload_n 0, 1) := by decide +kernel
theorem dX0_goOn_73 : decode cX0_goOn 73 = .ok (.invokevirtual 100, 3) := by decide +kernel
theorem dX0_goOn_76 : decode cX0_goOn 76 = .ok (.iinc 4 1, 3) := by decide +kernel
theorem dX0_goOn_79 : decode cX0_goOn 79 = .ok (.goto (-74), 3) := by decide +kernel
theorem dX0_goOn_82 : decode cX0_goOn 82 = .ok (.iload_n 3, 1) := by decide +kernel
theorem dX0_goOn_83 : decode cX0_goOn 83 = .ok (.ireturn, 1) := by decide +kernel
set_option maxRecDepth 20000 in
theorem ggX0_closeMonth_X0_inPile : GoodIn wsX0_closeMonth wsX0_inPile := goodIn_r _ [13, 14, 15, 16, 17, 12, 18, 1, 19, 20, 21, 24, 25, 26, 27, 28, 29, 30, 31, 32, 33, 34, 35, 36] (by decide +kernel) (by decide +kernel)
set_option maxRecDepth 20000 in
theorem gX0_closeMonth_X0_inPile : GoodIn wsX0_closeMonth (wsV RX0 94 RX0 yX0_inPile wsX0_inPile) := goodIn_app (goodIn_of _ (by decide +kernel)) ggX0_closeMonth_X0_inPile
set_option maxRecDepth 20000 in
theorem ggX0_closeMonth_X1_at : GoodIn wsX0_closeMonth wsX1_at := goodIn_r _ [21] (by decide +kernel) (by decide +kernel)
set_option maxRecDepth 20000 in
theorem gX0_closeMonth_X1_at_n60 : GoodIn wsX0_closeMonth (wsX1_at) := ggX0_closeMonth_X1_at
set_option maxRecDepth 20000 in
theorem ggX0_closeMonth_X1_put : GoodIn wsX0_closeMonth wsX1_put := goodIn_r _ [23] (by decide +kernel) (by decide +kernel)
set_option maxRecDepth 20000 in
theorem gX0_closeMonth_X1_put_n64 : GoodIn wsX0_closeMonth (wsX1_put) := ggX0_closeMonth_X1_put
theorem dX0_closeMonth_0 : decode cX0_closeMonth 0 = .ok (.iconst 0, 1) := by decide +kernel
theorem dX0_closeMonth_1 : decode cX0_closeMonth 1 = .ok (.istore_n 1, 1) := by decide +kernel
theorem dX0_closeMonth_2 : decode cX0_closeMonth 2 = .ok (.iload_n 1, 1) := by decide +kernel
theorem dX0_closeMonth_3 : decode cX0_closeMonth 3 = .ok (.aload_n 0, 1) := by decide +kernel
theorem dX0_closeMonth_4 : decode cX0_closeMonth 4 = .ok (.getfield 42, 3) := by decide +kernel
theorem dX0_closeMonth_7 : decode cX0_closeMonth 7 = .ok (.if_icmp .ge 40, 3) := by decide +kernel
theorem dX0_closeMonth_10 : decode cX0_closeMonth 10 = .ok (.aload_n 0, 1) := by decide +kernel
theorem dX0_closeMonth_11 : decode cX0_closeMonth 11 = .ok (.iload_n 1, 1) := by decide +kernel
theorem dX0_closeMonth_12 : decode cX0_closeMonth 12 = .ok (.invokevirtual 94, 3) := by decide +kernel
theorem dX0_closeMonth_15 : decode cX0_closeMonth 15 = .ok (.ifCond .eq 26, 3) := by decide +kernel
theorem dX0_closeMonth_18 : decode cX0_closeMonth 18 = .ok (.aload_n 0, 1) := by decide +kernel
theorem dX0_closeMonth_19 : decode cX0_closeMonth 19 = .ok (.getfield 21, 3) := by decide +kernel
theorem dX0_closeMonth_22 : decode cX0_closeMonth 22 = .ok (.iload_n 1, 1) := by decide +kernel
theorem dX0_closeMonth_23 : decode cX0_closeMonth 23 = .ok (.bipush 99, 2) := by decide +kernel
theorem dX0_closeMonth_25 : decode cX0_closeMonth 25 = .ok (.aload_n 0, 1) := by decide +kernel
theorem dX0_closeMonth_26 : decode cX0_closeMonth 26 = .ok (.getfield 21, 3) := by decide +kernel
theorem dX0_closeMonth_29 : decode cX0_closeMonth 29 = .ok (.iload_n 1, 1) := by decide +kernel
theorem dX0_closeMonth_30 : decode cX0_closeMonth 30 = .ok (.invokestatic 60, 3) := by decide +kernel
theorem dX0_closeMonth_33 : decode cX0_closeMonth 33 = .ok (.iconst 1, 1) := by decide +kernel
theorem dX0_closeMonth_34 : decode cX0_closeMonth 34 = .ok (.iadd, 1) := by decide +kernel
theorem dX0_closeMonth_35 : decode cX0_closeMonth 35 = .ok (.invokestatic 81, 3) := by decide +kernel
theorem dX0_closeMonth_38 : decode cX0_closeMonth 38 = .ok (.invokestatic 64, 3) := by decide +kernel
theorem dX0_closeMonth_41 : decode cX0_closeMonth 41 = .ok (.iinc 1 1, 3) := by decide +kernel
theorem dX0_closeMonth_44 : decode cX0_closeMonth 44 = .ok (.goto (-42), 3) := by decide +kernel
theorem dX0_closeMonth_47 : decode cX0_closeMonth 47 = .ok (.iconst 0, 1) := by decide +kernel
theorem dX0_closeMonth_48 : decode cX0_closeMonth 48 = .ok (.istore_n 1, 1) := by decide +kernel
theorem dX0_closeMonth_49 : decode cX0_closeMonth 49 = .ok (.iload_n 1, 1) := by decide +kernel
theorem dX0_closeMonth_50 : decode cX0_closeMonth 50 = .ok (.aload_n 0, 1) := by decide +kernel
theorem dX0_closeMonth_51 : decode cX0_closeMonth 51 = .ok (.getfield 46, 3) := by decide +kernel
theorem dX0_closeMonth_54 : decode cX0_closeMonth 54 = .ok (.if_icmp .ge 33, 3) := by decide +kernel
theorem dX0_closeMonth_57 : decode cX0_closeMonth 57 = .ok (.aload_n 0, 1) := by decide +kernel
theorem dX0_closeMonth_58 : decode cX0_closeMonth 58 = .ok (.getfield 36, 3) := by decide +kernel
theorem dX0_closeMonth_61 : decode cX0_closeMonth 61 = .ok (.iload_n 1, 1) := by decide +kernel
theorem dX0_closeMonth_62 : decode cX0_closeMonth 62 = .ok (.sipush 999, 3) := by decide +kernel
theorem dX0_closeMonth_65 : decode cX0_closeMonth 65 = .ok (.aload_n 0, 1) := by decide +kernel
theorem dX0_closeMonth_66 : decode cX0_closeMonth 66 = .ok (.getfield 36, 3) := by decide +kernel
theorem dX0_closeMonth_69 : decode cX0_closeMonth 69 = .ok (.iload_n 1, 1) := by decide +kernel
theorem dX0_closeMonth_70 : decode cX0_closeMonth 70 = .ok (.invokestatic 60, 3) := by decide +kernel
theorem dX0_closeMonth_73 : decode cX0_closeMonth 73 = .ok (.iconst 5, 1) := by decide +kernel
theorem dX0_closeMonth_74 : decode cX0_closeMonth 74 = .ok (.iadd, 1) := by decide +kernel
theorem dX0_closeMonth_75 : decode cX0_closeMonth 75 = .ok (.invokestatic 81, 3) := by decide +kernel
theorem dX0_closeMonth_78 : decode cX0_closeMonth 78 = .ok (.invokestatic 64, 3) := by decide +kernel
theorem dX0_closeMonth_81 : decode cX0_closeMonth 81 = .ok (.iinc 1 1, 3) := by decide +kernel
theorem dX0_closeMonth_84 : decode cX0_closeMonth 84 = .ok (.goto (-35), 3) := by decide +kernel
theorem dX0_closeMonth_87 : decode cX0_closeMonth 87 = .ok (.return_, 1) := by decide +kernel
set_option maxRecDepth 20000 in
theorem ggX0_gain_X0_deal : GoodIn wsX0_gain wsX0_deal := goodIn_r _ [6, 7, 8, 9, 10, 11, 12, 13, 14, 5, 15, 16, 17, 18, 19, 20, 21, 22, 23, 24, 25, 26, 27, 28, 1, 29, 30, 31, 32, 33, 34, 35, 36, 37, 38, 39, 40, 41, 42, 43, 44, 45, 46, 47, 48, 49] (by decide +kernel) (by decide +kernel)
set_option maxRecDepth 20000 in
theorem gX0_gain_X0_deal : GoodIn wsX0_gain (wsV RX0 91 RX0 yX0_deal wsX0_deal) := goodIn_app (goodIn_of _ (by decide +kernel)) ggX0_gain_X0_deal
set_option maxRecDepth 20000 in
theorem ggX0_gain_X0_worth : GoodIn wsX0_gain wsX0_worth := goodIn_r _ [15, 16, 17, 18, 19, 10, 20, 21, 22, 23, 24, 37, 38, 39, 40, 41, 42, 43, 44, 45, 46, 47, 48, 49] (by decide +kernel) (by decide +kernel)
set_option maxRecDepth 20000 in
theorem gX0_gain_X0_worth : GoodIn wsX0_gain (wsV RX0 84 RX0 yX0_worth wsX0_worth) := goodIn_app (goodIn_of _ (by decide +kernel)) ggX0_gain_X0_worth
set_option maxRecDepth 20000 in
theorem ggX0_gain_X1_at : GoodIn wsX0_gain wsX1_at := goodIn_r _ [24] (by decide +kernel) (by decide +kernel)
set_option maxRecDepth 20000 in
theorem gX0_gain_X1_at_n60 : GoodIn wsX0_gain (wsX1_at) := ggX0_gain_X1_at
theorem dX0_gain_0 : decode cX0_gain 0 = .ok (.aload_n 0, 1) := by decide +kernel
theorem dX0_gain_1 : decode cX0_gain 1 = .ok (.iload_n 2, 1) := by decide +kernel
theorem dX0_gain_2 : decode cX0_gain 2 = .ok (.iload_n 3, 1) := by decide +kernel
theorem dX0_gain_3 : decode cX0_gain 3 = .ok (.invokevirtual 91, 3) := by decide +kernel
theorem dX0_gain_6 : decode cX0_gain 6 = .ok (.istore 4, 2) := by decide +kernel
theorem dX0_gain_8 : decode cX0_gain 8 = .ok (.iload 4, 2) := by decide +kernel
theorem dX0_gain_10 : decode cX0_gain 10 = .ok (.ifCond .ge 5, 3) := by decide +kernel
theorem dX0_gain_13 : decode cX0_gain 13 = .ok (.iconst 0, 1) := by decide +kernel
theorem dX0_gain_14 : decode cX0_gain 14 = .ok (.ireturn, 1) := by decide +kernel
theorem dX0_gain_15 : decode cX0_gain 15 = .ok (.iload 4, 2) := by decide +kernel
theorem dX0_gain_17 : decode cX0_gain 17 = .ok (.sipush 1000, 3) := by decide +kernel
theorem dX0_gain_20 : decode cX0_gain 20 = .ok (.idiv, 1) := by decide +kernel
theorem dX0_gain_21 : decode cX0_gain 21 = .ok (.iload_n 1, 1) := by decide +kernel
theorem dX0_gain_22 : decode cX0_gain 22 = .ok (.if_icmp .ne 16, 3) := by decide +kernel
theorem dX0_gain_25 : decode cX0_gain 25 = .ok (.aload_n 0, 1) := by decide +kernel
theorem dX0_gain_26 : decode cX0_gain 26 = .ok (.iload_n 2, 1) := by decide +kernel
theorem dX0_gain_27 : decode cX0_gain 27 = .ok (.invokevirtual 84, 3) := by decide +kernel
theorem dX0_gain_30 : decode cX0_gain 30 = .ok (.iload 4, 2) := by decide +kernel
theorem dX0_gain_32 : decode cX0_gain 32 = .ok (.sipush 1000, 3) := by decide +kernel
theorem dX0_gain_35 : decode cX0_gain 35 = .ok (.irem, 1) := by decide +kernel
theorem dX0_gain_36 : decode cX0_gain 36 = .ok (.isub, 1) := by decide +kernel
theorem dX0_gain_37 : decode cX0_gain 37 = .ok (.ireturn, 1) := by decide +kernel
theorem dX0_gain_38 : decode cX0_gain 38 = .ok (.aload_n 0, 1) := by decide +kernel
theorem dX0_gain_39 : decode cX0_gain 39 = .ok (.getfield 18, 3) := by decide +kernel
theorem dX0_gain_42 : decode cX0_gain 42 = .ok (.iload_n 2, 1) := by decide +kernel
theorem dX0_gain_43 : decode cX0_gain 43 = .ok (.invokestatic 60, 3) := by decide +kernel
theorem dX0_gain_46 : decode cX0_gain 46 = .ok (.iload_n 1, 1) := by decide +kernel
theorem dX0_gain_47 : decode cX0_gain 47 = .ok (.if_icmp .ne 8, 3) := by decide +kernel
theorem dX0_gain_50 : decode cX0_gain 50 = .ok (.bipush (-3), 2) := by decide +kernel
theorem dX0_gain_52 : decode cX0_gain 52 = .ok (.goto 4, 3) := by decide +kernel
theorem dX0_gain_55 : decode cX0_gain 55 = .ok (.iconst 0, 1) := by decide +kernel
theorem dX0_gain_56 : decode cX0_gain 56 = .ok (.ireturn, 1) := by decide +kernel
set_option maxRecDepth 20000 in
theorem ggX0_pourPurse_X1_at : GoodIn wsX0_pourPurse wsX1_at := goodIn_r _ [8] (by decide +kernel) (by decide +kernel)
set_option maxRecDepth 20000 in
theorem gX0_pourPurse_X1_at_n60 : GoodIn wsX0_pourPurse (wsX1_at) := ggX0_pourPurse_X1_at
set_option maxRecDepth 20000 in
theorem ggX0_pourPurse_X1_put : GoodIn wsX0_pourPurse wsX1_put := goodIn_r _ [10] (by decide +kernel) (by decide +kernel)
set_option maxRecDepth 20000 in
theorem gX0_pourPurse_X1_put_n64 : GoodIn wsX0_pourPurse (wsX1_put) := ggX0_pourPurse_X1_put
theorem dX0_pourPurse_0 : decode cX0_pourPurse 0 = .ok (.aload_n 0, 1) := by decide +kernel
theorem dX0_pourPurse_1 : decode cX0_pourPurse 1 = .ok (.getfield 36, 3) := by decide +kernel
theorem dX0_pourPurse_4 : decode cX0_pourPurse 4 = .ok (.iload_n 2, 1) := by decide +kernel
theorem dX0_pourPurse_5 : decode cX0_pourPurse 5 = .ok (.sipush 999, 3) := by decide +kernel
theorem dX0_pourPurse_8 : decode cX0_pourPurse 8 = .ok (.aload_n 0, 1) := by decide +kernel
theorem dX0_pourPurse_9 : decode cX0_pourPurse 9 = .ok (.getfield 36, 3) := by decide +kernel
theorem dX0_pourPurse_12 : decode cX0_pourPurse 12 = .ok (.iload_n 2, 1) := by decide +kernel
theorem dX0_pourPurse_13 : decode cX0_pourPurse 13 = .ok (.invokestatic 60, 3) := by decide +kernel
theorem dX0_pourPurse_16 : decode cX0_pourPurse 16 = .ok (.aload_n 0, 1) := by decide +kernel
theorem dX0_pourPurse_17 : decode cX0_pourPurse 17 = .ok (.getfield 36, 3) := by decide +kernel
theorem dX0_pourPurse_20 : decode cX0_pourPurse 20 = .ok (.iload_n 1, 1) := by decide +kernel
theorem dX0_pourPurse_21 : decode cX0_pourPurse 21 = .ok (.invokestatic 60, 3) := by decide +kernel
theorem dX0_pourPurse_24 : decode cX0_pourPurse 24 = .ok (.iadd, 1) := by decide +kernel
theorem dX0_pourPurse_25 : decode cX0_pourPurse 25 = .ok (.invokestatic 81, 3) := by decide +kernel
theorem dX0_pourPurse_28 : decode cX0_pourPurse 28 = .ok (.invokestatic 64, 3) := by decide +kernel
theorem dX0_pourPurse_31 : decode cX0_pourPurse 31 = .ok (.aload_n 0, 1) := by decide +kernel
theorem dX0_pourPurse_32 : decode cX0_pourPurse 32 = .ok (.getfield 36, 3) := by decide +kernel
theorem dX0_pourPurse_35 : decode cX0_pourPurse 35 = .ok (.iload_n 1, 1) := by decide +kernel
theorem dX0_pourPurse_36 : decode cX0_pourPurse 36 = .ok (.iconst 0, 1) := by decide +kernel
theorem dX0_pourPurse_37 : decode cX0_pourPurse 37 = .ok (.invokestatic 64, 3) := by decide +kernel
theorem dX0_pourPurse_40 : decode cX0_pourPurse 40 = .ok (.return_, 1) := by decide +kernel
set_option maxRecDepth 20000 in
theorem ggX0_drawPurses_X1_put : GoodIn wsX0_drawPurses wsX1_put := goodIn_r _ [8] (by decide +kernel) (by decide +kernel)
set_option maxRecDepth 20000 in
theorem gX0_drawPurses_X1_put_n64 : GoodIn wsX0_drawPurses (wsX1_put) := ggX0_drawPurses_X1_put
theorem dX0_drawPurses_0 : decode cX0_drawPurses 0 = .ok (.iload_n 1, 1) := by decide +kernel
theorem dX0_drawPurses_1 : decode cX0_drawPurses 1 = .ok (.istore_n 2, 1) := by decide +kernel
theorem dX0_drawPurses_2 : decode cX0_drawPurses 2 = .ok (.iconst 0, 1) := by decide +kernel
theorem dX0_drawPurses_3 : decode cX0_drawPurses 3 = .ok (.istore_n 3, 1) := by decide +kernel
theorem dX0_drawPurses_4 : decode cX0_drawPurses 4 = .ok (.iload_n 3, 1) := by decide +kernel
theorem dX0_drawPurses_5 : decode cX0_drawPurses 5 = .ok (.aload_n 0, 1) := by decide +kernel
theorem dX0_drawPurses_6 : decode cX0_drawPurses 6 = .ok (.getfield 46, 3) := by decide +kernel
theorem dX0_drawPurses_9 : decode cX0_drawPurses 9 = .ok (.if_icmp .ge 36, 3) := by decide +kernel
theorem dX0_drawPurses_12 : decode cX0_drawPurses 12 = .ok (.iload_n 2, 1) := by decide +kernel
theorem dX0_drawPurses_13 : decode cX0_drawPurses 13 = .ok (.ldc 103, 2) := by decide +kernel
theorem dX0_drawPurses_15 : decode cX0_drawPurses 15 = .ok (.imul, 1) := by decide +kernel
theorem dX0_drawPurses_16 : decode cX0_drawPurses 16 = .ok (.ldc 104, 2) := by decide +kernel
theorem dX0_drawPurses_18 : decode cX0_drawPurses 18 = .ok (.iadd, 1) := by decide +kernel
theorem dX0_drawPurses_19 : decode cX0_drawPurses 19 = .ok (.istore_n 2, 1) := by decide +kernel
theorem dX0_drawPurses_20 : decode cX0_drawPurses 20 = .ok (.aload_n 0, 1) := by decide +kernel
theorem dX0_drawPurses_21 : decode cX0_drawPurses 21 = .ok (.getfield 36, 3) := by decide +kernel
theorem dX0_drawPurses_24 : decode cX0_drawPurses 24 = .ok (.iload_n 3, 1) := by decide +kernel
theorem dX0_drawPurses_25 : decode cX0_drawPurses 25 = .ok (.iload_n 2, 1) := by decide +kernel
theorem dX0_drawPurses_26 : decode cX0_drawPurses 26 = .ok (.ldc 105, 2) := by decide +kernel
theorem dX0_drawPurses_28 : decode cX0_drawPurses 28 = .ok (.iand, 1) := by decide +kernel
theorem dX0_drawPurses_29 : decode cX0_drawPurses 29 = .ok (.sipush 256, 3) := by decide +kernel
theorem dX0_drawPurses_32 : decode cX0_drawPurses 32 = .ok (.idiv, 1) := by decide +kernel
theorem dX0_drawPurses_33 : decode cX0_drawPurses 33 = .ok (.bipush 100, 2) := by decide +kernel
theorem dX0_drawPurses_35 : decode cX0_drawPurses 35 = .ok (.irem, 1) := by decide +kernel
theorem dX0_drawPurses_36 : decode cX0_drawPurses 36 = .ok (.invokestatic 64, 3) := by decide +kernel
theorem dX0_drawPurses_39 : decode cX0_drawPurses 39 = .ok (.iinc 3 1, 3) := by decide +kernel
theorem dX0_drawPurses_42 : decode cX0_drawPurses 42 = .ok (.goto (-38), 3) := by decide +kernel
theorem dX0_drawPurses_45 : decode cX0_drawPurses 45 = .ok (.iload_n 2, 1) := by decide +kernel
theorem dX0_drawPurses_46 : decode cX0_drawPurses 46 = .ok (.ireturn, 1) := by decide +kernel
set_option maxRecDepth 20000 in
theorem ggX0_allToPile_X1_put : GoodIn wsX0_allToPile wsX1_put := goodIn_r _ [5] (by decide +kernel) (by decide +kernel)
set_option maxRecDepth 20000 in
theorem gX0_allToPile_X1_put_n64 : GoodIn wsX0_allToPile (wsX1_put) := ggX0_allToPile_X1_put
theorem dX0_allToPile_0 : decode cX0_allToPile 0 = .ok (.iconst 0, 1) := by decide +kernel
theorem dX0_allToPile_1 : decode cX0_allToPile 1 = .ok (.istore_n 1, 1) := by decide +kernel
theorem dX0_allToPile_2 : decode cX0_allToPile 2 = .ok (.iload_n 1, 1) := by decide +kernel
theorem dX0_allToPile_3 : decode cX0_allToPile 3 = .ok (.aload_n 0, 1) := by decide +kernel
theorem dX0_allToPile_4 : decode cX0_allToPile 4 = .ok (.getfield 42, 3) := by decide +kernel
theorem dX0_allToPile_7 : decode cX0_allToPile 7 = .ok (.if_icmp .ge 19, 3) := by decide +kernel
theorem dX0_allToPile_10 : decode cX0_allToPile 10 = .ok (.aload_n 0, 1) := by decide +kernel
theorem dX0_allToPile_11 : decode cX0_allToPile 11 = .ok (.getfield 24, 3) := by decide +kernel
theorem dX0_allToPile_14 : decode cX0_allToPile 14 = .ok (.iload_n 1, 1) := by decide +kernel
theorem dX0_allToPile_15 : decode cX0_allToPile 15 = .ok (.bipush (-9), 2) := by decide +kernel
theorem dX0_allToPile_17 : decode cX0_allToPile 17 = .ok (.invokestatic 64, 3) := by decide +kernel
theorem dX0_allToPile_20 : decode cX0_allToPile 20 = .ok (.iinc 1 1, 3) := by decide +kernel
theorem dX0_allToPile_23 : decode cX0_allToPile 23 = .ok (.goto (-21), 3) := by decide +kernel
theorem dX0_allToPile_26 : decode cX0_allToPile 26 = .ok (.return_, 1) := by decide +kernel
theorem dX0_allCardBits_0 : decode cX0_allCardBits 0 = .ok (.iconst 1, 1) := by decide +kernel
theorem dX0_allCardBits_1 : decode cX0_allCardBits 1 = .ok (.aload_n 0, 1) := by decide +kernel
theorem dX0_allCardBits_2 : decode cX0_allCardBits 2 = .ok (.getfield 42, 3) := by decide +kernel
theorem dX0_allCardBits_5 : decode cX0_allCardBits 5 = .ok (.ishl, 1) := by decide +kernel
theorem dX0_allCardBits_6 : decode cX0_allCardBits 6 = .ok (.iconst 1, 1) := by decide +kernel
theorem dX0_allCardBits_7 : decode cX0_allCardBits 7 = .ok (.isub, 1) := by decide +kernel
theorem dX0_allCardBits_8 : decode cX0_allCardBits 8 = .ok (.ireturn, 1) := by decide +kernel
set_option maxRecDepth 20000 in
theorem ggX0_pileBits_X0_inPile : GoodIn wsX0_pileBits wsX0_inPile := goodIn_r _ [6, 7, 8, 9, 10, 5, 11, 1, 12, 13, 14, 15, 16, 17, 18, 19, 20, 21, 22, 23, 24, 25, 26, 27] (by decide +kernel) (by decide +kernel)
set_option maxRecDepth 20000 in
theorem gX0_pileBits_X0_inPile : GoodIn wsX0_pileBits (wsV RX0 94 RX0 yX0_inPile wsX0_inPile) := goodIn_app (goodIn_of _ (by decide +kernel)) ggX0_pileBits_X0_inPile
theorem dX0_pileBits_0 : decode cX0_pileBits 0 = .ok (.iconst 0, 1) := by decide +kernel
theorem dX0_pileBits_1 : decode cX0_pileBits 1 = .ok (.istore_n 1, 1) := by decide +kernel
theorem dX0_pileBits_2 : decode cX0_pileBits 2 = .ok (.iconst 0, 1) := by decide +kernel
theorem dX0_pileBits_3 : decode cX0_pileBits 3 = .ok (.istore_n 2, 1) := by decide +kernel
theorem dX0_pileBits_4 : decode cX0_pileBits 4 = .ok (.iload_n 2, 1) := by decide +kernel
theorem dX0_pileBits_5 : decode cX0_pileBits 5 = .ok (.aload_n 0, 1) := by decide +kernel
theorem dX0_pileBits_6 : decode cX0_pileBits 6 = .ok (.getfield 42, 3) := by decide +kernel
theorem dX0_pileBits_9 : decode cX0_pileBits 9 = .ok (.if_icmp .ge 23, 3) := by decide +kernel
theorem dX0_pileBits_12 : decode cX0_pileBits 12 = .ok (.aload_n 0, 1) := by decide +kernel
theorem dX0_pileBits_13 : decode cX0_pileBits 13 = .ok (.iload_n 2, 1) := by decide +kernel
theorem dX0_pileBits_14 : decode cX0_pileBits 14 = .ok (.invokevirtual 94, 3) := by decide +kernel
theorem dX0_pileBits_17 : decode cX0_pileBits 17 = .ok (.ifCond .eq 9, 3) := by decide +kernel
theorem dX0_pileBits_20 : decode cX0_pileBits 20 = .ok (.iload_n 1, 1) := by decide +kernel
theorem dX0_pileBits_21 : decode cX0_pileBits 21 = .ok (.iconst 1, 1) := by decide +kernel
theorem dX0_pileBits_22 : decode cX0_pileBits 22 = .ok (.iload_n 2, 1) := by decide +kernel
theorem dX0_pileBits_23 : decode cX0_pileBits 23 = .ok (.ishl, 1) := by decide +kernel
theorem dX0_pileBits_24 : decode cX0_pileBits 24 = .ok (.ior, 1) := by decide +kernel
theorem dX0_pileBits_25 : decode cX0_pileBits 25 = .ok (.istore_n 1, 1) := by decide +kernel
theorem dX0_pileBits_26 : decode cX0_pileBits 26 = .ok (.iinc 2 1, 3) := by decide +kernel
theorem dX0_pileBits_29 : decode cX0_pileBits 29 = .ok (.goto (-25), 3) := by decide +kernel
theorem dX0_pileBits_32 : decode cX0_pileBits 32 = .ok (.iload_n 1, 1) := by decide +kernel
theorem dX0_pileBits_33 : decode cX0_pileBits 33 = .ok (.ireturn, 1) := by decide +kernel
set_option maxRecDepth 20000 in
theorem ggX0_heldBits_X1_at : GoodIn wsX0_heldBits wsX1_at := goodIn_r _ [5] (by decide +kernel) (by decide +kernel)
set_option maxRecDepth 20000 in
theorem gX0_heldBits_X1_at_n60 : GoodIn wsX0_heldBits (wsX1_at) := ggX0_heldBits_X1_at
theorem dX0_heldBits_0 : decode cX0_heldBits 0 = .ok (.iconst 0, 1) := by decide +kernel
theorem dX0_heldBits_1 : decode cX0_heldBits 1 = .ok (.istore_n 2, 1) := by decide +kernel
theorem dX0_heldBits_2 : decode cX0_heldBits 2 = .ok (.iconst 0, 1) := by decide +kernel
theorem dX0_heldBits_3 : decode cX0_heldBits 3 = .ok (.istore_n 3, 1) := by decide +kernel
theorem dX0_heldBits_4 : decode cX0_heldBits 4 = .ok (.iload_n 3, 1) := by decide +kernel
theorem dX0_heldBits_5 : decode cX0_heldBits 5 = .ok (.aload_n 0, 1) := by decide +kernel
theorem dX0_heldBits_6 : decode cX0_heldBits 6 = .ok (.getfield 42, 3) := by decide +kernel
theorem dX0_heldBits_9 : decode cX0_heldBits 9 = .ok (.if_icmp .ge 27, 3) := by decide +kernel
theorem dX0_heldBits_12 : decode cX0_heldBits 12 = .ok (.aload_n 0, 1) := by decide +kernel
theorem dX0_heldBits_13 : decode cX0_heldBits 13 = .ok (.getfield 24, 3) := by decide +kernel
theorem dX0_heldBits_16 : decode cX0_heldBits 16 = .ok (.iload_n 3, 1) := by decide +kernel
theorem dX0_heldBits_17 : decode cX0_heldBits 17 = .ok (.invokestatic 60, 3) := by decide +kernel
theorem dX0_heldBits_20 : decode cX0_heldBits 20 = .ok (.iload_n 1, 1) := by decide +kernel
theorem dX0_heldBits_21 : decode cX0_heldBits 21 = .ok (.if_icmp .ne 9, 3) := by decide +kernel
theorem dX0_heldBits_24 : decode cX0_heldBits 24 = .ok (.iload_n 2, 1) := by decide +kernel
theorem dX0_heldBits_25 : decode cX0_heldBits 25 = .ok (.iconst 1, 1) := by decide +kernel
theorem dX0_heldBits_26 : decode cX0_heldBits 26 = .ok (.iload_n 3, 1) := by decide +kernel
theorem dX0_heldBits_27 : decode cX0_heldBits 27 = .ok (.ishl, 1) := by decide +kernel
theorem dX0_heldBits_28 : decode cX0_heldBits 28 = .ok (.ior, 1) := by decide +kernel
theorem dX0_heldBits_29 : decode cX0_heldBits 29 = .ok (.istore_n 2, 1) := by decide +kernel
theorem dX0_heldBits_30 : decode cX0_heldBits 30 = .ok (.iinc 3 1, 3) := by decide +kernel
theorem dX0_heldBits_33 : decode cX0_heldBits 33 = .ok (.goto (-29), 3) := by decide +kernel
theorem dX0_heldBits_36 : decode cX0_heldBits 36 = .ok (.iload_n 2, 1) := by decide +kernel
theorem dX0_heldBits_37 : decode cX0_heldBits 37 = .ok (.ireturn, 1) := by decide +kernel
set_option maxRecDepth 20000 in
theorem ggX0_ownBits_X1_at : GoodIn wsX0_ownBits wsX1_at := goodIn_r _ [6] (by decide +kernel) (by decide +kernel)
set_option maxRecDepth 20000 in
theorem gX0_ownBits_X1_at_n60 : GoodIn wsX0_ownBits (wsX1_at) := ggX0_ownBits_X1_at
theorem dX0_ownBits_0 : decode cX0_ownBits 0 = .ok (.iconst 0, 1) := by decide +kernel
theorem dX0_ownBits_1 : decode cX0_ownBits 1 = .ok (.istore_n 1, 1) := by decide +kernel
theorem dX0_ownBits_2 : decode cX0_ownBits 2 = .ok (.iconst 0, 1) := by decide +kernel
theorem dX0_ownBits_3 : decode cX0_ownBits 3 = .ok (.istore_n 2, 1) := by decide +kernel
theorem dX0_ownBits_4 : decode cX0_ownBits 4 = .ok (.iload_n 2, 1) := by decide +kernel
theorem dX0_ownBits_5 : decode cX0_ownBits 5 = .ok (.aload_n 0, 1) := by decide +kernel
theorem dX0_ownBits_6 : decode cX0_ownBits 6 = .ok (.getfield 42, 3) := by decide +kernel
theorem dX0_ownBits_9 : decode cX0_ownBits 9 = .ok (.if_icmp .ge 34, 3) := by decide +kernel
theorem dX0_ownBits_12 : decode cX0_ownBits 12 = .ok (.aload_n 0, 1) := by decide +kernel
theorem dX0_ownBits_13 : decode cX0_ownBits 13 = .ok (.getfield 24, 3) := by decide +kernel
theorem dX0_ownBits_16 : decode cX0_ownBits 16 = .ok (.iload_n 2, 1) := by decide +kernel
theorem dX0_ownBits_17 : decode cX0_ownBits 17 = .ok (.invokestatic 60, 3) := by decide +kernel
theorem dX0_ownBits_20 : decode cX0_ownBits 20 = .ok (.aload_n 0, 1) := by decide +kernel
theorem dX0_ownBits_21 : decode cX0_ownBits 21 = .ok (.getfield 18, 3) := by decide +kernel
theorem dX0_ownBits_24 : decode cX0_ownBits 24 = .ok (.iload_n 2, 1) := by decide +kernel
theorem dX0_ownBits_25 : decode cX0_ownBits 25 = .ok (.invokestatic 60, 3) := by decide +kernel
theorem dX0_ownBits_28 : decode cX0_ownBits 28 = .ok (.if_icmp .ne 9, 3) := by decide +kernel
theorem dX0_ownBits_31 : decode cX0_ownBits 31 = .ok (.iload_n 1, 1) := by decide +kernel
theorem dX0_ownBits_32 : decode cX0_ownBits 32 = .ok (.iconst 1, 1) := by decide +kernel
theorem dX0_ownBits_33 : decode cX0_ownBits 33 = .ok (.iload_n 2, 1) := by decide +kernel
theorem dX0_ownBits_34 : decode cX0_ownBits 34 = .ok (.ishl, 1) := by decide +kernel
theorem dX0_ownBits_35 : decode cX0_ownBits 35 = .ok (.ior, 1) := by decide +kernel
theorem dX0_ownBits_36 : decode cX0_ownBits 36 = .ok (.istore_n 1, 1) := by decide +kernel
theorem dX0_ownBits_37 : decode cX0_ownBits 37 = .ok (.iinc 2 1, 3) := by decide +kernel
theorem dX0_ownBits_40 : decode cX0_ownBits 40 = .ok (.goto (-36), 3) := by decide +kernel
theorem dX0_ownBits_43 : decode cX0_ownBits 43 = .ok (.iload_n 1, 1) := by decide +kernel
theorem dX0_ownBits_44 : decode cX0_ownBits 44 = .ok (.ireturn, 1) := by decide +kernel
set_option maxRecDepth 20000 in
theorem ggX0_cleanBits_X1_at : GoodIn wsX0_cleanBits wsX1_at := goodIn_r _ [6] (by decide +kernel) (by decide +kernel)
set_option maxRecDepth 20000 in
theorem gX0_cleanBits_X1_at_n60 : GoodIn wsX0_cleanBits (wsX1_at) := ggX0_cleanBits_X1_at
theorem dX0_cleanBits_0 : decode cX0_cleanBits 0 = .ok (.iconst 1, 1) := by decide +kernel
theorem dX0_cleanBits_1 : decode cX0_cleanBits 1 = .ok (.aload_n 0, 1) := by decide +kernel
theorem dX0_cleanBits_2 : decode cX0_cleanBits 2 = .ok (.getfield 46, 3) := by decide +kernel
theorem dX0_cleanBits_5 : decode cX0_cleanBits 5 = .ok (.ishl, 1) := by decide +kernel
theorem dX0_cleanBits_6 : decode cX0_cleanBits 6 = .ok (.iconst 1, 1) := by decide +kernel
theorem dX0_cleanBits_7 : decode cX0_cleanBits 7 = .ok (.isub, 1) := by decide +kernel
theorem dX0_cleanBits_8 : decode cX0_cleanBits 8 = .ok (.istore_n 1, 1) := by decide +kernel
theorem dX0_cleanBits_9 : decode cX0_cleanBits 9 = .ok (.iconst 0, 1) := by decide +kernel
theorem dX0_cleanBits_10 : decode cX0_cleanBits 10 = .ok (.istore_n 2, 1) := by decide +kernel
theorem dX0_cleanBits_11 : decode cX0_cleanBits 11 = .ok (.iload_n 2, 1) := by decide +kernel
theorem dX0_cleanBits_12 : decode cX0_cleanBits 12 = .ok (.aload_n 0, 1) := by decide +kernel
theorem dX0_cleanBits_13 : decode cX0_cleanBits 13 = .ok (.getfield 42, 3) := by decide +kernel
theorem dX0_cleanBits_16 : decode cX0_cleanBits 16 = .ok (.if_icmp .ge 24, 3) := by decide +kernel
theorem dX0_cleanBits_19 : decode cX0_cleanBits 19 = .ok (.iload_n 1, 1) := by decide +kernel
theorem dX0_cleanBits_20 : decode cX0_cleanBits 20 = .ok (.iconst 1, 1) := by decide +kernel
theorem dX0_cleanBits_21 : decode cX0_cleanBits 21 = .ok (.aload_n 0, 1) := by decide +kernel
theorem dX0_cleanBits_22 : decode cX0_cleanBits 22 = .ok (.getfield 18, 3) := by decide +kernel
theorem dX0_cleanBits_25 : decode cX0_cleanBits 25 = .ok (.iload_n 2, 1) := by decide +kernel
theorem dX0_cleanBits_26 : decode cX0_cleanBits 26 = .ok (.invokestatic 60, 3) := by decide +kernel
theorem dX0_cleanBits_29 : decode cX0_cleanBits 29 = .ok (.ishl, 1) := by decide +kernel
theorem dX0_cleanBits_30 : decode cX0_cleanBits 30 = .ok (.iconst (-1), 1) := by decide +kernel
theorem dX0_cleanBits_31 : decode cX0_cleanBits 31 = .ok (.ixor, 1) := by decide +kernel
theorem dX0_cleanBits_32 : decode cX0_cleanBits 32 = .ok (.iand, 1) := by decide +kernel
theorem dX0_cleanBits_33 : decode cX0_cleanBits 33 = .ok (.istore_n 1, 1) := by decide +kernel
theorem dX0_cleanBits_34 : decode cX0_cleanBits 34 = .ok (.iinc 2 1, 3) := by decide +kernel
theorem dX0_cleanBits_37 : decode cX0_cleanBits 37 = .ok (.goto (-26), 3) := by decide +kernel
theorem dX0_cleanBits_40 : decode cX0_cleanBits 40 = .ok (.iload_n 1, 1) := by decide +kernel
theorem dX0_cleanBits_41 : decode cX0_cleanBits 41 = .ok (.ireturn, 1) := by decide +kernel
set_option maxRecDepth 20000 in
theorem ggX0_heldBy_X0_heldBits : GoodIn wsX0_heldBy wsX0_heldBits := goodIn_r _ [5, 6, 7, 8, 9, 10, 18, 19, 20, 21, 22, 23, 24, 25, 26, 27, 28, 29, 30] (by decide +kernel) (by decide +kernel)
set_option maxRecDepth 20000 in
theorem gX0_heldBy_X0_heldBits : GoodIn wsX0_heldBy (wsV RX0 106 RX0 yX0_heldBits wsX0_heldBits) := goodIn_app (goodIn_of _ (by decide +kernel)) ggX0_heldBy_X0_heldBits
set_option maxRecDepth 20000 in
theorem ggX0_heldBy_J6_bitCount_0f7a4 : GoodIn wsX0_heldBy wsJ6_bitCount_0f7a4 := goodIn_r _ [14, 15, 16, 17] (by decide +kernel) (by decide +kernel)
set_option maxRecDepth 20000 in
theorem gX0_heldBy_J6_bitCount_0f7a4 : GoodIn wsX0_heldBy (va_wsS RX0 109 yJ6_bitCount_0f7a4 wsJ6_bitCount_0f7a4) := goodIn_app (goodIn_of _ (by decide +kernel)) ggX0_heldBy_J6_bitCount_0f7a4
theorem dX0_heldBy_0 : decode cX0_heldBy 0 = .ok (.aload_n 0, 1) := by decide +kernel
theorem dX0_heldBy_1 : decode cX0_heldBy 1 = .ok (.iload_n 1, 1) := by decide +kernel
theorem dX0_heldBy_2 : decode cX0_heldBy 2 = .ok (.invokevirtual 106, 3) := by decide +kernel
theorem dX0_heldBy_5 : decode cX0_heldBy 5 = .ok (.invokestatic 109, 3) := by decide +kernel
theorem dX0_heldBy_8 : decode cX0_heldBy 8 = .ok (.ireturn, 1) := by decide +kernel
set_option maxRecDepth 20000 in
theorem ggX0_heldCount_X0_pileBits : GoodIn wsX0_heldCount wsX0_pileBits := goodIn_r _ [6, 1, 7, 8, 9, 5, 10, 11, 12, 13, 14, 15, 16, 17, 18, 26, 27, 28, 29, 30, 31, 32, 33, 34, 35, 36, 37, 38] (by decide +kernel) (by decide +kernel)
set_option maxRecDepth 20000 in
theorem gX0_heldCount_X0_pileBits : GoodIn wsX0_heldCount (wsV RX0 114 RX0 yX0_pileBits wsX0_pileBits) := goodIn_app (goodIn_of _ (by decide +kernel)) ggX0_heldCount_X0_pileBits
set_option maxRecDepth 20000 in
theorem ggX0_heldCount_J6_bitCount_0f7a4 : GoodIn wsX0_heldCount wsJ6_bitCount_0f7a4 := goodIn_r _ [22, 23, 24, 25] (by decide +kernel) (by decide +kernel)
set_option maxRecDepth 20000 in
theorem gX0_heldCount_J6_bitCount_0f7a4 : GoodIn wsX0_heldCount (va_wsS RX0 109 yJ6_bitCount_0f7a4 wsJ6_bitCount_0f7a4) := goodIn_app (goodIn_of _ (by decide +kernel)) ggX0_heldCount_J6_bitCount_0f7a4
theorem dX0_heldCount_0 : decode cX0_heldCount 0 = .ok (.aload_n 0, 1) := by decide +kernel
theorem dX0_heldCount_1 : decode cX0_heldCount 1 = .ok (.getfield 42, 3) := by decide +kernel
theorem dX0_heldCount_4 : decode cX0_heldCount 4 = .ok (.aload_n 0, 1) := by decide +kernel
theorem dX0_heldCount_5 : decode cX0_heldCount 5 = .ok (.invokevirtual 114, 3) := by decide +kernel
theorem dX0_heldCount_8 : decode cX0_heldCount 8 = .ok (.invokestatic 109, 3) := by decide +kernel
theorem dX0_heldCount_11 : decode cX0_heldCount 11 = .ok (.isub, 1) := by decide +kernel
theorem dX0_heldCount_12 : decode cX0_heldCount 12 = .ok (.ireturn, 1) := by decide +kernel
set_option maxRecDepth 20000 in
theorem ggX0_allPurses_X1_at : GoodIn wsX0_allPurses wsX1_at := goodIn_r _ [5] (by decide +kernel) (by decide +kernel)
set_option maxRecDepth 20000 in
theorem gX0_allPurses_X1_at_n60 : GoodIn wsX0_allPurses (wsX1_at) := ggX0_allPurses_X1_at
theorem dX0_allPurses_0 : decode cX0_allPurses 0 = .ok (.iconst 0, 1) := by decide +kernel
theorem dX0_allPurses_1 : decode cX0_allPurses 1 = .ok (.istore_n 1, 1) := by decide +kernel
theorem dX0_allPurses_2 : decode cX0_allPurses 2 = .ok (.iconst 0, 1) := by decide +kernel
theorem dX0_allPurses_3 : decode cX0_allPurses 3 = .ok (.istore_n 2, 1) := by decide +kernel
theorem dX0_allPurses_4 : decode cX0_allPurses 4 = .ok (.iload_n 2, 1) := by decide +kernel
theorem dX0_allPurses_5 : decode cX0_allPurses 5 = .ok (.aload_n 0, 1) := by decide +kernel
theorem dX0_allPurses_6 : decode cX0_allPurses 6 = .ok (.getfield 46, 3) := by decide +kernel
theorem dX0_allPurses_9 : decode cX0_allPurses 9 = .ok (.if_icmp .ge 20, 3) := by decide +kernel
theorem dX0_allPurses_12 : decode cX0_allPurses 12 = .ok (.iload_n 1, 1) := by decide +kernel
theorem dX0_allPurses_13 : decode cX0_allPurses 13 = .ok (.aload_n 0, 1) := by decide +kernel
theorem dX0_allPurses_14 : decode cX0_allPurses 14 = .ok (.getfield 36, 3) := by decide +kernel
theorem dX0_allPurses_17 : decode cX0_allPurses 17 = .ok (.iload_n 2, 1) := by decide +kernel
theorem dX0_allPurses_18 : decode cX0_allPurses 18 = .ok (.invokestatic 60, 3) := by decide +kernel
theorem dX0_allPurses_21 : decode cX0_allPurses 21 = .ok (.iadd, 1) := by decide +kernel
theorem dX0_allPurses_22 : decode cX0_allPurses 22 = .ok (.istore_n 1, 1) := by decide +kernel
theorem dX0_allPurses_23 : decode cX0_allPurses 23 = .ok (.iinc 2 1, 3) := by decide +kernel
theorem dX0_allPurses_26 : decode cX0_allPurses 26 = .ok (.goto (-22), 3) := by decide +kernel
theorem dX0_allPurses_29 : decode cX0_allPurses 29 = .ok (.iload_n 1, 1) := by decide +kernel
theorem dX0_allPurses_30 : decode cX0_allPurses 30 = .ok (.ireturn, 1) := by decide +kernel
set_option maxRecDepth 20000 in
theorem ggX0_allBelieved_X1_at : GoodIn wsX0_allBelieved wsX1_at := goodIn_r _ [5] (by decide +kernel) (by decide +kernel)
set_option maxRecDepth 20000 in
theorem gX0_allBelieved_X1_at_n60 : GoodIn wsX0_allBelieved (wsX1_at) := ggX0_allBelieved_X1_at
theorem dX0_allBelieved_0 : decode cX0_allBelieved 0 = .ok (.iconst 0, 1) := by decide +kernel
theorem dX0_allBelieved_1 : decode cX0_allBelieved 1 = .ok (.istore_n 1, 1) := by decide +kernel
theorem dX0_allBelieved_2 : decode cX0_allBelieved 2 = .ok (.iconst 0, 1) := by decide +kernel
theorem dX0_allBelieved_3 : decode cX0_allBelieved 3 = .ok (.istore_n 2, 1) := by decide +kernel
theorem dX0_allBelieved_4 : decode cX0_allBelieved 4 = .ok (.iload_n 2, 1) := by decide +kernel
theorem dX0_allBelieved_5 : decode cX0_allBelieved 5 = .ok (.aload_n 0, 1) := by decide +kernel
theorem dX0_allBelieved_6 : decode cX0_allBelieved 6 = .ok (.getfield 46, 3) := by decide +kernel
theorem dX0_allBelieved_9 : decode cX0_allBelieved 9 = .ok (.if_icmp .ge 20, 3) := by decide +kernel
theorem dX0_allBelieved_12 : decode cX0_allBelieved 12 = .ok (.iload_n 1, 1) := by decide +kernel
theorem dX0_allBelieved_13 : decode cX0_allBelieved 13 = .ok (.aload_n 0, 1) := by decide +kernel
theorem dX0_allBelieved_14 : decode cX0_allBelieved 14 = .ok (.getfield 39, 3) := by decide +kernel
theorem dX0_allBelieved_17 : decode cX0_allBelieved 17 = .ok (.iload_n 2, 1) := by decide +kernel
theorem dX0_allBelieved_18 : decode cX0_allBelieved 18 = .ok (.invokestatic 60, 3) := by decide +kernel
theorem dX0_allBelieved_21 : decode cX0_allBelieved 21 = .ok (.iadd, 1) := by decide +kernel
theorem dX0_allBelieved_22 : decode cX0_allBelieved 22 = .ok (.istore_n 1, 1) := by decide +kernel
theorem dX0_allBelieved_23 : decode cX0_allBelieved 23 = .ok (.iinc 2 1, 3) := by decide +kernel
theorem dX0_allBelieved_26 : decode cX0_allBelieved 26 = .ok (.goto (-22), 3) := by decide +kernel
theorem dX0_allBelieved_29 : decode cX0_allBelieved 29 = .ok (.iload_n 1, 1) := by decide +kernel
theorem dX0_allBelieved_30 : decode cX0_allBelieved 30 = .ok (.ireturn, 1) := by decide +kernel
set_option maxRecDepth 20000 in
theorem ggX0_allWorth_X0_worth : GoodIn wsX0_allWorth wsX0_worth := goodIn_r _ [6, 7, 8, 9, 10, 11, 12, 13, 14, 15, 16, 17, 18, 19, 20, 21, 22, 23, 24, 25, 26, 27, 28, 29] (by decide +kernel) (by decide +kernel)
set_option maxRecDepth 20000 in
theorem gX0_allWorth_X0_worth : GoodIn wsX0_allWorth (wsV RX0 84 RX0 yX0_worth wsX0_worth) := goodIn_app (goodIn_of _ (by decide +kernel)) ggX0_allWorth_X0_worth
theorem dX0_allWorth_0 : decode cX0_allWorth 0 = .ok (.iconst 0, 1) := by decide +kernel
theorem dX0_allWorth_1 : decode cX0_allWorth 1 = .ok (.istore_n 1, 1) := by decide +kernel
theorem dX0_allWorth_2 : decode cX0_allWorth 2 = .ok (.iconst 0, 1) := by decide +kernel
theorem dX0_allWorth_3 : decode cX0_allWorth 3 = .ok (.istore_n 2, 1) := by decide +kernel
theorem dX0_allWorth_4 : decode cX0_allWorth 4 = .ok (.iload_n 2, 1) := by decide +kernel
theorem dX0_allWorth_5 : decode cX0_allWorth 5 = .ok (.aload_n 0, 1) := by decide +kernel
theorem dX0_allWorth_6 : decode cX0_allWorth 6 = .ok (.getfield 42, 3) := by decide +kernel
theorem dX0_allWorth_9 : decode cX0_allWorth 9 = .ok (.if_icmp .ge 17, 3) := by decide +kernel
theorem dX0_allWorth_12 : decode cX0_allWorth 12 = .ok (.iload_n 1, 1) := by decide +kernel
theorem dX0_allWorth_13 : decode cX0_allWorth 13 = .ok (.aload_n 0, 1) := by decide +kernel
theorem dX0_allWorth_14 : decode cX0_allWorth 14 = .ok (.iload_n 2, 1) := by decide +kernel
theorem dX0_allWorth_15 : decode cX0_allWorth 15 = .ok (.invokevirtual 84, 3) := by decide +kernel
theorem dX0_allWorth_18 : decode cX0_allWorth 18 = .ok (.iadd, 1) := by decide +kernel
theorem dX0_allWorth_19 : decode cX0_allWorth 19 = .ok (.istore_n 1, 1) := by decide +kernel
theorem dX0_allWorth_20 : decode cX0_allWorth 20 = .ok (.iinc 2 1, 3) := by decide +kernel
theorem dX0_allWorth_23 : decode cX0_allWorth 23 = .ok (.goto (-19), 3) := by decide +kernel
theorem dX0_allWorth_26 : decode cX0_allWorth 26 = .ok (.iload_n 1, 1) := by decide +kernel
theorem dX0_allWorth_27 : decode cX0_allWorth 27 = .ok (.ireturn, 1) := by decide +kernel
theorem dX1_at_0 : decode cX1_at 0 = .ok (.aload_n 0, 1) := by decide +kernel
theorem dX1_at_1 : decode cX1_at 1 = .ok (.ifnull 19, 3) := by decide +kernel
theorem dX1_at_4 : decode cX1_at 4 = .ok (.iload_n 1, 1) := by decide +kernel
theorem dX1_at_5 : decode cX1_at 5 = .ok (.ifCond .lt 15, 3) := by decide +kernel
theorem dX1_at_8 : decode cX1_at 8 = .ok (.iload_n 1, 1) := by decide +kernel
theorem dX1_at_9 : decode cX1_at 9 = .ok (.aload_n 0, 1) := by decide +kernel
theorem dX1_at_10 : decode cX1_at 10 = .ok (.arraylength, 1) := by decide +kernel
theorem dX1_at_11 : decode cX1_at 11 = .ok (.if_icmp .ge 9, 3) := by decide +kernel
theorem dX1_at_14 : decode cX1_at 14 = .ok (.aload_n 0, 1) := by decide +kernel
theorem dX1_at_15 : decode cX1_at 15 = .ok (.iload_n 1, 1) := by decide +kernel
theorem dX1_at_16 : decode cX1_at 16 = .ok (.iaload, 1) := by decide +kernel
theorem dX1_at_17 : decode cX1_at 17 = .ok (.goto 4, 3) := by decide +kernel
theorem dX1_at_20 : decode cX1_at 20 = .ok (.iconst 0, 1) := by decide +kernel
theorem dX1_at_21 : decode cX1_at 21 = .ok (.ireturn, 1) := by decide +kernel
theorem dX1_put_0 : decode cX1_put 0 = .ok (.aload_n 0, 1) := by decide +kernel
theorem dX1_put_1 : decode cX1_put 1 = .ok (.ifnull 17, 3) := by decide +kernel
theorem dX1_put_4 : decode cX1_put 4 = .ok (.iload_n 1, 1) := by decide +kernel
theorem dX1_put_5 : decode cX1_put 5 = .ok (.ifCond .lt 13, 3) := by decide +kernel
theorem dX1_put_8 : decode cX1_put 8 = .ok (.iload_n 1, 1) := by decide +kernel
theorem dX1_put_9 : decode cX1_put 9 = .ok (.aload_n 0, 1) := by decide +kernel
theorem dX1_put_10 : decode cX1_put 10 = .ok (.arraylength, 1) := by decide +kernel
theorem dX1_put_11 : decode cX1_put 11 = .ok (.if_icmp .ge 7, 3) := by decide +kernel
theorem dX1_put_14 : decode cX1_put 14 = .ok (.aload_n 0, 1) := by decide +kernel
theorem dX1_put_15 : decode cX1_put 15 = .ok (.iload_n 1, 1) := by decide +kernel
theorem dX1_put_16 : decode cX1_put 16 = .ok (.iload_n 2, 1) := by decide +kernel
theorem dX1_put_17 : decode cX1_put 17 = .ok (.iastore, 1) := by decide +kernel
theorem dX1_put_18 : decode cX1_put 18 = .ok (.return_, 1) := by decide +kernel
theorem dX1_copyRow_0 : decode cX1_copyRow 0 = .ok (.aload_n 0, 1) := by decide +kernel
theorem dX1_copyRow_1 : decode cX1_copyRow 1 = .ok (.ifnull 21, 3) := by decide +kernel
theorem dX1_copyRow_4 : decode cX1_copyRow 4 = .ok (.aload_n 1, 1) := by decide +kernel
theorem dX1_copyRow_5 : decode cX1_copyRow 5 = .ok (.ifnull 17, 3) := by decide +kernel
theorem dX1_copyRow_8 : decode cX1_copyRow 8 = .ok (.aload_n 0, 1) := by decide +kernel
theorem dX1_copyRow_9 : decode cX1_copyRow 9 = .ok (.iconst 0, 1) := by decide +kernel
theorem dX1_copyRow_10 : decode cX1_copyRow 10 = .ok (.aload_n 1, 1) := by decide +kernel
theorem dX1_copyRow_11 : decode cX1_copyRow 11 = .ok (.iconst 0, 1) := by decide +kernel
theorem dX1_copyRow_12 : decode cX1_copyRow 12 = .ok (.aload_n 0, 1) := by decide +kernel
theorem dX1_copyRow_13 : decode cX1_copyRow 13 = .ok (.arraylength, 1) := by decide +kernel
theorem dX1_copyRow_14 : decode cX1_copyRow 14 = .ok (.aload_n 1, 1) := by decide +kernel
theorem dX1_copyRow_15 : decode cX1_copyRow 15 = .ok (.arraylength, 1) := by decide +kernel
theorem dX1_copyRow_16 : decode cX1_copyRow 16 = .ok (.invokestatic 275, 3) := by decide +kernel
theorem dX1_copyRow_19 : decode cX1_copyRow 19 = .ok (.invokestatic 280, 3) := by decide +kernel
theorem dX1_copyRow_22 : decode cX1_copyRow 22 = .ok (.return_, 1) := by decide +kernel
theorem dJ6_bitCount_0f7a4_0 : decode cJ6_bitCount_0f7a4 0 = .ok (.iload_n 0, 1) := by decide +kernel
theorem dJ6_bitCount_0f7a4_1 : decode cJ6_bitCount_0f7a4 1 = .ok (.iload_n 0, 1) := by decide +kernel
theorem dJ6_bitCount_0f7a4_2 : decode cJ6_bitCount_0f7a4 2 = .ok (.iconst 1, 1) := by decide +kernel
theorem dJ6_bitCount_0f7a4_3 : decode cJ6_bitCount_0f7a4 3 = .ok (.iushr, 1) := by decide +kernel
theorem dJ6_bitCount_0f7a4_4 : decode cJ6_bitCount_0f7a4 4 = .ok (.ldc_w 265, 3) := by decide +kernel
theorem dJ6_bitCount_0f7a4_7 : decode cJ6_bitCount_0f7a4 7 = .ok (.iand, 1) := by decide +kernel
theorem dJ6_bitCount_0f7a4_8 : decode cJ6_bitCount_0f7a4 8 = .ok (.isub, 1) := by decide +kernel
theorem dJ6_bitCount_0f7a4_9 : decode cJ6_bitCount_0f7a4 9 = .ok (.istore_n 0, 1) := by decide +kernel
theorem dJ6_bitCount_0f7a4_10 : decode cJ6_bitCount_0f7a4 10 = .ok (.iload_n 0, 1) := by decide +kernel
theorem dJ6_bitCount_0f7a4_11 : decode cJ6_bitCount_0f7a4 11 = .ok (.ldc_w 266, 3) := by decide +kernel
theorem dJ6_bitCount_0f7a4_14 : decode cJ6_bitCount_0f7a4 14 = .ok (.iand, 1) := by decide +kernel
theorem dJ6_bitCount_0f7a4_15 : decode cJ6_bitCount_0f7a4 15 = .ok (.iload_n 0, 1) := by decide +kernel
theorem dJ6_bitCount_0f7a4_16 : decode cJ6_bitCount_0f7a4 16 = .ok (.iconst 2, 1) := by decide +kernel
theorem dJ6_bitCount_0f7a4_17 : decode cJ6_bitCount_0f7a4 17 = .ok (.iushr, 1) := by decide +kernel
theorem dJ6_bitCount_0f7a4_18 : decode cJ6_bitCount_0f7a4 18 = .ok (.ldc_w 266, 3) := by decide +kernel
theorem dJ6_bitCount_0f7a4_21 : decode cJ6_bitCount_0f7a4 21 = .ok (.iand, 1) := by decide +kernel
theorem dJ6_bitCount_0f7a4_22 : decode cJ6_bitCount_0f7a4 22 = .ok (.iadd, 1) := by decide +kernel
theorem dJ6_bitCount_0f7a4_23 : decode cJ6_bitCount_0f7a4 23 = .ok (.istore_n 0, 1) := by decide +kernel
theorem dJ6_bitCount_0f7a4_24 : decode cJ6_bitCount_0f7a4 24 = .ok (.iload_n 0, 1) := by decide +kernel
theorem dJ6_bitCount_0f7a4_25 : decode cJ6_bitCount_0f7a4 25 = .ok (.iload_n 0, 1) := by decide +kernel
theorem dJ6_bitCount_0f7a4_26 : decode cJ6_bitCount_0f7a4 26 = .ok (.iconst 4, 1) := by decide +kernel
theorem dJ6_bitCount_0f7a4_27 : decode cJ6_bitCount_0f7a4 27 = .ok (.iushr, 1) := by decide +kernel
theorem dJ6_bitCount_0f7a4_28 : decode cJ6_bitCount_0f7a4 28 = .ok (.iadd, 1) := by decide +kernel
theorem dJ6_bitCount_0f7a4_29 : decode cJ6_bitCount_0f7a4 29 = .ok (.ldc_w 267, 3) := by decide +kernel
theorem dJ6_bitCount_0f7a4_32 : decode cJ6_bitCount_0f7a4 32 = .ok (.iand, 1) := by decide +kernel
theorem dJ6_bitCount_0f7a4_33 : decode cJ6_bitCount_0f7a4 33 = .ok (.istore_n 0, 1) := by decide +kernel
theorem dJ6_bitCount_0f7a4_34 : decode cJ6_bitCount_0f7a4 34 = .ok (.iload_n 0, 1) := by decide +kernel
theorem dJ6_bitCount_0f7a4_35 : decode cJ6_bitCount_0f7a4 35 = .ok (.iload_n 0, 1) := by decide +kernel
theorem dJ6_bitCount_0f7a4_36 : decode cJ6_bitCount_0f7a4 36 = .ok (.bipush 8, 2) := by decide +kernel
theorem dJ6_bitCount_0f7a4_38 : decode cJ6_bitCount_0f7a4 38 = .ok (.iushr, 1) := by decide +kernel
theorem dJ6_bitCount_0f7a4_39 : decode cJ6_bitCount_0f7a4 39 = .ok (.iadd, 1) := by decide +kernel
theorem dJ6_bitCount_0f7a4_40 : decode cJ6_bitCount_0f7a4 40 = .ok (.istore_n 0, 1) := by decide +kernel
theorem dJ6_bitCount_0f7a4_41 : decode cJ6_bitCount_0f7a4 41 = .ok (.iload_n 0, 1) := by decide +kernel
theorem dJ6_bitCount_0f7a4_42 : decode cJ6_bitCount_0f7a4 42 = .ok (.iload_n 0, 1) := by decide +kernel
theorem dJ6_bitCount_0f7a4_43 : decode cJ6_bitCount_0f7a4 43 = .ok (.bipush 16, 2) := by decide +kernel
theorem dJ6_bitCount_0f7a4_45 : decode cJ6_bitCount_0f7a4 45 = .ok (.iushr, 1) := by decide +kernel
theorem dJ6_bitCount_0f7a4_46 : decode cJ6_bitCount_0f7a4 46 = .ok (.iadd, 1) := by decide +kernel
theorem dJ6_bitCount_0f7a4_47 : decode cJ6_bitCount_0f7a4 47 = .ok (.istore_n 0, 1) := by decide +kernel
theorem dJ6_bitCount_0f7a4_48 : decode cJ6_bitCount_0f7a4 48 = .ok (.iload_n 0, 1) := by decide +kernel
theorem dJ6_bitCount_0f7a4_49 : decode cJ6_bitCount_0f7a4 49 = .ok (.bipush 63, 2) := by decide +kernel
theorem dJ6_bitCount_0f7a4_51 : decode cJ6_bitCount_0f7a4 51 = .ok (.iand, 1) := by decide +kernel
theorem dJ6_bitCount_0f7a4_52 : decode cJ6_bitCount_0f7a4 52 = .ok (.ireturn, 1) := by decide +kernel
