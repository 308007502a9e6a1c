theorem dX2_init_0 : decode cX2_init 0 = .ok (.aload_n 0, 1) := by decide +kernel
theorem dX2_init_1 : decode cX2_init 1 = .ok (.invokespecial 5, 3) := by decide +kernel
theorem dX2_init_4 : decode cX2_init 4 = .ok (.aload_n 0, 1) := by decide +kernel
theorem dX2_init_5 : decode cX2_init 5 = .ok (.aload_n 1, 1) := by decide +kernel
theorem dX2_init_6 : decode cX2_init 6 = .ok (.putfield 11, 3) := by decide +kernel
theorem dX2_init_9 : decode cX2_init 9 = .ok (.aload_n 0, 1) := by decide +kernel
theorem dX2_init_10 : decode cX2_init 10 = .ok (.sipush 128, 3) := by decide +kernel
theorem dX2_init_13 : decode cX2_init 13 = .ok (.newarray .int, 2) := by decide +kernel
theorem dX2_init_15 : decode cX2_init 15 = .ok (.putfield 17, 3) := by decide +kernel
theorem dX2_init_18 : decode cX2_init 18 = .ok (.aload_n 0, 1) := by decide +kernel
theorem dX2_init_19 : decode cX2_init 19 = .ok (.sipush 160, 3) := by decide +kernel
theorem dX2_init_22 : decode cX2_init 22 = .ok (.newarray .int, 2) := by decide +kernel
theorem dX2_init_24 : decode cX2_init 24 = .ok (.putfield 21, 3) := by decide +kernel
theorem dX2_init_27 : decode cX2_init 27 = .ok (.aload_n 0, 1) := by decide +kernel
theorem dX2_init_28 : decode cX2_init 28 = .ok (.sipush 128, 3) := by decide +kernel
theorem dX2_init_31 : decode cX2_init 31 = .ok (.newarray .int, 2) := by decide +kernel
theorem dX2_init_33 : decode cX2_init 33 = .ok (.putfield 24, 3) := by decide +kernel
theorem dX2_init_36 : decode cX2_init 36 = .ok (.aload_n 0, 1) := by decide +kernel
theorem dX2_init_37 : decode cX2_init 37 = .ok (.sipush 160, 3) := by decide +kernel
theorem dX2_init_40 : decode cX2_init 40 = .ok (.newarray .int, 2) := by decide +kernel
theorem dX2_init_42 : decode cX2_init 42 = .ok (.putfield 27, 3) := by decide +kernel
theorem dX2_init_45 : decode cX2_init 45 = .ok (.aload_n 0, 1) := by decide +kernel
theorem dX2_init_46 : decode cX2_init 46 = .ok (.iconst 5, 1) := by decide +kernel
theorem dX2_init_47 : decode cX2_init 47 = .ok (.newarray .int, 2) := by decide +kernel
theorem dX2_init_49 : decode cX2_init 49 = .ok (.putfield 30, 3) := by decide +kernel
theorem dX2_init_52 : decode cX2_init 52 = .ok (.aload_n 0, 1) := by decide +kernel
theorem dX2_init_53 : decode cX2_init 53 = .ok (.iconst 4, 1) := by decide +kernel
theorem dX2_init_54 : decode cX2_init 54 = .ok (.newarray .int, 2) := by decide +kernel
theorem dX2_init_56 : decode cX2_init 56 = .ok (.putfield 33, 3) := by decide +kernel
theorem dX2_init_59 : decode cX2_init 59 = .ok (.aload_n 0, 1) := by decide +kernel
theorem dX2_init_60 : decode cX2_init 60 = .ok (.iconst 4, 1) := by decide +kernel
theorem dX2_init_61 : decode cX2_init 61 = .ok (.newarray .int, 2) := by decide +kernel
theorem dX2_init_63 : decode cX2_init 63 = .ok (.putfield 36, 3) := by decide +kernel
theorem dX2_init_66 : decode cX2_init 66 = .ok (.aload_n 0, 1) := by decide +kernel
theorem dX2_init_67 : decode cX2_init 67 = .ok (.iconst 4, 1) := by decide +kernel
theorem dX2_init_68 : decode cX2_init 68 = .ok (.newarray .int, 2) := by decide +kernel
theorem dX2_init_70 : decode cX2_init 70 = .ok (.putfield 39, 3) := by decide +kernel
theorem dX2_init_73 : decode cX2_init 73 = .ok (.aload_n 0, 1) := by decide +kernel
theorem dX2_init_74 : decode cX2_init 74 = .ok (.iconst 4, 1) := by decide +kernel
theorem dX2_init_75 : decode cX2_init 75 = .ok (.newarray .int, 2) := by decide +kernel
theorem dX2_init_77 : decode cX2_init 77 = .ok (.putfield 42, 3) := by decide +kernel
theorem dX2_init_80 : decode cX2_init 80 = .ok (.aload_n 0, 1) := by decide +kernel
theorem dX2_init_81 : decode cX2_init 81 = .ok (.iconst 4, 1) := by decide +kernel
theorem dX2_init_82 : decode cX2_init 82 = .ok (.newarray .int, 2) := by decide +kernel
theorem dX2_init_84 : decode cX2_init 84 = .ok (.putfield 45, 3) := by decide +kernel
theorem dX2_init_87 : decode cX2_init 87 = .ok (.aload_n 0, 1) := by decide +kernel
theorem dX2_init_88 : decode cX2_init 88 = .ok (.iconst 4, 1) := by decide +kernel
theorem dX2_init_89 : decode cX2_init 89 = .ok (.newarray .int, 2) := by decide +kernel
theorem dX2_init_91 : decode cX2_init 91 = .ok (.putfield 48, 3) := by decide +kernel
theorem dX2_init_94 : decode cX2_init 94 = .ok (.aload_n 0, 1) := by decide +kernel
theorem dX2_init_95 : decode cX2_init 95 = .ok (.iconst 0, 1) := by decide +kernel
theorem dX2_init_96 : decode cX2_init 96 = .ok (.putfield 51, 3) := by decide +kernel
theorem dX2_init_99 : decode cX2_init 99 = .ok (.aload_n 0, 1) := by decide +kernel
theorem dX2_init_100 : decode cX2_init 100 = .ok (.iconst 0, 1) := by decide +kernel
theorem dX2_init_101 : decode cX2_init 101 = .ok (.putfield 55, 3) := by decide +kernel
theorem dX2_init_104 : decode cX2_init 104 = .ok (.aload_n 0, 1) := by decide +kernel
theorem dX2_init_105 : decode cX2_init 105 = .ok (.iconst 0, 1) := by decide +kernel
theorem dX2_init_106 : decode cX2_init 106 = .ok (.putfield 58, 3) := by decide +kernel
theorem dX2_init_109 : decode cX2_init 109 = .ok (.return_, 1) := by decide +kernel
theorem dX2_found_0 : decode cX2_found 0 = .ok (.aload_n 0, 1) := by decide +kernel
theorem dX2_found_1 : decode cX2_found 1 = .ok (.getfield 55, 3) := by decide +kernel
theorem dX2_found_4 : decode cX2_found 4 = .ok (.ireturn, 1) := by decide +kernel
theorem dX2_firstValue_0 : decode cX2_firstValue 0 = .ok (.aload_n 0, 1) := by decide +kernel
theorem dX2_firstValue_1 : decode cX2_firstValue 1 = .ok (.getfield 42, 3) := by decide +kernel
theorem dX2_firstValue_4 : decode cX2_firstValue 4 = .ok (.iload_n 1, 1) := by decide +kernel
theorem dX2_firstValue_5 : decode cX2_firstValue 5 = .ok (.iaload, 1) := by decide +kernel
theorem dX2_firstValue_6 : decode cX2_firstValue 6 = .ok (.ireturn, 1) := by decide +kernel
theorem dX2_leastValue_0 : decode cX2_leastValue 0 = .ok (.aload_n 0, 1) := by decide +kernel
theorem dX2_leastValue_1 : decode cX2_leastValue 1 = .ok (.getfield 45, 3) := by decide +kernel
theorem dX2_leastValue_4 : decode cX2_leastValue 4 = .ok (.iload_n 1, 1) := by decide +kernel
theorem dX2_leastValue_5 : decode cX2_leastValue 5 = .ok (.iaload, 1) := by decide +kernel
theorem dX2_leastValue_6 : decode cX2_leastValue 6 = .ok (.ireturn, 1) := by decide +kernel
theorem dX2_greatestValue_0 : decode cX2_greatestValue 0 = .ok (.aload_n 0, 1) := by decide +kernel
theorem dX2_greatestValue_1 : decode cX2_greatestValue 1 = .ok (.getfield 48, 3) := by decide +kernel
theorem dX2_greatestValue_4 : decode cX2_greatestValue 4 = .ok (.iload_n 1, 1) := by decide +kernel
theorem dX2_greatestValue_5 : decode cX2_greatestValue 5 = .ok (.iaload, 1) := by decide +kernel
theorem dX2_greatestValue_6 : decode cX2_greatestValue 6 = .ok (.ireturn, 1) := by decide +kernel
set_option maxRecDepth 20000 in
theorem ggX2_look_X1_size : GoodIn wsX2_look wsX1_size := goodIn_r _ [10, 11, 93, 94, 95, 96] (by decide +kernel) (by decide +kernel)
set_option maxRecDepth 20000 in
theorem gX2_look_X1_size : GoodIn wsX2_look (wsV RX2 62 RX1 yX1_size wsX1_size) := goodIn_app (goodIn_of _ (by decide +kernel)) ggX2_look_X1_size
set_option maxRecDepth 20000 in
theorem ggX2_look_X2_takeSide : GoodIn wsX2_look wsX2_takeSide := goodIn_r _ [16, 3, 17, 18, 4, 19, 20, 21, 22, 23, 24, 25, 26, 27, 9, 28, 29, 30, 31, 32, 33, 78, 79, 80, 81, 82, 83, 84, 85, 86, 87, 88, 89, 90, 91, 92, 93, 94, 95, 96] (by decide +kernel) (by decide +kernel)
set_option maxRecDepth 20000 in
theorem gX2_look_X2_takeSide : GoodIn wsX2_look (wsV RX2 66 RX2 yX2_takeSide wsX2_takeSide) := goodIn_app (goodIn_of _ (by decide +kernel)) ggX2_look_X2_takeSide
set_option maxRecDepth 20000 in
theorem ggX2_look_X1_isEquality : GoodIn wsX2_look wsX1_isEquality := goodIn_r _ [37, 29, 93, 94, 95, 96] (by decide +kernel) (by decide +kernel)
set_option maxRecDepth 20000 in
theorem gX2_look_X1_isEquality : GoodIn wsX2_look (wsV RX2 70 RX1 yX1_isEquality wsX1_isEquality) := goodIn_app (goodIn_of _ (by decide +kernel)) ggX2_look_X1_isEquality
set_option maxRecDepth 20000 in
theorem ggX2_look_X2_tryWord : GoodIn wsX2_look wsX2_tryWord := goodIn_r _ [41, 42, 43, 5, 44, 45, 46, 15, 47, 24, 17, 23, 18, 48, 49, 50, 51, 52, 53, 54, 55, 56, 57, 58, 59, 60, 2, 61, 62, 63, 64, 65, 21, 66, 67, 68, 69, 70, 71, 72, 73, 1, 74, 75, 76, 77, 38, 39, 40, 78, 79, 80, 81, 82, 83, 84, 85, 86, 87, 88, 89, 90, 91, 92] (by decide +kernel) (by decide +kernel)
set_option maxRecDepth 20000 in
theorem gX2_look_X2_tryWord : GoodIn wsX2_look (wsV RX2 74 RX2 yX2_tryWord wsX2_tryWord) := goodIn_app (goodIn_of _ (by decide +kernel)) ggX2_look_X2_tryWord
theorem dX2_look_0 : decode cX2_look 0 = .ok (.aload_n 0, 1) := by decide +kernel
theorem dX2_look_1 : decode cX2_look 1 = .ok (.iload_n 1, 1) := by decide +kernel
theorem dX2_look_2 : decode cX2_look 2 = .ok (.putfield 58, 3) := by decide +kernel
theorem dX2_look_5 : decode cX2_look 5 = .ok (.aload_n 0, 1) := by decide +kernel
theorem dX2_look_6 : decode cX2_look 6 = .ok (.iconst 0, 1) := by decide +kernel
theorem dX2_look_7 : decode cX2_look 7 = .ok (.putfield 55, 3) := by decide +kernel
theorem dX2_look_10 : decode cX2_look 10 = .ok (.aload_n 0, 1) := by decide +kernel
theorem dX2_look_11 : decode cX2_look 11 = .ok (.iconst 0, 1) := by decide +kernel
theorem dX2_look_12 : decode cX2_look 12 = .ok (.putfield 51, 3) := by decide +kernel
theorem dX2_look_15 : decode cX2_look 15 = .ok (.aload_n 0, 1) := by decide +kernel
theorem dX2_look_16 : decode cX2_look 16 = .ok (.getfield 11, 3) := by decide +kernel
theorem dX2_look_19 : decode cX2_look 19 = .ok (.invokevirtual 62, 3) := by decide +kernel
theorem dX2_look_22 : decode cX2_look 22 = .ok (.istore_n 2, 1) := by decide +kernel
theorem dX2_look_23 : decode cX2_look 23 = .ok (.iconst 0, 1) := by decide +kernel
theorem dX2_look_24 : decode cX2_look 24 = .ok (.istore_n 3, 1) := by decide +kernel
theorem dX2_look_25 : decode cX2_look 25 = .ok (.iload_n 3, 1) := by decide +kernel
theorem dX2_look_26 : decode cX2_look 26 = .ok (.iload_n 2, 1) := by decide +kernel
theorem dX2_look_27 : decode cX2_look 27 = .ok (.if_icmp .ge 32, 3) := by decide +kernel
theorem dX2_look_30 : decode cX2_look 30 = .ok (.aload_n 0, 1) := by decide +kernel
theorem dX2_look_31 : decode cX2_look 31 = .ok (.iload_n 3, 1) := by decide +kernel
theorem dX2_look_32 : decode cX2_look 32 = .ok (.iconst 1, 1) := by decide +kernel
theorem dX2_look_33 : decode cX2_look 33 = .ok (.invokevirtual 66, 3) := by decide +kernel
theorem dX2_look_36 : decode cX2_look 36 = .ok (.aload_n 0, 1) := by decide +kernel
theorem dX2_look_37 : decode cX2_look 37 = .ok (.getfield 11, 3) := by decide +kernel
theorem dX2_look_40 : decode cX2_look 40 = .ok (.iload_n 3, 1) := by decide +kernel
theorem dX2_look_41 : decode cX2_look 41 = .ok (.invokevirtual 70, 3) := by decide +kernel
theorem dX2_look_44 : decode cX2_look 44 = .ok (.ifCond .eq 9, 3) := by decide +kernel
theorem dX2_look_47 : decode cX2_look 47 = .ok (.aload_n 0, 1) := by decide +kernel
theorem dX2_look_48 : decode cX2_look 48 = .ok (.iload_n 3, 1) := by decide +kernel
theorem dX2_look_49 : decode cX2_look 49 = .ok (.iconst (-1), 1) := by decide +kernel
theorem dX2_look_50 : decode cX2_look 50 = .ok (.invokevirtual 66, 3) := by decide +kernel
theorem dX2_look_53 : decode cX2_look 53 = .ok (.iinc 3 1, 3) := by decide +kernel
theorem dX2_look_56 : decode cX2_look 56 = .ok (.goto (-31), 3) := by decide +kernel
theorem dX2_look_59 : decode cX2_look 59 = .ok (.aload_n 0, 1) := by decide +kernel
theorem dX2_look_60 : decode cX2_look 60 = .ok (.getfield 30, 3) := by decide +kernel
theorem dX2_look_63 : decode cX2_look 63 = .ok (.iconst 0, 1) := by decide +kernel
theorem dX2_look_64 : decode cX2_look 64 = .ok (.aload_n 0, 1) := by decide +kernel
theorem dX2_look_65 : decode cX2_look 65 = .ok (.getfield 51, 3) := by decide +kernel
theorem dX2_look_68 : decode cX2_look 68 = .ok (.iastore, 1) := by decide +kernel
theorem dX2_look_69 : decode cX2_look 69 = .ok (.aload_n 0, 1) := by decide +kernel
theorem dX2_look_70 : decode cX2_look 70 = .ok (.iconst 0, 1) := by decide +kernel
theorem dX2_look_71 : decode cX2_look 71 = .ok (.invokevirtual 74, 3) := by decide +kernel
theorem dX2_look_74 : decode cX2_look 74 = .ok (.return_, 1) := by decide +kernel
set_option maxRecDepth 20000 in
theorem ggX2_takeSide_X1_factor : GoodIn wsX2_takeSide wsX1_factor := goodIn_r _ [15, 16, 36, 37, 38, 39] (by decide +kernel) (by decide +kernel)
set_option maxRecDepth 20000 in
theorem gX2_takeSide_X1_factor : GoodIn wsX2_takeSide (wsV RX2 78 RX1 yX1_factor wsX1_factor) := goodIn_app (goodIn_of _ (by decide +kernel)) ggX2_takeSide_X1_factor
set_option maxRecDepth 20000 in
theorem ggX2_takeSide_X1_limit : GoodIn wsX2_takeSide wsX1_limit := goodIn_r _ [20, 16, 36, 37, 38, 39] (by decide +kernel) (by decide +kernel)
set_option maxRecDepth 20000 in
theorem gX2_takeSide_X1_limit : GoodIn wsX2_takeSide (wsV RX2 87 RX1 yX1_limit wsX1_limit) := goodIn_app (goodIn_of _ (by decide +kernel)) ggX2_takeSide_X1_limit
theorem dX2_takeSide_0 : decode cX2_takeSide 0 = .ok (.aload_n 0, 1) := by decide +kernel
theorem dX2_takeSide_1 : decode cX2_takeSide 1 = .ok (.getfield 51, 3) := by decide +kernel
theorem dX2_takeSide_4 : decode cX2_takeSide 4 = .ok (.bipush 32, 2) := by decide +kernel
theorem dX2_takeSide_6 : decode cX2_takeSide 6 = .ok (.if_icmp .lt 4, 3) := by decide +kernel
theorem dX2_takeSide_9 : decode cX2_takeSide 9 = .ok (.return_, 1) := by decide +kernel
theorem dX2_takeSide_10 : decode cX2_takeSide 10 = .ok (.aload_n 0, 1) := by decide +kernel
theorem dX2_takeSide_11 : decode cX2_takeSide 11 = .ok (.getfield 21, 3) := by decide +kernel
theorem dX2_takeSide_14 : decode cX2_takeSide 14 = .ok (.sipush 128, 3) := by decide +kernel
theorem dX2_takeSide_17 : decode cX2_takeSide 17 = .ok (.aload_n 0, 1) := by decide +kernel
theorem dX2_takeSide_18 : decode cX2_takeSide 18 = .ok (.getfield 51, 3) := by decide +kernel
theorem dX2_takeSide_21 : decode cX2_takeSide 21 = .ok (.iadd, 1) := by decide +kernel
theorem dX2_takeSide_22 : decode cX2_takeSide 22 = .ok (.iconst 0, 1) := by decide +kernel
theorem dX2_takeSide_23 : decode cX2_takeSide 23 = .ok (.iastore, 1) := by decide +kernel
theorem dX2_takeSide_24 : decode cX2_takeSide 24 = .ok (.iconst 3, 1) := by decide +kernel
theorem dX2_takeSide_25 : decode cX2_takeSide 25 = .ok (.istore_n 3, 1) := by decide +kernel
theorem dX2_takeSide_26 : decode cX2_takeSide 26 = .ok (.iload_n 3, 1) := by decide +kernel
theorem dX2_takeSide_27 : decode cX2_takeSide 27 = .ok (.ifCond .lt 69, 3) := by decide +kernel
theorem dX2_takeSide_30 : decode cX2_takeSide 30 = .ok (.iload_n 3, 1) := by decide +kernel
theorem dX2_takeSide_31 : decode cX2_takeSide 31 = .ok (.bipush 32, 2) := by decide +kernel
theorem dX2_takeSide_33 : decode cX2_takeSide 33 = .ok (.imul, 1) := by decide +kernel
theorem dX2_takeSide_34 : decode cX2_takeSide 34 = .ok (.aload_n 0, 1) := by decide +kernel
theorem dX2_takeSide_35 : decode cX2_takeSide 35 = .ok (.getfield 51, 3) := by decide +kernel
theorem dX2_takeSide_38 : decode cX2_takeSide 38 = .ok (.iadd, 1) := by decide +kernel
theorem dX2_takeSide_39 : decode cX2_takeSide 39 = .ok (.istore 4, 2) := by decide +kernel
theorem dX2_takeSide_41 : decode cX2_takeSide 41 = .ok (.aload_n 0, 1) := by decide +kernel
theorem dX2_takeSide_42 : decode cX2_takeSide 42 = .ok (.getfield 17, 3) := by decide +kernel
theorem dX2_takeSide_45 : decode cX2_takeSide 45 = .ok (.iload 4, 2) := by decide +kernel
theorem dX2_takeSide_47 : decode cX2_takeSide 47 = .ok (.iload_n 2, 1) := by decide +kernel
theorem dX2_takeSide_48 : decode cX2_takeSide 48 = .ok (.aload_n 0, 1) := by decide +kernel
theorem dX2_takeSide_49 : decode cX2_takeSide 49 = .ok (.getfield 11, 3) := by decide +kernel
theorem dX2_takeSide_52 : decode cX2_takeSide 52 = .ok (.iload_n 1, 1) := by decide +kernel
theorem dX2_takeSide_53 : decode cX2_takeSide 53 = .ok (.iload_n 3, 1) := by decide +kernel
theorem dX2_takeSide_54 : decode cX2_takeSide 54 = .ok (.invokevirtual 78, 3) := by decide +kernel
theorem dX2_takeSide_57 : decode cX2_takeSide 57 = .ok (.imul, 1) := by decide +kernel
theorem dX2_takeSide_58 : decode cX2_takeSide 58 = .ok (.iastore, 1) := by decide +kernel
theorem dX2_takeSide_59 : decode cX2_takeSide 59 = .ok (.aload_n 0, 1) := by decide +kernel
theorem dX2_takeSide_60 : decode cX2_takeSide 60 = .ok (.getfield 21, 3) := by decide +kernel
theorem dX2_takeSide_63 : decode cX2_takeSide 63 = .ok (.iload 4, 2) := by decide +kernel
theorem dX2_takeSide_65 : decode cX2_takeSide 65 = .ok (.aload_n 0, 1) := by decide +kernel
theorem dX2_takeSide_66 : decode cX2_takeSide 66 = .ok (.getfield 21, 3) := by decide +kernel
theorem dX2_takeSide_69 : decode cX2_takeSide 69 = .ok (.iload 4, 2) := by decide +kernel
theorem dX2_takeSide_71 : decode cX2_takeSide 71 = .ok (.bipush 32, 2) := by decide +kernel
theorem dX2_takeSide_73 : decode cX2_takeSide 73 = .ok (.iadd, 1) := by decide +kernel
theorem dX2_takeSide_74 : decode cX2_takeSide 74 = .ok (.iaload, 1) := by decide +kernel
theorem dX2_takeSide_75 : decode cX2_takeSide 75 = .ok (.aload_n 0, 1) := by decide +kernel
theorem dX2_takeSide_76 : decode cX2_takeSide 76 = .ok (.getfield 17, 3) := by decide +kernel
theorem dX2_takeSide_79 : decode cX2_takeSide 79 = .ok (.iload 4, 2) := by decide +kernel
theorem dX2_takeSide_81 : decode cX2_takeSide 81 = .ok (.iaload, 1) := by decide +kernel
theorem dX2_takeSide_82 : decode cX2_takeSide 82 = .ok (.invokestatic 81, 3) := by decide +kernel
theorem dX2_takeSide_85 : decode cX2_takeSide 85 = .ok (.bipush 15, 2) := by decide +kernel
theorem dX2_takeSide_87 : decode cX2_takeSide 87 = .ok (.imul, 1) := by decide +kernel
theorem dX2_takeSide_88 : decode cX2_takeSide 88 = .ok (.iadd, 1) := by decide +kernel
theorem dX2_takeSide_89 : decode cX2_takeSide 89 = .ok (.iastore, 1) := by decide +kernel
theorem dX2_takeSide_90 : decode cX2_takeSide 90 = .ok (.iinc 3 (-1), 3) := by decide +kernel
theorem dX2_takeSide_93 : decode cX2_takeSide 93 = .ok (.goto (-67), 3) := by decide +kernel
theorem dX2_takeSide_96 : decode cX2_takeSide 96 = .ok (.aload_n 0, 1) := by decide +kernel
theorem dX2_takeSide_97 : decode cX2_takeSide 97 = .ok (.getfield 24, 3) := by decide +kernel
theorem dX2_takeSide_100 : decode cX2_takeSide 100 = .ok (.aload_n 0, 1) := by decide +kernel
theorem dX2_takeSide_101 : decode cX2_takeSide 101 = .ok (.getfield 51, 3) := by decide +kernel
theorem dX2_takeSide_104 : decode cX2_takeSide 104 = .ok (.iload_n 2, 1) := by decide +kernel
theorem dX2_takeSide_105 : decode cX2_takeSide 105 = .ok (.aload_n 0, 1) := by decide +kernel
theorem dX2_takeSide_106 : decode cX2_takeSide 106 = .ok (.getfield 11, 3) := by decide +kernel
theorem dX2_takeSide_109 : decode cX2_takeSide 109 = .ok (.iload_n 1, 1) := by decide +kernel
theorem dX2_takeSide_110 : decode cX2_takeSide 110 = .ok (.invokevirtual 87, 3) := by decide +kernel
theorem dX2_takeSide_113 : decode cX2_takeSide 113 = .ok (.imul, 1) := by decide +kernel
theorem dX2_takeSide_114 : decode cX2_takeSide 114 = .ok (.iastore, 1) := by decide +kernel
theorem dX2_takeSide_115 : decode cX2_takeSide 115 = .ok (.aload_n 0, 1) := by decide +kernel
theorem dX2_takeSide_116 : decode cX2_takeSide 116 = .ok (.getfield 27, 3) := by decide +kernel
theorem dX2_takeSide_119 : decode cX2_takeSide 119 = .ok (.aload_n 0, 1) := by decide +kernel
theorem dX2_takeSide_120 : decode cX2_takeSide 120 = .ok (.getfield 51, 3) := by decide +kernel
theorem dX2_takeSide_123 : decode cX2_takeSide 123 = .ok (.aload_n 0, 1) := by decide +kernel
theorem dX2_takeSide_124 : decode cX2_takeSide 124 = .ok (.getfield 51, 3) := by decide +kernel
theorem dX2_takeSide_127 : decode cX2_takeSide 127 = .ok (.iastore, 1) := by decide +kernel
theorem dX2_takeSide_128 : decode cX2_takeSide 128 = .ok (.aload_n 0, 1) := by decide +kernel
theorem dX2_takeSide_129 : decode cX2_takeSide 129 = .ok (.dup, 1) := by decide +kernel
theorem dX2_takeSide_130 : decode cX2_takeSide 130 = .ok (.getfield 51, 3) := by decide +kernel
theorem dX2_takeSide_133 : decode cX2_takeSide 133 = .ok (.iconst 1, 1) := by decide +kernel
theorem dX2_takeSide_134 : decode cX2_takeSide 134 = .ok (.iadd, 1) := by decide +kernel
theorem dX2_takeSide_135 : decode cX2_takeSide 135 = .ok (.putfield 51, 3) := by decide +kernel
theorem dX2_takeSide_138 : decode cX2_takeSide 138 = .ok (.return_, 1) := by decide +kernel
set_option maxRecDepth 20000 in
theorem ggX2_tryWord_X2_narrow : GoodIn wsX2_tryWord wsX2_narrow := goodIn_r _ [8, 1, 2, 3, 9, 10, 11, 12, 13, 14, 15, 7, 16, 17, 18, 19, 20, 49, 50, 51, 52, 53, 54, 55, 56, 57, 58, 59, 60, 61, 62, 63] (by decide +kernel) (by decide +kernel)
set_option maxRecDepth 20000 in
theorem gX2_tryWord_X2_narrow : GoodIn wsX2_tryWord (wsV RX2 90 RX2 yX2_narrow wsX2_narrow) := goodIn_app (goodIn_of _ (by decide +kernel)) ggX2_tryWord_X2_narrow
set_option maxRecDepth 20000 in
theorem ggX2_tryWord_X2_noteSolutions : GoodIn wsX2_tryWord wsX2_noteSolutions := goodIn_r _ [24, 25, 1, 2, 26, 27, 28, 29, 30, 31, 32, 33, 34, 35, 36, 49, 50, 51, 52, 53, 54, 55, 56, 57, 58, 59, 60, 61, 62, 63] (by decide +kernel) (by decide +kernel)
set_option maxRecDepth 20000 in
theorem gX2_tryWord_X2_noteSolutions : GoodIn wsX2_tryWord (wsV RX2 93 RX2 yX2_noteSolutions wsX2_noteSolutions) := goodIn_app (goodIn_of _ (by decide +kernel)) ggX2_tryWord_X2_noteSolutions
set_option maxRecDepth 20000 in
theorem ggX2_tryWord_X2_isEnough : GoodIn wsX2_tryWord wsX2_isEnough := goodIn_r _ [40, 41, 26, 49, 50, 51, 52, 53, 54, 55, 56, 57, 58, 59, 60, 61, 62, 63] (by decide +kernel) (by decide +kernel)
set_option maxRecDepth 20000 in
theorem gX2_tryWord_X2_isEnough : GoodIn wsX2_tryWord (wsV RX2 96 RX2 yX2_isEnough wsX2_isEnough) := goodIn_app (goodIn_of _ (by decide +kernel)) ggX2_tryWord_X2_isEnough
set_option maxRecDepth 20000 in
theorem ggX2_tryWord_X2_setWord : GoodIn wsX2_tryWord wsX2_setWord := goodIn_r _ [45, 25, 3, 9, 11, 12, 49, 50, 51, 52, 53, 54, 55, 56, 57, 58, 59, 60, 61, 62, 63] (by decide +kernel) (by decide +kernel)
set_option maxRecDepth 20000 in
theorem gX2_tryWord_X2_setWord : GoodIn wsX2_tryWord (wsV RX2 100 RX2 yX2_setWord wsX2_setWord) := goodIn_app (goodIn_of _ (by decide +kernel)) ggX2_tryWord_X2_setWord
set_option maxRecDepth 20000 in
theorem ggX2_tryWord_X2_tryWord : GoodIn wsX2_tryWord wsX2_tryWord := goodIn_r _ [0, 1, 2, 3, 4, 5, 6, 7, 8, 9, 10, 11, 12, 13, 14, 15, 16, 17, 18, 19, 20, 21, 22, 23, 24, 25, 26, 27, 28, 29, 30, 31, 32, 33, 34, 35, 36, 37, 38, 39, 40, 41, 42, 43, 44, 45, 46, 47, 48, 49, 50, 51, 52, 53, 54, 55, 56, 57, 58, 59, 60, 61, 62, 63] (by decide +kernel) (by decide +kernel)
set_option maxRecDepth 20000 in
theorem gX2_tryWord_X2_tryWord : GoodIn wsX2_tryWord (wsV RX2 74 RX2 yX2_tryWord wsX2_tryWord) := goodIn_app (goodIn_of _ (by decide +kernel)) ggX2_tryWord_X2_tryWord
theorem dX2_tryWord_0 : decode cX2_tryWord 0 = .ok (.iload_n 1, 1) := by decide +kernel
theorem dX2_tryWord_1 : decode cX2_tryWord 1 = .ok (.ifCond .lt 8, 3) := by decide +kernel
theorem dX2_tryWord_4 : decode cX2_tryWord 4 = .ok (.iload_n 1, 1) := by decide +kernel
theorem dX2_tryWord_5 : decode cX2_tryWord 5 = .ok (.iconst 4, 1) := by decide +kernel
theorem dX2_tryWord_6 : decode cX2_tryWord 6 = .ok (.if_icmp .lt 4, 3) := by decide +kernel
theorem dX2_tryWord_9 : decode cX2_tryWord 9 = .ok (.return_, 1) := by decide +kernel
theorem dX2_tryWord_10 : decode cX2_tryWord 10 = .ok (.aload_n 0, 1) := by decide +kernel
theorem dX2_tryWord_11 : decode cX2_tryWord 11 = .ok (.iload_n 1, 1) := by decide +kernel
theorem dX2_tryWord_12 : decode cX2_tryWord 12 = .ok (.invokevirtual 90, 3) := by decide +kernel
theorem dX2_tryWord_15 : decode cX2_tryWord 15 = .ok (.aload_n 0, 1) := by decide +kernel
theorem dX2_tryWord_16 : decode cX2_tryWord 16 = .ok (.getfield 33, 3) := by decide +kernel
theorem dX2_tryWord_19 : decode cX2_tryWord 19 = .ok (.iload_n 1, 1) := by decide +kernel
theorem dX2_tryWord_20 : decode cX2_tryWord 20 = .ok (.iaload, 1) := by decide +kernel
theorem dX2_tryWord_21 : decode cX2_tryWord 21 = .ok (.aload_n 0, 1) := by decide +kernel
theorem dX2_tryWord_22 : decode cX2_tryWord 22 = .ok (.getfield 36, 3) := by decide +kernel
theorem dX2_tryWord_25 : decode cX2_tryWord 25 = .ok (.iload_n 1, 1) := by decide +kernel
theorem dX2_tryWord_26 : decode cX2_tryWord 26 = .ok (.iaload, 1) := by decide +kernel
theorem dX2_tryWord_27 : decode cX2_tryWord 27 = .ok (.if_icmp .le 4, 3) := by decide +kernel
theorem dX2_tryWord_30 : decode cX2_tryWord 30 = .ok (.return_, 1) := by decide +kernel
theorem dX2_tryWord_31 : decode cX2_tryWord 31 = .ok (.iload_n 1, 1) := by decide +kernel
theorem dX2_tryWord_32 : decode cX2_tryWord 32 = .ok (.iconst 3, 1) := by decide +kernel
theorem dX2_tryWord_33 : decode cX2_tryWord 33 = .ok (.if_icmp .eq 14, 3) := by decide +kernel
theorem dX2_tryWord_36 : decode cX2_tryWord 36 = .ok (.aload_n 0, 1) := by decide +kernel
theorem dX2_tryWord_37 : decode cX2_tryWord 37 = .ok (.getfield 30, 3) := by decide +kernel
theorem dX2_tryWord_40 : decode cX2_tryWord 40 = .ok (.iload_n 1, 1) := by decide +kernel
theorem dX2_tryWord_41 : decode cX2_tryWord 41 = .ok (.iconst 1, 1) := by decide +kernel
theorem dX2_tryWord_42 : decode cX2_tryWord 42 = .ok (.iadd, 1) := by decide +kernel
theorem dX2_tryWord_43 : decode cX2_tryWord 43 = .ok (.iaload, 1) := by decide +kernel
theorem dX2_tryWord_44 : decode cX2_tryWord 44 = .ok (.ifCond .ne 9, 3) := by decide +kernel
theorem dX2_tryWord_47 : decode cX2_tryWord 47 = .ok (.aload_n 0, 1) := by decide +kernel
theorem dX2_tryWord_48 : decode cX2_tryWord 48 = .ok (.iload_n 1, 1) := by decide +kernel
theorem dX2_tryWord_49 : decode cX2_tryWord 49 = .ok (.invokevirtual 93, 3) := by decide +kernel
theorem dX2_tryWord_52 : decode cX2_tryWord 52 = .ok (.return_, 1) := by decide +kernel
theorem dX2_tryWord_53 : decode cX2_tryWord 53 = .ok (.aload_n 0, 1) := by decide +kernel
theorem dX2_tryWord_54 : decode cX2_tryWord 54 = .ok (.getfield 36, 3) := by decide +kernel
theorem dX2_tryWord_57 : decode cX2_tryWord 57 = .ok (.iload_n 1, 1) := by decide +kernel
theorem dX2_tryWord_58 : decode cX2_tryWord 58 = .ok (.iaload, 1) := by decide +kernel
theorem dX2_tryWord_59 : decode cX2_tryWord 59 = .ok (.istore_n 2, 1) := by decide +kernel
theorem dX2_tryWord_60 : decode cX2_tryWord 60 = .ok (.aload_n 0, 1) := by decide +kernel
theorem dX2_tryWord_61 : decode cX2_tryWord 61 = .ok (.getfield 33, 3) := by decide +kernel
theorem dX2_tryWord_64 : decode cX2_tryWord 64 = .ok (.iload_n 1, 1) := by decide +kernel
theorem dX2_tryWord_65 : decode cX2_tryWord 65 = .ok (.iaload, 1) := by decide +kernel
theorem dX2_tryWord_66 : decode cX2_tryWord 66 = .ok (.istore_n 3, 1) := by decide +kernel
theorem dX2_tryWord_67 : decode cX2_tryWord 67 = .ok (.iload_n 3, 1) := by decide +kernel
theorem dX2_tryWord_68 : decode cX2_tryWord 68 = .ok (.iload_n 2, 1) := by decide +kernel
theorem dX2_tryWord_69 : decode cX2_tryWord 69 = .ok (.if_icmp .gt 29, 3) := by decide +kernel
theorem dX2_tryWord_72 : decode cX2_tryWord 72 = .ok (.aload_n 0, 1) := by decide +kernel
theorem dX2_tryWord_73 : decode cX2_tryWord 73 = .ok (.invokevirtual 96, 3) := by decide +kernel
theorem dX2_tryWord_76 : decode cX2_tryWord 76 = .ok (.ifCond .ne 22, 3) := by decide +kernel
theorem dX2_tryWord_79 : decode cX2_tryWord 79 = .ok (.aload_n 0, 1) := by decide +kernel
theorem dX2_tryWord_80 : decode cX2_tryWord 80 = .ok (.iload_n 1, 1) := by decide +kernel
theorem dX2_tryWord_81 : decode cX2_tryWord 81 = .ok (.iload_n 3, 1) := by decide +kernel
theorem dX2_tryWord_82 : decode cX2_tryWord 82 = .ok (.invokevirtual 100, 3) := by decide +kernel
theorem dX2_tryWord_85 : decode cX2_tryWord 85 = .ok (.aload_n 0, 1) := by decide +kernel
theorem dX2_tryWord_86 : decode cX2_tryWord 86 = .ok (.iload_n 1, 1) := by decide +kernel
theorem dX2_tryWord_87 : decode cX2_tryWord 87 = .ok (.iconst 1, 1) := by decide +kernel
theorem dX2_tryWord_88 : decode cX2_tryWord 88 = .ok (.iadd, 1) := by decide +kernel
theorem dX2_tryWord_89 : decode cX2_tryWord 89 = .ok (.invokevirtual 74, 3) := by decide +kernel
theorem dX2_tryWord_92 : decode cX2_tryWord 92 = .ok (.iinc 3 1, 3) := by decide +kernel
theorem dX2_tryWord_95 : decode cX2_tryWord 95 = .ok (.goto (-28), 3) := by decide +kernel
theorem dX2_tryWord_98 : decode cX2_tryWord 98 = .ok (.return_, 1) := by decide +kernel
theorem dX2_isEnough_0 : decode cX2_isEnough 0 = .ok (.aload_n 0, 1) := by decide +kernel
theorem dX2_isEnough_1 : decode cX2_isEnough 1 = .ok (.getfield 58, 3) := by decide +kernel
theorem dX2_isEnough_4 : decode cX2_isEnough 4 = .ok (.ifCond .eq 14, 3) := by decide +kernel
theorem dX2_isEnough_7 : decode cX2_isEnough 7 = .ok (.aload_n 0, 1) := by decide +kernel
theorem dX2_isEnough_8 : decode cX2_isEnough 8 = .ok (.getfield 55, 3) := by decide +kernel
theorem dX2_isEnough_11 : decode cX2_isEnough 11 = .ok (.ifCond .le 7, 3) := by decide +kernel
theorem dX2_isEnough_14 : decode cX2_isEnough 14 = .ok (.iconst 1, 1) := by decide +kernel
theorem dX2_isEnough_15 : decode cX2_isEnough 15 = .ok (.goto 4, 3) := by decide +kernel
theorem dX2_isEnough_18 : decode cX2_isEnough 18 = .ok (.iconst 0, 1) := by decide +kernel
theorem dX2_isEnough_19 : decode cX2_isEnough 19 = .ok (.ireturn, 1) := by decide +kernel
set_option maxRecDepth 20000 in
theorem ggX2_narrow_X2_keepAtMost : GoodIn wsX2_narrow wsX2_keepAtMost := goodIn_r _ [12, 2, 1, 13, 14, 15, 16, 17, 18, 19, 20, 21, 22, 23, 24, 25, 26, 27, 28, 29, 30, 31] (by decide +kernel) (by decide +kernel)
set_option maxRecDepth 20000 in
theorem gX2_narrow_X2_keepAtMost : GoodIn wsX2_narrow (wsV RX2 103 RX2 yX2_keepAtMost wsX2_keepAtMost) := goodIn_app (goodIn_of _ (by decide +kernel)) ggX2_narrow_X2_keepAtMost
theorem dX2_narrow_0 : decode cX2_narrow 0 = .ok (.aload_n 0, 1) := by decide +kernel
theorem dX2_narrow_1 : decode cX2_narrow 1 = .ok (.getfield 33, 3) := by decide +kernel
theorem dX2_narrow_4 : decode cX2_narrow 4 = .ok (.iload_n 1, 1) := by decide +kernel
theorem dX2_narrow_5 : decode cX2_narrow 5 = .ok (.bipush (-15), 2) := by decide +kernel
theorem dX2_narrow_7 : decode cX2_narrow 7 = .ok (.iastore, 1) := by decide +kernel
theorem dX2_narrow_8 : decode cX2_narrow 8 = .ok (.aload_n 0, 1) := by decide +kernel
theorem dX2_narrow_9 : decode cX2_narrow 9 = .ok (.getfield 36, 3) := by decide +kernel
theorem dX2_narrow_12 : decode cX2_narrow 12 = .ok (.iload_n 1, 1) := by decide +kernel
theorem dX2_narrow_13 : decode cX2_narrow 13 = .ok (.bipush 15, 2) := by decide +kernel
theorem dX2_narrow_15 : decode cX2_narrow 15 = .ok (.iastore, 1) := by decide +kernel
theorem dX2_narrow_16 : decode cX2_narrow 16 = .ok (.aload_n 0, 1) := by decide +kernel
theorem dX2_narrow_17 : decode cX2_narrow 17 = .ok (.getfield 30, 3) := by decide +kernel
theorem dX2_narrow_20 : decode cX2_narrow 20 = .ok (.iload_n 1, 1) := by decide +kernel
theorem dX2_narrow_21 : decode cX2_narrow 21 = .ok (.iaload, 1) := by decide +kernel
theorem dX2_narrow_22 : decode cX2_narrow 22 = .ok (.istore_n 2, 1) := by decide +kernel
theorem dX2_narrow_23 : decode cX2_narrow 23 = .ok (.iconst 0, 1) := by decide +kernel
theorem dX2_narrow_24 : decode cX2_narrow 24 = .ok (.istore_n 3, 1) := by decide +kernel
theorem dX2_narrow_25 : decode cX2_narrow 25 = .ok (.iconst 0, 1) := by decide +kernel
theorem dX2_narrow_26 : decode cX2_narrow 26 = .ok (.istore 4, 2) := by decide +kernel
theorem dX2_narrow_28 : decode cX2_narrow 28 = .ok (.iload 4, 2) := by decide +kernel
theorem dX2_narrow_30 : decode cX2_narrow 30 = .ok (.iload_n 2, 1) := by decide +kernel
theorem dX2_narrow_31 : decode cX2_narrow 31 = .ok (.if_icmp .ge 112, 3) := by decide +kernel
theorem dX2_narrow_34 : decode cX2_narrow 34 = .ok (.aload_n 0, 1) := by decide +kernel
theorem dX2_narrow_35 : decode cX2_narrow 35 = .ok (.getfield 33, 3) := by decide +kernel
theorem dX2_narrow_38 : decode cX2_narrow 38 = .ok (.iload_n 1, 1) := by decide +kernel
theorem dX2_narrow_39 : decode cX2_narrow 39 = .ok (.iaload, 1) := by decide +kernel
theorem dX2_narrow_40 : decode cX2_narrow 40 = .ok (.aload_n 0, 1) := by decide +kernel
theorem dX2_narrow_41 : decode cX2_narrow 41 = .ok (.getfield 36, 3) := by decide +kernel
theorem dX2_narrow_44 : decode cX2_narrow 44 = .ok (.iload_n 1, 1) := by decide +kernel
theorem dX2_narrow_45 : decode cX2_narrow 45 = .ok (.iaload, 1) := by decide +kernel
theorem dX2_narrow_46 : decode cX2_narrow 46 = .ok (.if_icmp .gt 97, 3) := by decide +kernel
theorem dX2_narrow_49 : decode cX2_narrow 49 = .ok (.aload_n 0, 1) := by decide +kernel
theorem dX2_narrow_50 : decode cX2_narrow 50 = .ok (.getfield 27, 3) := by decide +kernel
theorem dX2_narrow_53 : decode cX2_narrow 53 = .ok (.iload_n 1, 1) := by decide +kernel
theorem dX2_narrow_54 : decode cX2_narrow 54 = .ok (.bipush 32, 2) := by decide +kernel
theorem dX2_narrow_56 : decode cX2_narrow 56 = .ok (.imul, 1) := by decide +kernel
theorem dX2_narrow_57 : decode cX2_narrow 57 = .ok (.iload 4, 2) := by decide +kernel
theorem dX2_narrow_59 : decode cX2_narrow 59 = .ok (.iadd, 1) := by decide +kernel
theorem dX2_narrow_60 : decode cX2_narrow 60 = .ok (.iaload, 1) := by decide +kernel
theorem dX2_narrow_61 : decode cX2_narrow 61 = .ok (.istore 5, 2) := by decide +kernel
theorem dX2_narrow_63 : decode cX2_narrow 63 = .ok (.iload_n 1, 1) := by decide +kernel
theorem dX2_narrow_64 : decode cX2_narrow 64 = .ok (.bipush 32, 2) := by decide +kernel
theorem dX2_narrow_66 : decode cX2_narrow 66 = .ok (.imul, 1) := by decide +kernel
theorem dX2_narrow_67 : decode cX2_narrow 67 = .ok (.iload 5, 2) := by decide +kernel
theorem dX2_narrow_69 : decode cX2_narrow 69 = .ok (.iadd, 1) := by decide +kernel
theorem dX2_narrow_70 : decode cX2_narrow 70 = .ok (.istore 6, 2) := by decide +kernel
theorem dX2_narrow_72 : decode cX2_narrow 72 = .ok (.aload_n 0, 1) := by decide +kernel
theorem dX2_narrow_73 : decode cX2_narrow 73 = .ok (.getfield 21, 3) := by decide +kernel
theorem dX2_narrow_76 : decode cX2_narrow 76 = .ok (.iload 6, 2) := by decide +kernel
theorem dX2_narrow_78 : decode cX2_narrow 78 = .ok (.iaload, 1) := by decide +kernel
theorem dX2_narrow_79 : decode cX2_narrow 79 = .ok (.aload_n 0, 1) := by decide +kernel
theorem dX2_narrow_80 : decode cX2_narrow 80 = .ok (.getfield 24, 3) := by decide +kernel
theorem dX2_narrow_83 : decode cX2_narrow 83 = .ok (.iload 6, 2) := by decide +kernel
theorem dX2_narrow_85 : decode cX2_narrow 85 = .ok (.iaload, 1) := by decide +kernel
theorem dX2_narrow_86 : decode cX2_narrow 86 = .ok (.if_icmp .le 51, 3) := by decide +kernel
theorem dX2_narrow_89 : decode cX2_narrow 89 = .ok (.aload_n 0, 1) := by decide +kernel
theorem dX2_narrow_90 : decode cX2_narrow 90 = .ok (.iload_n 1, 1) := by decide +kernel
theorem dX2_narrow_91 : decode cX2_narrow 91 = .ok (.aload_n 0, 1) := by decide +kernel
theorem dX2_narrow_92 : decode cX2_narrow 92 = .ok (.getfield 17, 3) := by decide +kernel
theorem dX2_narrow_95 : decode cX2_narrow 95 = .ok (.iload 6, 2) := by decide +kernel
theorem dX2_narrow_97 : decode cX2_narrow 97 = .ok (.iaload, 1) := by decide +kernel
theorem dX2_narrow_98 : decode cX2_narrow 98 = .ok (.aload_n 0, 1) := by decide +kernel
theorem dX2_narrow_99 : decode cX2_narrow 99 = .ok (.getfield 24, 3) := by decide +kernel
theorem dX2_narrow_102 : decode cX2_narrow 102 = .ok (.iload 6, 2) := by decide +kernel
theorem dX2_narrow_104 : decode cX2_narrow 104 = .ok (.iaload, 1) := by decide +kernel
theorem dX2_narrow_105 : decode cX2_narrow 105 = .ok (.aload_n 0, 1) := by decide +kernel
theorem dX2_narrow_106 : decode cX2_narrow 106 = .ok (.getfield 21, 3) := by decide +kernel
theorem dX2_narrow_109 : decode cX2_narrow 109 = .ok (.iload 6, 2) := by decide +kernel
theorem dX2_narrow_111 : decode cX2_narrow 111 = .ok (.bipush 32, 2) := by decide +kernel
theorem dX2_narrow_113 : decode cX2_narrow 113 = .ok (.iadd, 1) := by decide +kernel
theorem dX2_narrow_114 : decode cX2_narrow 114 = .ok (.iaload, 1) := by decide +kernel
theorem dX2_narrow_115 : decode cX2_narrow 115 = .ok (.iadd, 1) := by decide +kernel
theorem dX2_narrow_116 : decode cX2_narrow 116 = .ok (.invokevirtual 103, 3) := by decide +kernel
theorem dX2_narrow_119 : decode cX2_narrow 119 = .ok (.aload_n 0, 1) := by decide +kernel
theorem dX2_narrow_120 : decode cX2_narrow 120 = .ok (.getfield 27, 3) := by decide +kernel
theorem dX2_narrow_123 : decode cX2_narrow 123 = .ok (.iload_n 1, 1) := by decide +kernel
theorem dX2_narrow_124 : decode cX2_narrow 124 = .ok (.iconst 1, 1) := by decide +kernel
theorem dX2_narrow_125 : decode cX2_narrow 125 = .ok (.iadd, 1) := by decide +kernel
theorem dX2_narrow_126 : decode cX2_narrow 126 = .ok (.bipush 32, 2) := by decide +kernel
theorem dX2_narrow_128 : decode cX2_narrow 128 = .ok (.imul, 1) := by decide +kernel
theorem dX2_narrow_129 : decode cX2_narrow 129 = .ok (.iload_n 3, 1) := by decide +kernel
theorem dX2_narrow_130 : decode cX2_narrow 130 = .ok (.iadd, 1) := by decide +kernel
theorem dX2_narrow_131 : decode cX2_narrow 131 = .ok (.iload 5, 2) := by decide +kernel
theorem dX2_narrow_133 : decode cX2_narrow 133 = .ok (.iastore, 1) := by decide +kernel
theorem dX2_narrow_134 : decode cX2_narrow 134 = .ok (.iinc 3 1, 3) := by decide +kernel
theorem dX2_narrow_137 : decode cX2_narrow 137 = .ok (.iinc 4 1, 3) := by decide +kernel
theorem dX2_narrow_140 : decode cX2_narrow 140 = .ok (.goto (-112), 3) := by decide +kernel
theorem dX2_narrow_143 : decode cX2_narrow 143 = .ok (.aload_n 0, 1) := by decide +kernel
theorem dX2_narrow_144 : decode cX2_narrow 144 = .ok (.getfield 30, 3) := by decide +kernel
theorem dX2_narrow_147 : decode cX2_narrow 147 = .ok (.iload_n 1, 1) := by decide +kernel
theorem dX2_narrow_148 : decode cX2_narrow 148 = .ok (.iconst 1, 1) := by decide +kernel
theorem dX2_narrow_149 : decode cX2_narrow 149 = .ok (.iadd, 1) := by decide +kernel
theorem dX2_narrow_150 : decode cX2_narrow 150 = .ok (.iload_n 3, 1) := by decide +kernel
theorem dX2_narrow_151 : decode cX2_narrow 151 = .ok (.iastore, 1) := by decide +kernel
theorem dX2_narrow_152 : decode cX2_narrow 152 = .ok (.return_, 1) := by decide +kernel
set_option maxRecDepth 20000 in
theorem ggX2_keepAtMost_J9_floorDiv_7cf53 : GoodIn wsX2_keepAtMost wsJ9_floorDiv_7cf53 := goodIn_r _ [6] (by decide +kernel) (by decide +kernel)
set_option maxRecDepth 20000 in
theorem gX2_keepAtMost_J9_floorDiv_7cf53 : GoodIn wsX2_keepAtMost (va_wsS RX2 107 yJ9_floorDiv_7cf53 wsJ9_floorDiv_7cf53) := goodIn_app (goodIn_of _ (by decide +kernel)) ggX2_keepAtMost_J9_floorDiv_7cf53
theorem dX2_keepAtMost_0 : decode cX2_keepAtMost 0 = .ok (.iload_n 2, 1) := by decide +kernel
theorem dX2_keepAtMost_1 : decode cX2_keepAtMost 1 = .ok (.ifCond .le 29, 3) := by decide +kernel
theorem dX2_keepAtMost_4 : decode cX2_keepAtMost 4 = .ok (.iload_n 2, 1) := by decide +kernel
theorem dX2_keepAtMost_5 : decode cX2_keepAtMost 5 = .ok (.aload_n 0, 1) := by decide +kernel
theorem dX2_keepAtMost_6 : decode cX2_keepAtMost 6 = .ok (.getfield 36, 3) := by decide +kernel
theorem dX2_keepAtMost_9 : decode cX2_keepAtMost 9 = .ok (.iload_n 1, 1) := by decide +kernel
theorem dX2_keepAtMost_10 : decode cX2_keepAtMost 10 = .ok (.iaload, 1) := by decide +kernel
theorem dX2_keepAtMost_11 : decode cX2_keepAtMost 11 = .ok (.imul, 1) := by decide +kernel
theorem dX2_keepAtMost_12 : decode cX2_keepAtMost 12 = .ok (.iload_n 3, 1) := by decide +kernel
theorem dX2_keepAtMost_13 : decode cX2_keepAtMost 13 = .ok (.if_icmp .le 61, 3) := by decide +kernel
theorem dX2_keepAtMost_16 : decode cX2_keepAtMost 16 = .ok (.aload_n 0, 1) := by decide +kernel
theorem dX2_keepAtMost_17 : decode cX2_keepAtMost 17 = .ok (.getfield 36, 3) := by decide +kernel
theorem dX2_keepAtMost_20 : decode cX2_keepAtMost 20 = .ok (.iload_n 1, 1) := by decide +kernel
theorem dX2_keepAtMost_21 : decode cX2_keepAtMost 21 = .ok (.iload_n 3, 1) := by decide +kernel
theorem dX2_keepAtMost_22 : decode cX2_keepAtMost 22 = .ok (.iload_n 2, 1) := by decide +kernel
theorem dX2_keepAtMost_23 : decode cX2_keepAtMost 23 = .ok (.invokestatic 107, 3) := by decide +kernel
theorem dX2_keepAtMost_26 : decode cX2_keepAtMost 26 = .ok (.iastore, 1) := by decide +kernel
theorem dX2_keepAtMost_27 : decode cX2_keepAtMost 27 = .ok (.goto 47, 3) := by decide +kernel
theorem dX2_keepAtMost_30 : decode cX2_keepAtMost 30 = .ok (.iload_n 2, 1) := by decide +kernel
theorem dX2_keepAtMost_31 : decode cX2_keepAtMost 31 = .ok (.ifCond .ge 31, 3) := by decide +kernel
theorem dX2_keepAtMost_34 : decode cX2_keepAtMost 34 = .ok (.iload_n 2, 1) := by decide +kernel
theorem dX2_keepAtMost_35 : decode cX2_keepAtMost 35 = .ok (.aload_n 0, 1) := by decide +kernel
theorem dX2_keepAtMost_36 : decode cX2_keepAtMost 36 = .ok (.getfield 33, 3) := by decide +kernel
theorem dX2_keepAtMost_39 : decode cX2_keepAtMost 39 = .ok (.iload_n 1, 1) := by decide +kernel
theorem dX2_keepAtMost_40 : decode cX2_keepAtMost 40 = .ok (.iaload, 1) := by decide +kernel
theorem dX2_keepAtMost_41 : decode cX2_keepAtMost 41 = .ok (.imul, 1) := by decide +kernel
theorem dX2_keepAtMost_42 : decode cX2_keepAtMost 42 = .ok (.iload_n 3, 1) := by decide +kernel
theorem dX2_keepAtMost_43 : decode cX2_keepAtMost 43 = .ok (.if_icmp .le 31, 3) := by decide +kernel
theorem dX2_keepAtMost_46 : decode cX2_keepAtMost 46 = .ok (.aload_n 0, 1) := by decide +kernel
theorem dX2_keepAtMost_47 : decode cX2_keepAtMost 47 = .ok (.getfield 33, 3) := by decide +kernel
theorem dX2_keepAtMost_50 : decode cX2_keepAtMost 50 = .ok (.iload_n 1, 1) := by decide +kernel
theorem dX2_keepAtMost_51 : decode cX2_keepAtMost 51 = .ok (.iload_n 3, 1) := by decide +kernel
theorem dX2_keepAtMost_52 : decode cX2_keepAtMost 52 = .ok (.iload_n 2, 1) := by decide +kernel
theorem dX2_keepAtMost_53 : decode cX2_keepAtMost 53 = .ok (.ineg, 1) := by decide +kernel
theorem dX2_keepAtMost_54 : decode cX2_keepAtMost 54 = .ok (.invokestatic 107, 3) := by decide +kernel
theorem dX2_keepAtMost_57 : decode cX2_keepAtMost 57 = .ok (.ineg, 1) := by decide +kernel
theorem dX2_keepAtMost_58 : decode cX2_keepAtMost 58 = .ok (.iastore, 1) := by decide +kernel
theorem dX2_keepAtMost_59 : decode cX2_keepAtMost 59 = .ok (.goto 15, 3) := by decide +kernel
theorem dX2_keepAtMost_62 : decode cX2_keepAtMost 62 = .ok (.iload_n 3, 1) := by decide +kernel
theorem dX2_keepAtMost_63 : decode cX2_keepAtMost 63 = .ok (.ifCond .ge 11, 3) := by decide +kernel
theorem dX2_keepAtMost_66 : decode cX2_keepAtMost 66 = .ok (.aload_n 0, 1) := by decide +kernel
theorem dX2_keepAtMost_67 : decode cX2_keepAtMost 67 = .ok (.getfield 36, 3) := by decide +kernel
theorem dX2_keepAtMost_70 : decode cX2_keepAtMost 70 = .ok (.iload_n 1, 1) := by decide +kernel
theorem dX2_keepAtMost_71 : decode cX2_keepAtMost 71 = .ok (.bipush (-16), 2) := by decide +kernel
theorem dX2_keepAtMost_73 : decode cX2_keepAtMost 73 = .ok (.iastore, 1) := by decide +kernel
theorem dX2_keepAtMost_74 : decode cX2_keepAtMost 74 = .ok (.return_, 1) := by decide +kernel
theorem dX2_setWord_0 : decode cX2_setWord 0 = .ok (.aload_n 0, 1) := by decide +kernel
theorem dX2_setWord_1 : decode cX2_setWord 1 = .ok (.getfield 39, 3) := by decide +kernel
theorem dX2_setWord_4 : decode cX2_setWord 4 = .ok (.iload_n 1, 1) := by decide +kernel
theorem dX2_setWord_5 : decode cX2_setWord 5 = .ok (.iload_n 2, 1) := by decide +kernel
theorem dX2_setWord_6 : decode cX2_setWord 6 = .ok (.iastore, 1) := by decide +kernel
theorem dX2_setWord_7 : decode cX2_setWord 7 = .ok (.aload_n 0, 1) := by decide +kernel
theorem dX2_setWord_8 : decode cX2_setWord 8 = .ok (.getfield 30, 3) := by decide +kernel
theorem dX2_setWord_11 : decode cX2_setWord 11 = .ok (.iload_n 1, 1) := by decide +kernel
theorem dX2_setWord_12 : decode cX2_setWord 12 = .ok (.iconst 1, 1) := by decide +kernel
theorem dX2_setWord_13 : decode cX2_setWord 13 = .ok (.iadd, 1) := by decide +kernel
theorem dX2_setWord_14 : decode cX2_setWord 14 = .ok (.iaload, 1) := by decide +kernel
theorem dX2_setWord_15 : decode cX2_setWord 15 = .ok (.istore_n 3, 1) := by decide +kernel
theorem dX2_setWord_16 : decode cX2_setWord 16 = .ok (.iconst 0, 1) := by decide +kernel
theorem dX2_setWord_17 : decode cX2_setWord 17 = .ok (.istore 4, 2) := by decide +kernel
theorem dX2_setWord_19 : decode cX2_setWord 19 = .ok (.iload 4, 2) := by decide +kernel
theorem dX2_setWord_21 : decode cX2_setWord 21 = .ok (.iload_n 3, 1) := by decide +kernel
theorem dX2_setWord_22 : decode cX2_setWord 22 = .ok (.if_icmp .ge 57, 3) := by decide +kernel
theorem dX2_setWord_25 : decode cX2_setWord 25 = .ok (.iload_n 1, 1) := by decide +kernel
theorem dX2_setWord_26 : decode cX2_setWord 26 = .ok (.bipush 32, 2) := by decide +kernel
theorem dX2_setWord_28 : decode cX2_setWord 28 = .ok (.imul, 1) := by decide +kernel
theorem dX2_setWord_29 : decode cX2_setWord 29 = .ok (.aload_n 0, 1) := by decide +kernel
theorem dX2_setWord_30 : decode cX2_setWord 30 = .ok (.getfield 27, 3) := by decide +kernel
theorem dX2_setWord_33 : decode cX2_setWord 33 = .ok (.iload_n 1, 1) := by decide +kernel
theorem dX2_setWord_34 : decode cX2_setWord 34 = .ok (.iconst 1, 1) := by decide +kernel
theorem dX2_setWord_35 : decode cX2_setWord 35 = .ok (.iadd, 1) := by decide +kernel
theorem dX2_setWord_36 : decode cX2_setWord 36 = .ok (.bipush 32, 2) := by decide +kernel
theorem dX2_setWord_38 : decode cX2_setWord 38 = .ok (.imul, 1) := by decide +kernel
theorem dX2_setWord_39 : decode cX2_setWord 39 = .ok (.iload 4, 2) := by decide +kernel
theorem dX2_setWord_41 : decode cX2_setWord 41 = .ok (.iadd, 1) := by decide +kernel
theorem dX2_setWord_42 : decode cX2_setWord 42 = .ok (.iaload, 1) := by decide +kernel
theorem dX2_setWord_43 : decode cX2_setWord 43 = .ok (.iadd, 1) := by decide +kernel
theorem dX2_setWord_44 : decode cX2_setWord 44 = .ok (.istore 5, 2) := by decide +kernel
theorem dX2_setWord_46 : decode cX2_setWord 46 = .ok (.aload_n 0, 1) := by decide +kernel
theorem dX2_setWord_47 : decode cX2_setWord 47 = .ok (.getfield 24, 3) := by decide +kernel
theorem dX2_setWord_50 : decode cX2_setWord 50 = .ok (.iload 5, 2) := by decide +kernel
theorem dX2_setWord_52 : decode cX2_setWord 52 = .ok (.bipush 32, 2) := by decide +kernel
theorem dX2_setWord_54 : decode cX2_setWord 54 = .ok (.iadd, 1) := by decide +kernel
theorem dX2_setWord_55 : decode cX2_setWord 55 = .ok (.aload_n 0, 1) := by decide +kernel
theorem dX2_setWord_56 : decode cX2_setWord 56 = .ok (.getfield 24, 3) := by decide +kernel
theorem dX2_setWord_59 : decode cX2_setWord 59 = .ok (.iload 5, 2) := by decide +kernel
theorem dX2_setWord_61 : decode cX2_setWord 61 = .ok (.iaload, 1) := by decide +kernel
theorem dX2_setWord_62 : decode cX2_setWord 62 = .ok (.aload_n 0, 1) := by decide +kernel
theorem dX2_setWord_63 : decode cX2_setWord 63 = .ok (.getfield 17, 3) := by decide +kernel
theorem dX2_setWord_66 : decode cX2_setWord 66 = .ok (.iload 5, 2) := by decide +kernel
theorem dX2_setWord_68 : decode cX2_setWord 68 = .ok (.iaload, 1) := by decide +kernel
theorem dX2_setWord_69 : decode cX2_setWord 69 = .ok (.iload_n 2, 1) := by decide +kernel
theorem dX2_setWord_70 : decode cX2_setWord 70 = .ok (.imul, 1) := by decide +kernel
theorem dX2_setWord_71 : decode cX2_setWord 71 = .ok (.isub, 1) := by decide +kernel
theorem dX2_setWord_72 : decode cX2_setWord 72 = .ok (.iastore, 1) := by decide +kernel
theorem dX2_setWord_73 : decode cX2_setWord 73 = .ok (.iinc 4 1, 3) := by decide +kernel
theorem dX2_setWord_76 : decode cX2_setWord 76 = .ok (.goto (-57), 3) := by decide +kernel
theorem dX2_setWord_79 : decode cX2_setWord 79 = .ok (.return_, 1) := by decide +kernel
theorem dX2_noteSolutions_0 : decode cX2_noteSolutions 0 = .ok (.iconst 1, 1) := by decide +kernel
theorem dX2_noteSolutions_1 : decode cX2_noteSolutions 1 = .ok (.istore_n 2, 1) := by decide +kernel
theorem dX2_noteSolutions_2 : decode cX2_noteSolutions 2 = .ok (.iconst 0, 1) := by decide +kernel
theorem dX2_noteSolutions_3 : decode cX2_noteSolutions 3 = .ok (.istore_n 3, 1) := by decide +kernel
theorem dX2_noteSolutions_4 : decode cX2_noteSolutions 4 = .ok (.iload_n 3, 1) := by decide +kernel
theorem dX2_noteSolutions_5 : decode cX2_noteSolutions 5 = .ok (.iconst 4, 1) := by decide +kernel
theorem dX2_noteSolutions_6 : decode cX2_noteSolutions 6 = .ok (.if_icmp .ge 151, 3) := by decide +kernel
theorem dX2_noteSolutions_9 : decode cX2_noteSolutions 9 = .ok (.iload_n 3, 1) := by decide +kernel
theorem dX2_noteSolutions_10 : decode cX2_noteSolutions 10 = .ok (.iload_n 1, 1) := by decide +kernel
theorem dX2_noteSolutions_11 : decode cX2_noteSolutions 11 = .ok (.if_icmp .ge 12, 3) := by decide +kernel
theorem dX2_noteSolutions_14 : decode cX2_noteSolutions 14 = .ok (.aload_n 0, 1) := by decide +kernel
theorem dX2_noteSolutions_15 : decode cX2_noteSolutions 15 = .ok (.getfield 39, 3) := by decide +kernel
theorem dX2_noteSolutions_18 : decode cX2_noteSolutions 18 = .ok (.iload_n 3, 1) := by decide +kernel
theorem dX2_noteSolutions_19 : decode cX2_noteSolutions 19 = .ok (.iaload, 1) := by decide +kernel
theorem dX2_noteSolutions_20 : decode cX2_noteSolutions 20 = .ok (.goto 19, 3) := by decide +kernel
theorem dX2_noteSolutions_23 : decode cX2_noteSolutions 23 = .ok (.iload_n 3, 1) := by decide +kernel
theorem dX2_noteSolutions_24 : decode cX2_noteSolutions 24 = .ok (.iload_n 1, 1) := by decide +kernel
theorem dX2_noteSolutions_25 : decode cX2_noteSolutions 25 = .ok (.if_icmp .ne 12, 3) := by decide +kernel
theorem dX2_noteSolutions_28 : decode cX2_noteSolutions 28 = .ok (.aload_n 0, 1) := by decide +kernel
theorem dX2_noteSolutions_29 : decode cX2_noteSolutions 29 = .ok (.getfield 33, 3) := by decide +kernel
theorem dX2_noteSolutions_32 : decode cX2_noteSolutions 32 = .ok (.iload_n 3, 1) := by decide +kernel
theorem dX2_noteSolutions_33 : decode cX2_noteSolutions 33 = .ok (.iaload, 1) := by decide +kernel
theorem dX2_noteSolutions_34 : decode cX2_noteSolutions 34 = .ok (.goto 5, 3) := by decide +kernel
theorem dX2_noteSolutions_37 : decode cX2_noteSolutions 37 = .ok (.bipush (-15), 2) := by decide +kernel
theorem dX2_noteSolutions_39 : decode cX2_noteSolutions 39 = .ok (.istore 4, 2) := by decide +kernel
theorem dX2_noteSolutions_41 : decode cX2_noteSolutions 41 = .ok (.iload_n 3, 1) := by decide +kernel
theorem dX2_noteSolutions_42 : decode cX2_noteSolutions 42 = .ok (.iload_n 1, 1) := by decide +kernel
theorem dX2_noteSolutions_43 : decode cX2_noteSolutions 43 = .ok (.if_icmp .ge 12, 3) := by decide +kernel
theorem dX2_noteSolutions_46 : decode cX2_noteSolutions 46 = .ok (.aload_n 0, 1) := by decide +kernel
theorem dX2_noteSolutions_47 : decode cX2_noteSolutions 47 = .ok (.getfield 39, 3) := by decide +kernel
theorem dX2_noteSolutions_50 : decode cX2_noteSolutions 50 = .ok (.iload_n 3, 1) := by decide +kernel
theorem dX2_noteSolutions_51 : decode cX2_noteSolutions 51 = .ok (.iaload, 1) := by decide +kernel
theorem dX2_noteSolutions_52 : decode cX2_noteSolutions 52 = .ok (.goto 19, 3) := by decide +kernel
theorem dX2_noteSolutions_55 : decode cX2_noteSolutions 55 = .ok (.iload_n 3, 1) := by decide +kernel
theorem dX2_noteSolutions_56 : decode cX2_noteSolutions 56 = .ok (.iload_n 1, 1) := by decide +kernel
theorem dX2_noteSolutions_57 : decode cX2_noteSolutions 57 = .ok (.if_icmp .ne 12, 3) := by decide +kernel
theorem dX2_noteSolutions_60 : decode cX2_noteSolutions 60 = .ok (.aload_n 0, 1) := by decide +kernel
theorem dX2_noteSolutions_61 : decode cX2_noteSolutions 61 = .ok (.getfield 36, 3) := by decide +kernel
theorem dX2_noteSolutions_64 : decode cX2_noteSolutions 64 = .ok (.iload_n 3, 1) := by decide +kernel
theorem dX2_noteSolutions_65 : decode cX2_noteSolutions 65 = .ok (.iaload, 1) := by decide +kernel
theorem dX2_noteSolutions_66 : decode cX2_noteSolutions 66 = .ok (.goto 5, 3) := by decide +kernel
theorem dX2_noteSolutions_69 : decode cX2_noteSolutions 69 = .ok (.bipush 15, 2) := by decide +kernel
theorem dX2_noteSolutions_71 : decode cX2_noteSolutions 71 = .ok (.istore 5, 2) := by decide +kernel
theorem dX2_noteSolutions_73 : decode cX2_noteSolutions 73 = .ok (.iload_n 2, 1) := by decide +kernel
theorem dX2_noteSolutions_74 : decode cX2_noteSolutions 74 = .ok (.iload 5, 2) := by decide +kernel
theorem dX2_noteSolutions_76 : decode cX2_noteSolutions 76 = .ok (.iload 4, 2) := by decide +kernel
theorem dX2_noteSolutions_78 : decode cX2_noteSolutions 78 = .ok (.isub, 1) := by decide +kernel
theorem dX2_noteSolutions_79 : decode cX2_noteSolutions 79 = .ok (.iconst 1, 1) := by decide +kernel
theorem dX2_noteSolutions_80 : decode cX2_noteSolutions 80 = .ok (.iadd, 1) := by decide +kernel
theorem dX2_noteSolutions_81 : decode cX2_noteSolutions 81 = .ok (.imul, 1) := by decide +kernel
theorem dX2_noteSolutions_82 : decode cX2_noteSolutions 82 = .ok (.istore_n 2, 1) := by decide +kernel
theorem dX2_noteSolutions_83 : decode cX2_noteSolutions 83 = .ok (.aload_n 0, 1) := by decide +kernel
theorem dX2_noteSolutions_84 : decode cX2_noteSolutions 84 = .ok (.getfield 55, 3) := by decide +kernel
theorem dX2_noteSolutions_87 : decode cX2_noteSolutions 87 = .ok (.ifCond .ne 30, 3) := by decide +kernel
theorem dX2_noteSolutions_90 : decode cX2_noteSolutions 90 = .ok (.aload_n 0, 1) := by decide +kernel
theorem dX2_noteSolutions_91 : decode cX2_noteSolutions 91 = .ok (.getfield 42, 3) := by decide +kernel
theorem dX2_noteSolutions_94 : decode cX2_noteSolutions 94 = .ok (.iload_n 3, 1) := by decide +kernel
theorem dX2_noteSolutions_95 : decode cX2_noteSolutions 95 = .ok (.iload 4, 2) := by decide +kernel
theorem dX2_noteSolutions_97 : decode cX2_noteSolutions 97 = .ok (.iastore, 1) := by decide +kernel
theorem dX2_noteSolutions_98 : decode cX2_noteSolutions 98 = .ok (.aload_n 0, 1) := by decide +kernel
theorem dX2_noteSolutions_99 : decode cX2_noteSolutions 99 = .ok (.getfield 45, 3) := by decide +kernel
theorem dX2_noteSolutions_102 : decode cX2_noteSolutions 102 = .ok (.iload_n 3, 1) := by decide +kernel
theorem dX2_noteSolutions_103 : decode cX2_noteSolutions 103 = .ok (.iload 4, 2) := by decide +kernel
theorem dX2_noteSolutions_105 : decode cX2_noteSolutions 105 = .ok (.iastore, 1) := by decide +kernel
theorem dX2_noteSolutions_106 : decode cX2_noteSolutions 106 = .ok (.aload_n 0, 1) := by decide +kernel
theorem dX2_noteSolutions_107 : decode cX2_noteSolutions 107 = .ok (.getfield 48, 3) := by decide +kernel
theorem dX2_noteSolutions_110 : decode cX2_noteSolutions 110 = .ok (.iload_n 3, 1) := by decide +kernel
theorem dX2_noteSolutions_111 : decode cX2_noteSolutions 111 = .ok (.iload 5, 2) := by decide +kernel
theorem dX2_noteSolutions_113 : decode cX2_noteSolutions 113 = .ok (.iastore, 1) := by decide +kernel
theorem dX2_noteSolutions_114 : decode cX2_noteSolutions 114 = .ok (.goto 37, 3) := by decide +kernel
theorem dX2_noteSolutions_117 : decode cX2_noteSolutions 117 = .ok (.aload_n 0, 1) := by decide +kernel
theorem dX2_noteSolutions_118 : decode cX2_noteSolutions 118 = .ok (.getfield 45, 3) := by decide +kernel
theorem dX2_noteSolutions_121 : decode cX2_noteSolutions 121 = .ok (.iload_n 3, 1) := by decide +kernel
theorem dX2_noteSolutions_122 : decode cX2_noteSolutions 122 = .ok (.aload_n 0, 1) := by decide +kernel
theorem dX2_noteSolutions_123 : decode cX2_noteSolutions 123 = .ok (.getfield 45, 3) := by decide +kernel
theorem dX2_noteSolutions_126 : decode cX2_noteSolutions 126 = .ok (.iload_n 3, 1) := by decide +kernel
theorem dX2_noteSolutions_127 : decode cX2_noteSolutions 127 = .ok (.iaload, 1) := by decide +kernel
theorem dX2_noteSolutions_128 : decode cX2_noteSolutions 128 = .ok (.iload 4, 2) := by decide +kernel
theorem dX2_noteSolutions_130 : decode cX2_noteSolutions 130 = .ok (.invokestatic 110, 3) := by decide +kernel
theorem dX2_noteSolutions_133 : decode cX2_noteSolutions 133 = .ok (.iastore, 1) := by decide +kernel
theorem dX2_noteSolutions_134 : decode cX2_noteSolutions 134 = .ok (.aload_n 0, 1) := by decide +kernel
theorem dX2_noteSolutions_135 : decode cX2_noteSolutions 135 = .ok (.getfield 48, 3) := by decide +kernel
theorem dX2_noteSolutions_138 : decode cX2_noteSolutions 138 = .ok (.iload_n 3, 1) := by decide +kernel
theorem dX2_noteSolutions_139 : decode cX2_noteSolutions 139 = .ok (.aload_n 0, 1) := by decide +kernel
theorem dX2_noteSolutions_140 : decode cX2_noteSolutions 140 = .ok (.getfield 48, 3) := by decide +kernel
theorem dX2_noteSolutions_143 : decode cX2_noteSolutions 143 = .ok (.iload_n 3, 1) := by decide +kernel
theorem dX2_noteSolutions_144 : decode cX2_noteSolutions 144 = .ok (.iaload, 1) := by decide +kernel
theorem dX2_noteSolutions_145 : decode cX2_noteSolutions 145 = .ok (.iload 5, 2) := by decide +kernel
theorem dX2_noteSolutions_147 : decode cX2_noteSolutions 147 = .ok (.invokestatic 113, 3) := by decide +kernel
theorem dX2_noteSolutions_150 : decode cX2_noteSolutions 150 = .ok (.iastore, 1) := by decide +kernel
theorem dX2_noteSolutions_151 : decode cX2_noteSolutions 151 = .ok (.iinc 3 1, 3) := by decide +kernel
theorem dX2_noteSolutions_154 : decode cX2_noteSolutions 154 = .ok (.goto (-150), 3) := by decide +kernel
theorem dX2_noteSolutions_157 : decode cX2_noteSolutions 157 = .ok (.aload_n 0, 1) := by decide +kernel
theorem dX2_noteSolutions_158 : decode cX2_noteSolutions 158 = .ok (.dup, 1) := by decide +kernel
theorem dX2_noteSolutions_159 : decode cX2_noteSolutions 159 = .ok (.getfield 55, 3) := by decide +kernel
theorem dX2_noteSolutions_162 : decode cX2_noteSolutions 162 = .ok (.iload_n 2, 1) := by decide +kernel
theorem dX2_noteSolutions_163 : decode cX2_noteSolutions 163 = .ok (.iadd, 1) := by decide +kernel
theorem dX2_noteSolutions_164 : decode cX2_noteSolutions 164 = .ok (.putfield 55, 3) := by decide +kernel
theorem dX2_noteSolutions_167 : decode cX2_noteSolutions 167 = .ok (.return_, 1) := by decide +kernel
