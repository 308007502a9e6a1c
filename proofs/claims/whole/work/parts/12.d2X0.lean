theorem dX0_init_0 : decode cX0_init 0 = .ok (.aload_n 0, 1) := by decide +kernel
theorem dX0_init_1 : decode cX0_init 1 = .ok (.invokespecial 3, 3) := by decide +kernel
theorem dX0_init_4 : decode cX0_init 4 = .ok (.aload_n 0, 1) := by decide +kernel
theorem dX0_init_5 : decode cX0_init 5 = .ok (.sipush 1000, 3) := by decide +kernel
theorem dX0_init_8 : decode cX0_init 8 = .ok (.newarray .long, 2) := by decide +kernel
theorem dX0_init_10 : decode cX0_init 10 = .ok (.putfield 11, 3) := by decide +kernel
theorem dX0_init_13 : decode cX0_init 13 = .ok (.aload_n 0, 1) := by decide +kernel
theorem dX0_init_14 : decode cX0_init 14 = .ok (.bipush 40, 2) := by decide +kernel
theorem dX0_init_16 : decode cX0_init 16 = .ok (.newarray .int, 2) := by decide +kernel
theorem dX0_init_18 : decode cX0_init 18 = .ok (.putfield 15, 3) := by decide +kernel
theorem dX0_init_21 : decode cX0_init 21 = .ok (.aload_n 0, 1) := by decide +kernel
theorem dX0_init_22 : decode cX0_init 22 = .ok (.iconst 5, 1) := by decide +kernel
theorem dX0_init_23 : decode cX0_init 23 = .ok (.newarray .long, 2) := by decide +kernel
theorem dX0_init_25 : decode cX0_init 25 = .ok (.putfield 19, 3) := by decide +kernel
theorem dX0_init_28 : decode cX0_init 28 = .ok (.aload_n 0, 1) := by decide +kernel
theorem dX0_init_29 : decode cX0_init 29 = .ok (.iconst 0, 1) := by decide +kernel
theorem dX0_init_30 : decode cX0_init 30 = .ok (.putfield 22, 3) := by decide +kernel
theorem dX0_init_33 : decode cX0_init 33 = .ok (.aload_n 0, 1) := by decide +kernel
theorem dX0_init_34 : decode cX0_init 34 = .ok (.iconst 0, 1) := by decide +kernel
theorem dX0_init_35 : decode cX0_init 35 = .ok (.putfield 26, 3) := by decide +kernel
theorem dX0_init_38 : decode cX0_init 38 = .ok (.aload_n 0, 1) := by decide +kernel
theorem dX0_init_39 : decode cX0_init 39 = .ok (.iconst 0, 1) := by decide +kernel
theorem dX0_init_40 : decode cX0_init 40 = .ok (.putfield 29, 3) := by decide +kernel
theorem dX0_init_43 : decode cX0_init 43 = .ok (.aload_n 0, 1) := by decide +kernel
theorem dX0_init_44 : decode cX0_init 44 = .ok (.iconst 0, 1) := by decide +kernel
theorem dX0_init_45 : decode cX0_init 45 = .ok (.putfield 32, 3) := by decide +kernel
theorem dX0_init_48 : decode cX0_init 48 = .ok (.return_, 1) := by decide +kernel
theorem dX0_makeEmpty_0 : decode cX0_makeEmpty 0 = .ok (.aload_n 0, 1) := by decide +kernel
theorem dX0_makeEmpty_1 : decode cX0_makeEmpty 1 = .ok (.iconst 0, 1) := by decide +kernel
theorem dX0_makeEmpty_2 : decode cX0_makeEmpty 2 = .ok (.putfield 22, 3) := by decide +kernel
theorem dX0_makeEmpty_5 : decode cX0_makeEmpty 5 = .ok (.aload_n 0, 1) := by decide +kernel
theorem dX0_makeEmpty_6 : decode cX0_makeEmpty 6 = .ok (.iconst 0, 1) := by decide +kernel
theorem dX0_makeEmpty_7 : decode cX0_makeEmpty 7 = .ok (.putfield 26, 3) := by decide +kernel
theorem dX0_makeEmpty_10 : decode cX0_makeEmpty 10 = .ok (.aload_n 0, 1) := by decide +kernel
theorem dX0_makeEmpty_11 : decode cX0_makeEmpty 11 = .ok (.iconst 0, 1) := by decide +kernel
theorem dX0_makeEmpty_12 : decode cX0_makeEmpty 12 = .ok (.putfield 29, 3) := by decide +kernel
theorem dX0_makeEmpty_15 : decode cX0_makeEmpty 15 = .ok (.aload_n 0, 1) := by decide +kernel
theorem dX0_makeEmpty_16 : decode cX0_makeEmpty 16 = .ok (.iconst 0, 1) := by decide +kernel
theorem dX0_makeEmpty_17 : decode cX0_makeEmpty 17 = .ok (.putfield 32, 3) := by decide +kernel
theorem dX0_makeEmpty_20 : decode cX0_makeEmpty 20 = .ok (.return_, 1) := by decide +kernel
theorem dX0_lineCount_0 : decode cX0_lineCount 0 = .ok (.aload_n 0, 1) := by decide +kernel
theorem dX0_lineCount_1 : decode cX0_lineCount 1 = .ok (.getfield 22, 3) := by decide +kernel
theorem dX0_lineCount_4 : decode cX0_lineCount 4 = .ok (.ireturn, 1) := by decide +kernel
theorem dX0_splitCount_0 : decode cX0_splitCount 0 = .ok (.aload_n 0, 1) := by decide +kernel
theorem dX0_splitCount_1 : decode cX0_splitCount 1 = .ok (.getfield 26, 3) := by decide +kernel
theorem dX0_splitCount_4 : decode cX0_splitCount 4 = .ok (.ireturn, 1) := by decide +kernel
theorem dX0_closings_0 : decode cX0_closings 0 = .ok (.aload_n 0, 1) := by decide +kernel
theorem dX0_closings_1 : decode cX0_closings 1 = .ok (.getfield 29, 3) := by decide +kernel
theorem dX0_closings_4 : decode cX0_closings 4 = .ok (.ireturn, 1) := by decide +kernel
theorem dX0_isWhole_0 : decode cX0_isWhole 0 = .ok (.aload_n 0, 1) := by decide +kernel
theorem dX0_isWhole_1 : decode cX0_isWhole 1 = .ok (.getfield 32, 3) := by decide +kernel
theorem dX0_isWhole_4 : decode cX0_isWhole 4 = .ok (.ireturn, 1) := by decide +kernel
theorem dX0_hasLine_0 : decode cX0_hasLine 0 = .ok (.iload_n 1, 1) := by decide +kernel
theorem dX0_hasLine_1 : decode cX0_hasLine 1 = .ok (.ifCond .lt 15, 3) := by decide +kernel
theorem dX0_hasLine_4 : decode cX0_hasLine 4 = .ok (.iload_n 1, 1) := by decide +kernel
theorem dX0_hasLine_5 : decode cX0_hasLine 5 = .ok (.aload_n 0, 1) := by decide +kernel
theorem dX0_hasLine_6 : decode cX0_hasLine 6 = .ok (.getfield 22, 3) := by decide +kernel
theorem dX0_hasLine_9 : decode cX0_hasLine 9 = .ok (.if_icmp .ge 7, 3) := by decide +kernel
theorem dX0_hasLine_12 : decode cX0_hasLine 12 = .ok (.iconst 1, 1) := by decide +kernel
theorem dX0_hasLine_13 : decode cX0_hasLine 13 = .ok (.goto 4, 3) := by decide +kernel
theorem dX0_hasLine_16 : decode cX0_hasLine 16 = .ok (.iconst 0, 1) := by decide +kernel
theorem dX0_hasLine_17 : decode cX0_hasLine 17 = .ok (.ireturn, 1) := by decide +kernel
theorem dX0_lineCell_0 : decode cX0_lineCell 0 = .ok (.aload_n 0, 1) := by decide +kernel
theorem dX0_lineCell_1 : decode cX0_lineCell 1 = .ok (.getfield 11, 3) := by decide +kernel
theorem dX0_lineCell_4 : decode cX0_lineCell 4 = .ok (.iload_n 1, 1) := by decide +kernel
theorem dX0_lineCell_5 : decode cX0_lineCell 5 = .ok (.iconst 5, 1) := by decide +kernel
theorem dX0_lineCell_6 : decode cX0_lineCell 6 = .ok (.imul, 1) := by decide +kernel
theorem dX0_lineCell_7 : decode cX0_lineCell 7 = .ok (.iload_n 2, 1) := by decide +kernel
theorem dX0_lineCell_8 : decode cX0_lineCell 8 = .ok (.iadd, 1) := by decide +kernel
theorem dX0_lineCell_9 : decode cX0_lineCell 9 = .ok (.laload, 1) := by decide +kernel
theorem dX0_lineCell_10 : decode cX0_lineCell 10 = .ok (.lreturn, 1) := by decide +kernel
theorem dX0_hasSplit_0 : decode cX0_hasSplit 0 = .ok (.iload_n 1, 1) := by decide +kernel
theorem dX0_hasSplit_1 : decode cX0_hasSplit 1 = .ok (.ifCond .lt 15, 3) := by decide +kernel
theorem dX0_hasSplit_4 : decode cX0_hasSplit 4 = .ok (.iload_n 1, 1) := by decide +kernel
theorem dX0_hasSplit_5 : decode cX0_hasSplit 5 = .ok (.aload_n 0, 1) := by decide +kernel
theorem dX0_hasSplit_6 : decode cX0_hasSplit 6 = .ok (.getfield 26, 3) := by decide +kernel
theorem dX0_hasSplit_9 : decode cX0_hasSplit 9 = .ok (.if_icmp .ge 7, 3) := by decide +kernel
theorem dX0_hasSplit_12 : decode cX0_hasSplit 12 = .ok (.iconst 1, 1) := by decide +kernel
theorem dX0_hasSplit_13 : decode cX0_hasSplit 13 = .ok (.goto 4, 3) := by decide +kernel
theorem dX0_hasSplit_16 : decode cX0_hasSplit 16 = .ok (.iconst 0, 1) := by decide +kernel
theorem dX0_hasSplit_17 : decode cX0_hasSplit 17 = .ok (.ireturn, 1) := by decide +kernel
theorem dX0_splitCell_0 : decode cX0_splitCell 0 = .ok (.aload_n 0, 1) := by decide +kernel
theorem dX0_splitCell_1 : decode cX0_splitCell 1 = .ok (.getfield 15, 3) := by decide +kernel
theorem dX0_splitCell_4 : decode cX0_splitCell 4 = .ok (.iload_n 1, 1) := by decide +kernel
theorem dX0_splitCell_5 : decode cX0_splitCell 5 = .ok (.iconst 4, 1) := by decide +kernel
theorem dX0_splitCell_6 : decode cX0_splitCell 6 = .ok (.imul, 1) := by decide +kernel
theorem dX0_splitCell_7 : decode cX0_splitCell 7 = .ok (.iload_n 2, 1) := by decide +kernel
theorem dX0_splitCell_8 : decode cX0_splitCell 8 = .ok (.iadd, 1) := by decide +kernel
theorem dX0_splitCell_9 : decode cX0_splitCell 9 = .ok (.iaload, 1) := by decide +kernel
theorem dX0_splitCell_10 : decode cX0_splitCell 10 = .ok (.ireturn, 1) := by decide +kernel
theorem dX0_draftNumber_0 : decode cX0_draftNumber 0 = .ok (.aload_n 0, 1) := by decide +kernel
theorem dX0_draftNumber_1 : decode cX0_draftNumber 1 = .ok (.getfield 19, 3) := by decide +kernel
theorem dX0_draftNumber_4 : decode cX0_draftNumber 4 = .ok (.iload_n 1, 1) := by decide +kernel
theorem dX0_draftNumber_5 : decode cX0_draftNumber 5 = .ok (.lload_n 2, 1) := by decide +kernel
theorem dX0_draftNumber_6 : decode cX0_draftNumber 6 = .ok (.lastore, 1) := by decide +kernel
theorem dX0_draftNumber_7 : decode cX0_draftNumber 7 = .ok (.return_, 1) := by decide +kernel
theorem dX0_draftBound_0 : decode cX0_draftBound 0 = .ok (.aload_n 0, 1) := by decide +kernel
theorem dX0_draftBound_1 : decode cX0_draftBound 1 = .ok (.getfield 19, 3) := by decide +kernel
theorem dX0_draftBound_4 : decode cX0_draftBound 4 = .ok (.iconst 4, 1) := by decide +kernel
theorem dX0_draftBound_5 : decode cX0_draftBound 5 = .ok (.lload_n 1, 1) := by decide +kernel
theorem dX0_draftBound_6 : decode cX0_draftBound 6 = .ok (.lastore, 1) := by decide +kernel
theorem dX0_draftBound_7 : decode cX0_draftBound 7 = .ok (.return_, 1) := by decide +kernel
theorem dX0_draftWord_0 : decode cX0_draftWord 0 = .ok (.iconst 0, 1) := by decide +kernel
theorem dX0_draftWord_1 : decode cX0_draftWord 1 = .ok (.istore 4, 2) := by decide +kernel
theorem dX0_draftWord_3 : decode cX0_draftWord 3 = .ok (.iload 4, 2) := by decide +kernel
theorem dX0_draftWord_5 : decode cX0_draftWord 5 = .ok (.iconst 4, 1) := by decide +kernel
theorem dX0_draftWord_6 : decode cX0_draftWord 6 = .ok (.if_icmp .ge 28, 3) := by decide +kernel
theorem dX0_draftWord_9 : decode cX0_draftWord 9 = .ok (.aload_n 0, 1) := by decide +kernel
theorem dX0_draftWord_10 : decode cX0_draftWord 10 = .ok (.getfield 19, 3) := by decide +kernel
theorem dX0_draftWord_13 : decode cX0_draftWord 13 = .ok (.iload 4, 2) := by decide +kernel
theorem dX0_draftWord_15 : decode cX0_draftWord 15 = .ok (.iload 4, 2) := by decide +kernel
theorem dX0_draftWord_17 : decode cX0_draftWord 17 = .ok (.iload_n 1, 1) := by decide +kernel
theorem dX0_draftWord_18 : decode cX0_draftWord 18 = .ok (.if_icmp .ne 8, 3) := by decide +kernel
theorem dX0_draftWord_21 : decode cX0_draftWord 21 = .ok (.iload_n 2, 1) := by decide +kernel
theorem dX0_draftWord_22 : decode cX0_draftWord 22 = .ok (.i2l, 1) := by decide +kernel
theorem dX0_draftWord_23 : decode cX0_draftWord 23 = .ok (.goto 4, 3) := by decide +kernel
theorem dX0_draftWord_26 : decode cX0_draftWord 26 = .ok (.lconst 0, 1) := by decide +kernel
theorem dX0_draftWord_27 : decode cX0_draftWord 27 = .ok (.lastore, 1) := by decide +kernel
theorem dX0_draftWord_28 : decode cX0_draftWord 28 = .ok (.iinc 4 1, 3) := by decide +kernel
theorem dX0_draftWord_31 : decode cX0_draftWord 31 = .ok (.goto (-28), 3) := by decide +kernel
theorem dX0_draftWord_34 : decode cX0_draftWord 34 = .ok (.aload_n 0, 1) := by decide +kernel
theorem dX0_draftWord_35 : decode cX0_draftWord 35 = .ok (.getfield 19, 3) := by decide +kernel
theorem dX0_draftWord_38 : decode cX0_draftWord 38 = .ok (.iconst 4, 1) := by decide +kernel
theorem dX0_draftWord_39 : decode cX0_draftWord 39 = .ok (.iload_n 3, 1) := by decide +kernel
theorem dX0_draftWord_40 : decode cX0_draftWord 40 = .ok (.i2l, 1) := by decide +kernel
theorem dX0_draftWord_41 : decode cX0_draftWord 41 = .ok (.lastore, 1) := by decide +kernel
theorem dX0_draftWord_42 : decode cX0_draftWord 42 = .ok (.return_, 1) := by decide +kernel
theorem dX0_appendDraft_0 : decode cX0_appendDraft 0 = .ok (.aload_n 0, 1) := by decide +kernel
theorem dX0_appendDraft_1 : decode cX0_appendDraft 1 = .ok (.getfield 32, 3) := by decide +kernel
theorem dX0_appendDraft_4 : decode cX0_appendDraft 4 = .ok (.ifCond .ne 13, 3) := by decide +kernel
theorem dX0_appendDraft_7 : decode cX0_appendDraft 7 = .ok (.aload_n 0, 1) := by decide +kernel
theorem dX0_appendDraft_8 : decode cX0_appendDraft 8 = .ok (.getfield 22, 3) := by decide +kernel
theorem dX0_appendDraft_11 : decode cX0_appendDraft 11 = .ok (.sipush 200, 3) := by decide +kernel
theorem dX0_appendDraft_14 : decode cX0_appendDraft 14 = .ok (.if_icmp .lt 5, 3) := by decide +kernel
theorem dX0_appendDraft_17 : decode cX0_appendDraft 17 = .ok (.iconst (-1), 1) := by decide +kernel
theorem dX0_appendDraft_18 : decode cX0_appendDraft 18 = .ok (.ireturn, 1) := by decide +kernel
theorem dX0_appendDraft_19 : decode cX0_appendDraft 19 = .ok (.iconst 0, 1) := by decide +kernel
theorem dX0_appendDraft_20 : decode cX0_appendDraft 20 = .ok (.istore_n 1, 1) := by decide +kernel
theorem dX0_appendDraft_21 : decode cX0_appendDraft 21 = .ok (.iload_n 1, 1) := by decide +kernel
theorem dX0_appendDraft_22 : decode cX0_appendDraft 22 = .ok (.iconst 5, 1) := by decide +kernel
theorem dX0_appendDraft_23 : decode cX0_appendDraft 23 = .ok (.if_icmp .ge 28, 3) := by decide +kernel
theorem dX0_appendDraft_26 : decode cX0_appendDraft 26 = .ok (.aload_n 0, 1) := by decide +kernel
theorem dX0_appendDraft_27 : decode cX0_appendDraft 27 = .ok (.getfield 11, 3) := by decide +kernel
theorem dX0_appendDraft_30 : decode cX0_appendDraft 30 = .ok (.aload_n 0, 1) := by decide +kernel
theorem dX0_appendDraft_31 : decode cX0_appendDraft 31 = .ok (.getfield 22, 3) := by decide +kernel
theorem dX0_appendDraft_34 : decode cX0_appendDraft 34 = .ok (.iconst 5, 1) := by decide +kernel
theorem dX0_appendDraft_35 : decode cX0_appendDraft 35 = .ok (.imul, 1) := by decide +kernel
theorem dX0_appendDraft_36 : decode cX0_appendDraft 36 = .ok (.iload_n 1, 1) := by decide +kernel
theorem dX0_appendDraft_37 : decode cX0_appendDraft 37 = .ok (.iadd, 1) := by decide +kernel
theorem dX0_appendDraft_38 : decode cX0_appendDraft 38 = .ok (.aload_n 0, 1) := by decide +kernel
theorem dX0_appendDraft_39 : decode cX0_appendDraft 39 = .ok (.getfield 19, 3) := by decide +kernel
theorem dX0_appendDraft_42 : decode cX0_appendDraft 42 = .ok (.iload_n 1, 1) := by decide +kernel
theorem dX0_appendDraft_43 : decode cX0_appendDraft 43 = .ok (.laload, 1) := by decide +kernel
theorem dX0_appendDraft_44 : decode cX0_appendDraft 44 = .ok (.lastore, 1) := by decide +kernel
theorem dX0_appendDraft_45 : decode cX0_appendDraft 45 = .ok (.iinc 1 1, 3) := by decide +kernel
theorem dX0_appendDraft_48 : decode cX0_appendDraft 48 = .ok (.goto (-27), 3) := by decide +kernel
theorem dX0_appendDraft_51 : decode cX0_appendDraft 51 = .ok (.aload_n 0, 1) := by decide +kernel
theorem dX0_appendDraft_52 : decode cX0_appendDraft 52 = .ok (.dup, 1) := by decide +kernel
theorem dX0_appendDraft_53 : decode cX0_appendDraft 53 = .ok (.getfield 22, 3) := by decide +kernel
theorem dX0_appendDraft_56 : decode cX0_appendDraft 56 = .ok (.iconst 1, 1) := by decide +kernel
theorem dX0_appendDraft_57 : decode cX0_appendDraft 57 = .ok (.iadd, 1) := by decide +kernel
theorem dX0_appendDraft_58 : decode cX0_appendDraft 58 = .ok (.putfield 22, 3) := by decide +kernel
theorem dX0_appendDraft_61 : decode cX0_appendDraft 61 = .ok (.aload_n 0, 1) := by decide +kernel
theorem dX0_appendDraft_62 : decode cX0_appendDraft 62 = .ok (.getfield 22, 3) := by decide +kernel
theorem dX0_appendDraft_65 : decode cX0_appendDraft 65 = .ok (.iconst 1, 1) := by decide +kernel
theorem dX0_appendDraft_66 : decode cX0_appendDraft 66 = .ok (.isub, 1) := by decide +kernel
theorem dX0_appendDraft_67 : decode cX0_appendDraft 67 = .ok (.ireturn, 1) := by decide +kernel
set_option maxRecDepth 20000 in
theorem ggX0_appendSum_X0_hasLine : GoodIn wsX0_appendSum wsX0_hasLine := goodIn_r _ [6, 7, 26, 27, 28, 29, 30, 31, 32] (by decide +kernel) (by decide +kernel)
set_option maxRecDepth 20000 in
theorem gX0_appendSum_X0_hasLine : GoodIn wsX0_appendSum (wsV RX0 36 RX0 yX0_hasLine wsX0_hasLine) := goodIn_app (goodIn_of _ (by decide +kernel)) ggX0_appendSum_X0_hasLine
set_option maxRecDepth 20000 in
theorem ggX0_appendSum_X0_lineCell : GoodIn wsX0_appendSum wsX0_lineCell := goodIn_r _ [11, 12, 26, 27, 28, 29, 30, 31, 32] (by decide +kernel) (by decide +kernel)
set_option maxRecDepth 20000 in
theorem gX0_appendSum_X0_lineCell : GoodIn wsX0_appendSum (wsV RX0 40 RX0 yX0_lineCell wsX0_lineCell) := goodIn_app (goodIn_of _ (by decide +kernel)) ggX0_appendSum_X0_lineCell
set_option maxRecDepth 20000 in
theorem ggX0_appendSum_X0_draftIsInRange : GoodIn wsX0_appendSum wsX0_draftIsInRange := goodIn_r _ [16, 1, 17, 18, 19, 20, 26, 27, 28, 29, 30, 31, 32] (by decide +kernel) (by decide +kernel)
set_option maxRecDepth 20000 in
theorem gX0_appendSum_X0_draftIsInRange : GoodIn wsX0_appendSum (wsV RX0 44 RX0 yX0_draftIsInRange wsX0_draftIsInRange) := goodIn_app (goodIn_of _ (by decide +kernel)) ggX0_appendSum_X0_draftIsInRange
set_option maxRecDepth 20000 in
theorem ggX0_appendSum_X0_appendDraft : GoodIn wsX0_appendSum wsX0_appendDraft := goodIn_r _ [24, 25, 7, 12, 1, 26, 27, 28, 29, 30, 31, 32] (by decide +kernel) (by decide +kernel)
set_option maxRecDepth 20000 in
theorem gX0_appendSum_X0_appendDraft : GoodIn wsX0_appendSum (wsV RX0 48 RX0 yX0_appendDraft wsX0_appendDraft) := goodIn_app (goodIn_of _ (by decide +kernel)) ggX0_appendSum_X0_appendDraft
theorem dX0_appendSum_0 : decode cX0_appendSum 0 = .ok (.aload_n 0, 1) := by decide +kernel
theorem dX0_appendSum_1 : decode cX0_appendSum 1 = .ok (.iload_n 1, 1) := by decide +kernel
theorem dX0_appendSum_2 : decode cX0_appendSum 2 = .ok (.invokevirtual 36, 3) := by decide +kernel
theorem dX0_appendSum_5 : decode cX0_appendSum 5 = .ok (.ifCond .eq 35, 3) := by decide +kernel
theorem dX0_appendSum_8 : decode cX0_appendSum 8 = .ok (.aload_n 0, 1) := by decide +kernel
theorem dX0_appendSum_9 : decode cX0_appendSum 9 = .ok (.iload_n 3, 1) := by decide +kernel
theorem dX0_appendSum_10 : decode cX0_appendSum 10 = .ok (.invokevirtual 36, 3) := by decide +kernel
theorem dX0_appendSum_13 : decode cX0_appendSum 13 = .ok (.ifCond .eq 27, 3) := by decide +kernel
theorem dX0_appendSum_16 : decode cX0_appendSum 16 = .ok (.iload_n 2, 1) := by decide +kernel
theorem dX0_appendSum_17 : decode cX0_appendSum 17 = .ok (.ifCond .lt 23, 3) := by decide +kernel
theorem dX0_appendSum_20 : decode cX0_appendSum 20 = .ok (.iload_n 2, 1) := by decide +kernel
theorem dX0_appendSum_21 : decode cX0_appendSum 21 = .ok (.sipush 1000, 3) := by decide +kernel
theorem dX0_appendSum_24 : decode cX0_appendSum 24 = .ok (.if_icmp .gt 16, 3) := by decide +kernel
theorem dX0_appendSum_27 : decode cX0_appendSum 27 = .ok (.iload 4, 2) := by decide +kernel
theorem dX0_appendSum_29 : decode cX0_appendSum 29 = .ok (.ifCond .lt 11, 3) := by decide +kernel
theorem dX0_appendSum_32 : decode cX0_appendSum 32 = .ok (.iload 4, 2) := by decide +kernel
theorem dX0_appendSum_34 : decode cX0_appendSum 34 = .ok (.sipush 1000, 3) := by decide +kernel
theorem dX0_appendSum_37 : decode cX0_appendSum 37 = .ok (.if_icmp .le 5, 3) := by decide +kernel
theorem dX0_appendSum_40 : decode cX0_appendSum 40 = .ok (.iconst (-1), 1) := by decide +kernel
theorem dX0_appendSum_41 : decode cX0_appendSum 41 = .ok (.ireturn, 1) := by decide +kernel
theorem dX0_appendSum_42 : decode cX0_appendSum 42 = .ok (.iconst 0, 1) := by decide +kernel
theorem dX0_appendSum_43 : decode cX0_appendSum 43 = .ok (.istore 5, 2) := by decide +kernel
theorem dX0_appendSum_45 : decode cX0_appendSum 45 = .ok (.iload 5, 2) := by decide +kernel
theorem dX0_appendSum_47 : decode cX0_appendSum 47 = .ok (.iconst 5, 1) := by decide +kernel
theorem dX0_appendSum_48 : decode cX0_appendSum 48 = .ok (.if_icmp .ge 38, 3) := by decide +kernel
theorem dX0_appendSum_51 : decode cX0_appendSum 51 = .ok (.aload_n 0, 1) := by decide +kernel
theorem dX0_appendSum_52 : decode cX0_appendSum 52 = .ok (.getfield 19, 3) := by decide +kernel
theorem dX0_appendSum_55 : decode cX0_appendSum 55 = .ok (.iload 5, 2) := by decide +kernel
theorem dX0_appendSum_57 : decode cX0_appendSum 57 = .ok (.iload_n 2, 1) := by decide +kernel
theorem dX0_appendSum_58 : decode cX0_appendSum 58 = .ok (.i2l, 1) := by decide +kernel
theorem dX0_appendSum_59 : decode cX0_appendSum 59 = .ok (.aload_n 0, 1) := by decide +kernel
theorem dX0_appendSum_60 : decode cX0_appendSum 60 = .ok (.iload_n 1, 1) := by decide +kernel
theorem dX0_appendSum_61 : decode cX0_appendSum 61 = .ok (.iload 5, 2) := by decide +kernel
theorem dX0_appendSum_63 : decode cX0_appendSum 63 = .ok (.invokevirtual 40, 3) := by decide +kernel
theorem dX0_appendSum_66 : decode cX0_appendSum 66 = .ok (.lmul, 1) := by decide +kernel
theorem dX0_appendSum_67 : decode cX0_appendSum 67 = .ok (.iload 4, 2) := by decide +kernel
theorem dX0_appendSum_69 : decode cX0_appendSum 69 = .ok (.i2l, 1) := by decide +kernel
theorem dX0_appendSum_70 : decode cX0_appendSum 70 = .ok (.aload_n 0, 1) := by decide +kernel
theorem dX0_appendSum_71 : decode cX0_appendSum 71 = .ok (.iload_n 3, 1) := by decide +kernel
theorem dX0_appendSum_72 : decode cX0_appendSum 72 = .ok (.iload 5, 2) := by decide +kernel
theorem dX0_appendSum_74 : decode cX0_appendSum 74 = .ok (.invokevirtual 40, 3) := by decide +kernel
theorem dX0_appendSum_77 : decode cX0_appendSum 77 = .ok (.lmul, 1) := by decide +kernel
theorem dX0_appendSum_78 : decode cX0_appendSum 78 = .ok (.ladd, 1) := by decide +kernel
theorem dX0_appendSum_79 : decode cX0_appendSum 79 = .ok (.lastore, 1) := by decide +kernel
theorem dX0_appendSum_80 : decode cX0_appendSum 80 = .ok (.iinc 5 1, 3) := by decide +kernel
theorem dX0_appendSum_83 : decode cX0_appendSum 83 = .ok (.goto (-38), 3) := by decide +kernel
theorem dX0_appendSum_86 : decode cX0_appendSum 86 = .ok (.aload_n 0, 1) := by decide +kernel
theorem dX0_appendSum_87 : decode cX0_appendSum 87 = .ok (.invokevirtual 44, 3) := by decide +kernel
theorem dX0_appendSum_90 : decode cX0_appendSum 90 = .ok (.ifCond .eq 10, 3) := by decide +kernel
theorem dX0_appendSum_93 : decode cX0_appendSum 93 = .ok (.aload_n 0, 1) := by decide +kernel
theorem dX0_appendSum_94 : decode cX0_appendSum 94 = .ok (.invokevirtual 48, 3) := by decide +kernel
theorem dX0_appendSum_97 : decode cX0_appendSum 97 = .ok (.goto 4, 3) := by decide +kernel
theorem dX0_appendSum_100 : decode cX0_appendSum 100 = .ok (.iconst (-1), 1) := by decide +kernel
theorem dX0_appendSum_101 : decode cX0_appendSum 101 = .ok (.ireturn, 1) := by decide +kernel
set_option maxRecDepth 20000 in
theorem ggX0_appendQuotient_X0_hasLine : GoodIn wsX0_appendQuotient wsX0_hasLine := goodIn_r _ [7, 8, 23, 24, 25, 26, 27, 28, 29] (by decide +kernel) (by decide +kernel)
set_option maxRecDepth 20000 in
theorem gX0_appendQuotient_X0_hasLine : GoodIn wsX0_appendQuotient (wsV RX0 36 RX0 yX0_hasLine wsX0_hasLine) := goodIn_app (goodIn_of _ (by decide +kernel)) ggX0_appendQuotient_X0_hasLine
set_option maxRecDepth 20000 in
theorem ggX0_appendQuotient_X0_lineCell : GoodIn wsX0_appendQuotient wsX0_lineCell := goodIn_r _ [12, 13, 23, 24, 25, 26, 27, 28, 29] (by decide +kernel) (by decide +kernel)
set_option maxRecDepth 20000 in
theorem gX0_appendQuotient_X0_lineCell : GoodIn wsX0_appendQuotient (wsV RX0 40 RX0 yX0_lineCell wsX0_lineCell) := goodIn_app (goodIn_of _ (by decide +kernel)) ggX0_appendQuotient_X0_lineCell
set_option maxRecDepth 20000 in
theorem ggX0_appendQuotient_J9_floorDiv_f86c9 : GoodIn wsX0_appendQuotient wsJ9_floorDiv_f86c9 := goodIn_r _ [17] (by decide +kernel) (by decide +kernel)
set_option maxRecDepth 20000 in
theorem gX0_appendQuotient_J9_floorDiv_f86c9 : GoodIn wsX0_appendQuotient (va_wsS RX0 53 yJ9_floorDiv_f86c9 wsJ9_floorDiv_f86c9) := goodIn_app (goodIn_of _ (by decide +kernel)) ggX0_appendQuotient_J9_floorDiv_f86c9
set_option maxRecDepth 20000 in
theorem ggX0_appendQuotient_X0_appendDraft : GoodIn wsX0_appendQuotient wsX0_appendDraft := goodIn_r _ [21, 22, 8, 13, 2, 23, 24, 25, 26, 27, 28, 29] (by decide +kernel) (by decide +kernel)
set_option maxRecDepth 20000 in
theorem gX0_appendQuotient_X0_appendDraft : GoodIn wsX0_appendQuotient (wsV RX0 48 RX0 yX0_appendDraft wsX0_appendDraft) := goodIn_app (goodIn_of _ (by decide +kernel)) ggX0_appendQuotient_X0_appendDraft
theorem dX0_appendQuotient_0 : decode cX0_appendQuotient 0 = .ok (.aload_n 0, 1) := by decide +kernel
theorem dX0_appendQuotient_1 : decode cX0_appendQuotient 1 = .ok (.iload_n 1, 1) := by decide +kernel
theorem dX0_appendQuotient_2 : decode cX0_appendQuotient 2 = .ok (.invokevirtual 36, 3) := by decide +kernel
theorem dX0_appendQuotient_5 : decode cX0_appendQuotient 5 = .ok (.ifCond .eq 14, 3) := by decide +kernel
theorem dX0_appendQuotient_8 : decode cX0_appendQuotient 8 = .ok (.iload_n 2, 1) := by decide +kernel
theorem dX0_appendQuotient_9 : decode cX0_appendQuotient 9 = .ok (.iconst 1, 1) := by decide +kernel
theorem dX0_appendQuotient_10 : decode cX0_appendQuotient 10 = .ok (.if_icmp .lt 9, 3) := by decide +kernel
theorem dX0_appendQuotient_13 : decode cX0_appendQuotient 13 = .ok (.iload_n 2, 1) := by decide +kernel
theorem dX0_appendQuotient_14 : decode cX0_appendQuotient 14 = .ok (.ldc 52, 2) := by decide +kernel
theorem dX0_appendQuotient_16 : decode cX0_appendQuotient 16 = .ok (.if_icmp .le 5, 3) := by decide +kernel
theorem dX0_appendQuotient_19 : decode cX0_appendQuotient 19 = .ok (.iconst (-1), 1) := by decide +kernel
theorem dX0_appendQuotient_20 : decode cX0_appendQuotient 20 = .ok (.ireturn, 1) := by decide +kernel
theorem dX0_appendQuotient_21 : decode cX0_appendQuotient 21 = .ok (.iconst 0, 1) := by decide +kernel
theorem dX0_appendQuotient_22 : decode cX0_appendQuotient 22 = .ok (.istore_n 3, 1) := by decide +kernel
theorem dX0_appendQuotient_23 : decode cX0_appendQuotient 23 = .ok (.iload_n 3, 1) := by decide +kernel
theorem dX0_appendQuotient_24 : decode cX0_appendQuotient 24 = .ok (.iconst 4, 1) := by decide +kernel
theorem dX0_appendQuotient_25 : decode cX0_appendQuotient 25 = .ok (.if_icmp .ge 40, 3) := by decide +kernel
theorem dX0_appendQuotient_28 : decode cX0_appendQuotient 28 = .ok (.aload_n 0, 1) := by decide +kernel
theorem dX0_appendQuotient_29 : decode cX0_appendQuotient 29 = .ok (.iload_n 1, 1) := by decide +kernel
theorem dX0_appendQuotient_30 : decode cX0_appendQuotient 30 = .ok (.iload_n 3, 1) := by decide +kernel
theorem dX0_appendQuotient_31 : decode cX0_appendQuotient 31 = .ok (.invokevirtual 40, 3) := by decide +kernel
theorem dX0_appendQuotient_34 : decode cX0_appendQuotient 34 = .ok (.lstore 4, 2) := by decide +kernel
theorem dX0_appendQuotient_36 : decode cX0_appendQuotient 36 = .ok (.lload 4, 2) := by decide +kernel
theorem dX0_appendQuotient_38 : decode cX0_appendQuotient 38 = .ok (.iload_n 2, 1) := by decide +kernel
theorem dX0_appendQuotient_39 : decode cX0_appendQuotient 39 = .ok (.i2l, 1) := by decide +kernel
theorem dX0_appendQuotient_40 : decode cX0_appendQuotient 40 = .ok (.lrem, 1) := by decide +kernel
theorem dX0_appendQuotient_41 : decode cX0_appendQuotient 41 = .ok (.lconst 0, 1) := by decide +kernel
theorem dX0_appendQuotient_42 : decode cX0_appendQuotient 42 = .ok (.lcmp, 1) := by decide +kernel
theorem dX0_appendQuotient_43 : decode cX0_appendQuotient 43 = .ok (.ifCond .eq 5, 3) := by decide +kernel
theorem dX0_appendQuotient_46 : decode cX0_appendQuotient 46 = .ok (.iconst (-1), 1) := by decide +kernel
theorem dX0_appendQuotient_47 : decode cX0_appendQuotient 47 = .ok (.ireturn, 1) := by decide +kernel
theorem dX0_appendQuotient_48 : decode cX0_appendQuotient 48 = .ok (.aload_n 0, 1) := by decide +kernel
theorem dX0_appendQuotient_49 : decode cX0_appendQuotient 49 = .ok (.getfield 19, 3) := by decide +kernel
theorem dX0_appendQuotient_52 : decode cX0_appendQuotient 52 = .ok (.iload_n 3, 1) := by decide +kernel
theorem dX0_appendQuotient_53 : decode cX0_appendQuotient 53 = .ok (.lload 4, 2) := by decide +kernel
theorem dX0_appendQuotient_55 : decode cX0_appendQuotient 55 = .ok (.iload_n 2, 1) := by decide +kernel
theorem dX0_appendQuotient_56 : decode cX0_appendQuotient 56 = .ok (.i2l, 1) := by decide +kernel
theorem dX0_appendQuotient_57 : decode cX0_appendQuotient 57 = .ok (.ldiv, 1) := by decide +kernel
theorem dX0_appendQuotient_58 : decode cX0_appendQuotient 58 = .ok (.lastore, 1) := by decide +kernel
theorem dX0_appendQuotient_59 : decode cX0_appendQuotient 59 = .ok (.iinc 3 1, 3) := by decide +kernel
theorem dX0_appendQuotient_62 : decode cX0_appendQuotient 62 = .ok (.goto (-39), 3) := by decide +kernel
theorem dX0_appendQuotient_65 : decode cX0_appendQuotient 65 = .ok (.aload_n 0, 1) := by decide +kernel
theorem dX0_appendQuotient_66 : decode cX0_appendQuotient 66 = .ok (.getfield 19, 3) := by decide +kernel
theorem dX0_appendQuotient_69 : decode cX0_appendQuotient 69 = .ok (.iconst 4, 1) := by decide +kernel
theorem dX0_appendQuotient_70 : decode cX0_appendQuotient 70 = .ok (.aload_n 0, 1) := by decide +kernel
theorem dX0_appendQuotient_71 : decode cX0_appendQuotient 71 = .ok (.iload_n 1, 1) := by decide +kernel
theorem dX0_appendQuotient_72 : decode cX0_appendQuotient 72 = .ok (.iconst 4, 1) := by decide +kernel
theorem dX0_appendQuotient_73 : decode cX0_appendQuotient 73 = .ok (.invokevirtual 40, 3) := by decide +kernel
theorem dX0_appendQuotient_76 : decode cX0_appendQuotient 76 = .ok (.iload_n 2, 1) := by decide +kernel
theorem dX0_appendQuotient_77 : decode cX0_appendQuotient 77 = .ok (.i2l, 1) := by decide +kernel
theorem dX0_appendQuotient_78 : decode cX0_appendQuotient 78 = .ok (.invokestatic 53, 3) := by decide +kernel
theorem dX0_appendQuotient_81 : decode cX0_appendQuotient 81 = .ok (.lastore, 1) := by decide +kernel
theorem dX0_appendQuotient_82 : decode cX0_appendQuotient 82 = .ok (.aload_n 0, 1) := by decide +kernel
theorem dX0_appendQuotient_83 : decode cX0_appendQuotient 83 = .ok (.invokevirtual 48, 3) := by decide +kernel
theorem dX0_appendQuotient_86 : decode cX0_appendQuotient 86 = .ok (.ireturn, 1) := by decide +kernel
set_option maxRecDepth 20000 in
theorem ggX0_openSplit_X0_draftWord : GoodIn wsX0_openSplit wsX0_draftWord := goodIn_r _ [7, 8, 16, 17, 18, 19, 20, 21, 22] (by decide +kernel) (by decide +kernel)
set_option maxRecDepth 20000 in
theorem gX0_openSplit_X0_draftWord : GoodIn wsX0_openSplit (wsV RX0 59 RX0 yX0_draftWord wsX0_draftWord) := goodIn_app (goodIn_of _ (by decide +kernel)) ggX0_openSplit_X0_draftWord
set_option maxRecDepth 20000 in
theorem ggX0_openSplit_X0_appendDraft : GoodIn wsX0_openSplit wsX0_appendDraft := goodIn_r _ [12, 13, 14, 15, 8, 16, 17, 18, 19, 20, 21, 22] (by decide +kernel) (by decide +kernel)
set_option maxRecDepth 20000 in
theorem gX0_openSplit_X0_appendDraft : GoodIn wsX0_openSplit (wsV RX0 48 RX0 yX0_appendDraft wsX0_appendDraft) := goodIn_app (goodIn_of _ (by decide +kernel)) ggX0_openSplit_X0_appendDraft
theorem dX0_openSplit_0 : decode cX0_openSplit 0 = .ok (.iload_n 2, 1) := by decide +kernel
theorem dX0_openSplit_1 : decode cX0_openSplit 1 = .ok (.bipush (-16), 2) := by decide +kernel
theorem dX0_openSplit_3 : decode cX0_openSplit 3 = .ok (.if_icmp .lt 18, 3) := by decide +kernel
theorem dX0_openSplit_6 : decode cX0_openSplit 6 = .ok (.iload_n 2, 1) := by decide +kernel
theorem dX0_openSplit_7 : decode cX0_openSplit 7 = .ok (.bipush 15, 2) := by decide +kernel
theorem dX0_openSplit_9 : decode cX0_openSplit 9 = .ok (.if_icmp .gt 12, 3) := by decide +kernel
theorem dX0_openSplit_12 : decode cX0_openSplit 12 = .ok (.aload_n 0, 1) := by decide +kernel
theorem dX0_openSplit_13 : decode cX0_openSplit 13 = .ok (.getfield 26, 3) := by decide +kernel
theorem dX0_openSplit_16 : decode cX0_openSplit 16 = .ok (.bipush 10, 2) := by decide +kernel
theorem dX0_openSplit_18 : decode cX0_openSplit 18 = .ok (.if_icmp .lt 5, 3) := by decide +kernel
theorem dX0_openSplit_21 : decode cX0_openSplit 21 = .ok (.iconst (-1), 1) := by decide +kernel
theorem dX0_openSplit_22 : decode cX0_openSplit 22 = .ok (.ireturn, 1) := by decide +kernel
theorem dX0_openSplit_23 : decode cX0_openSplit 23 = .ok (.aload_n 0, 1) := by decide +kernel
theorem dX0_openSplit_24 : decode cX0_openSplit 24 = .ok (.iload_n 1, 1) := by decide +kernel
theorem dX0_openSplit_25 : decode cX0_openSplit 25 = .ok (.iconst 1, 1) := by decide +kernel
theorem dX0_openSplit_26 : decode cX0_openSplit 26 = .ok (.iload_n 2, 1) := by decide +kernel
theorem dX0_openSplit_27 : decode cX0_openSplit 27 = .ok (.invokevirtual 59, 3) := by decide +kernel
theorem dX0_openSplit_30 : decode cX0_openSplit 30 = .ok (.aload_n 0, 1) := by decide +kernel
theorem dX0_openSplit_31 : decode cX0_openSplit 31 = .ok (.invokevirtual 48, 3) := by decide +kernel
theorem dX0_openSplit_34 : decode cX0_openSplit 34 = .ok (.istore_n 3, 1) := by decide +kernel
theorem dX0_openSplit_35 : decode cX0_openSplit 35 = .ok (.iload_n 3, 1) := by decide +kernel
theorem dX0_openSplit_36 : decode cX0_openSplit 36 = .ok (.iconst (-1), 1) := by decide +kernel
theorem dX0_openSplit_37 : decode cX0_openSplit 37 = .ok (.if_icmp .ne 5, 3) := by decide +kernel
theorem dX0_openSplit_40 : decode cX0_openSplit 40 = .ok (.iconst (-1), 1) := by decide +kernel
theorem dX0_openSplit_41 : decode cX0_openSplit 41 = .ok (.ireturn, 1) := by decide +kernel
theorem dX0_openSplit_42 : decode cX0_openSplit 42 = .ok (.aload_n 0, 1) := by decide +kernel
theorem dX0_openSplit_43 : decode cX0_openSplit 43 = .ok (.getfield 26, 3) := by decide +kernel
theorem dX0_openSplit_46 : decode cX0_openSplit 46 = .ok (.iconst 4, 1) := by decide +kernel
theorem dX0_openSplit_47 : decode cX0_openSplit 47 = .ok (.imul, 1) := by decide +kernel
theorem dX0_openSplit_48 : decode cX0_openSplit 48 = .ok (.istore 4, 2) := by decide +kernel
theorem dX0_openSplit_50 : decode cX0_openSplit 50 = .ok (.aload_n 0, 1) := by decide +kernel
theorem dX0_openSplit_51 : decode cX0_openSplit 51 = .ok (.getfield 15, 3) := by decide +kernel
theorem dX0_openSplit_54 : decode cX0_openSplit 54 = .ok (.iload 4, 2) := by decide +kernel
theorem dX0_openSplit_56 : decode cX0_openSplit 56 = .ok (.iconst 0, 1) := by decide +kernel
theorem dX0_openSplit_57 : decode cX0_openSplit 57 = .ok (.iadd, 1) := by decide +kernel
theorem dX0_openSplit_58 : decode cX0_openSplit 58 = .ok (.iload_n 1, 1) := by decide +kernel
theorem dX0_openSplit_59 : decode cX0_openSplit 59 = .ok (.iastore, 1) := by decide +kernel
theorem dX0_openSplit_60 : decode cX0_openSplit 60 = .ok (.aload_n 0, 1) := by decide +kernel
theorem dX0_openSplit_61 : decode cX0_openSplit 61 = .ok (.getfield 15, 3) := by decide +kernel
theorem dX0_openSplit_64 : decode cX0_openSplit 64 = .ok (.iload 4, 2) := by decide +kernel
theorem dX0_openSplit_66 : decode cX0_openSplit 66 = .ok (.iconst 1, 1) := by decide +kernel
theorem dX0_openSplit_67 : decode cX0_openSplit 67 = .ok (.iadd, 1) := by decide +kernel
theorem dX0_openSplit_68 : decode cX0_openSplit 68 = .ok (.iload_n 2, 1) := by decide +kernel
theorem dX0_openSplit_69 : decode cX0_openSplit 69 = .ok (.iastore, 1) := by decide +kernel
theorem dX0_openSplit_70 : decode cX0_openSplit 70 = .ok (.aload_n 0, 1) := by decide +kernel
theorem dX0_openSplit_71 : decode cX0_openSplit 71 = .ok (.getfield 15, 3) := by decide +kernel
theorem dX0_openSplit_74 : decode cX0_openSplit 74 = .ok (.iload 4, 2) := by decide +kernel
theorem dX0_openSplit_76 : decode cX0_openSplit 76 = .ok (.iconst 2, 1) := by decide +kernel
theorem dX0_openSplit_77 : decode cX0_openSplit 77 = .ok (.iadd, 1) := by decide +kernel
theorem dX0_openSplit_78 : decode cX0_openSplit 78 = .ok (.iconst 1, 1) := by decide +kernel
theorem dX0_openSplit_79 : decode cX0_openSplit 79 = .ok (.iastore, 1) := by decide +kernel
theorem dX0_openSplit_80 : decode cX0_openSplit 80 = .ok (.aload_n 0, 1) := by decide +kernel
theorem dX0_openSplit_81 : decode cX0_openSplit 81 = .ok (.getfield 15, 3) := by decide +kernel
theorem dX0_openSplit_84 : decode cX0_openSplit 84 = .ok (.iload 4, 2) := by decide +kernel
theorem dX0_openSplit_86 : decode cX0_openSplit 86 = .ok (.iconst 3, 1) := by decide +kernel
theorem dX0_openSplit_87 : decode cX0_openSplit 87 = .ok (.iadd, 1) := by decide +kernel
theorem dX0_openSplit_88 : decode cX0_openSplit 88 = .ok (.iload_n 3, 1) := by decide +kernel
theorem dX0_openSplit_89 : decode cX0_openSplit 89 = .ok (.iastore, 1) := by decide +kernel
theorem dX0_openSplit_90 : decode cX0_openSplit 90 = .ok (.aload_n 0, 1) := by decide +kernel
theorem dX0_openSplit_91 : decode cX0_openSplit 91 = .ok (.dup, 1) := by decide +kernel
theorem dX0_openSplit_92 : decode cX0_openSplit 92 = .ok (.getfield 26, 3) := by decide +kernel
theorem dX0_openSplit_95 : decode cX0_openSplit 95 = .ok (.iconst 1, 1) := by decide +kernel
theorem dX0_openSplit_96 : decode cX0_openSplit 96 = .ok (.iadd, 1) := by decide +kernel
theorem dX0_openSplit_97 : decode cX0_openSplit 97 = .ok (.putfield 26, 3) := by decide +kernel
theorem dX0_openSplit_100 : decode cX0_openSplit 100 = .ok (.iload_n 3, 1) := by decide +kernel
theorem dX0_openSplit_101 : decode cX0_openSplit 101 = .ok (.ireturn, 1) := by decide +kernel
set_option maxRecDepth 20000 in
theorem ggX0_closeBranch_X0_hasLine : GoodIn wsX0_closeBranch wsX0_hasLine := goodIn_r _ [8, 9, 37, 38, 39, 40, 41, 42, 43] (by decide +kernel) (by decide +kernel)
set_option maxRecDepth 20000 in
theorem gX0_closeBranch_X0_hasLine : GoodIn wsX0_closeBranch (wsV RX0 36 RX0 yX0_hasLine wsX0_hasLine) := goodIn_app (goodIn_of _ (by decide +kernel)) ggX0_closeBranch_X0_hasLine
set_option maxRecDepth 20000 in
theorem ggX0_closeBranch_X0_isContradiction : GoodIn wsX0_closeBranch wsX0_isContradiction := goodIn_r _ [13, 14, 15, 16, 7, 17, 18, 37, 38, 39, 40, 41, 42, 43] (by decide +kernel) (by decide +kernel)
set_option maxRecDepth 20000 in
theorem gX0_closeBranch_X0_isContradiction : GoodIn wsX0_closeBranch (wsV RX0 63 RX0 yX0_isContradiction wsX0_isContradiction) := goodIn_app (goodIn_of _ (by decide +kernel)) ggX0_closeBranch_X0_isContradiction
set_option maxRecDepth 20000 in
theorem ggX0_closeBranch_X0_leaveBranch : GoodIn wsX0_closeBranch wsX0_leaveBranch := goodIn_r _ [22, 3, 9, 23, 1, 24, 25, 26, 7, 27, 28, 29, 30, 31, 32, 33, 34, 35, 36, 18, 37, 38, 39, 40, 41, 42, 43] (by decide +kernel) (by decide +kernel)
set_option maxRecDepth 20000 in
theorem gX0_closeBranch_X0_leaveBranch : GoodIn wsX0_closeBranch (wsV RX0 66 RX0 yX0_leaveBranch wsX0_leaveBranch) := goodIn_app (goodIn_of _ (by decide +kernel)) ggX0_closeBranch_X0_leaveBranch
theorem dX0_closeBranch_0 : decode cX0_closeBranch 0 = .ok (.aload_n 0, 1) := by decide +kernel
theorem dX0_closeBranch_1 : decode cX0_closeBranch 1 = .ok (.getfield 32, 3) := by decide +kernel
theorem dX0_closeBranch_4 : decode cX0_closeBranch 4 = .ok (.ifCond .ne 19, 3) := by decide +kernel
theorem dX0_closeBranch_7 : decode cX0_closeBranch 7 = .ok (.aload_n 0, 1) := by decide +kernel
theorem dX0_closeBranch_8 : decode cX0_closeBranch 8 = .ok (.iload_n 1, 1) := by decide +kernel
theorem dX0_closeBranch_9 : decode cX0_closeBranch 9 = .ok (.invokevirtual 36, 3) := by decide +kernel
theorem dX0_closeBranch_12 : decode cX0_closeBranch 12 = .ok (.ifCond .eq 11, 3) := by decide +kernel
theorem dX0_closeBranch_15 : decode cX0_closeBranch 15 = .ok (.aload_n 0, 1) := by decide +kernel
theorem dX0_closeBranch_16 : decode cX0_closeBranch 16 = .ok (.iload_n 1, 1) := by decide +kernel
theorem dX0_closeBranch_17 : decode cX0_closeBranch 17 = .ok (.invokevirtual 63, 3) := by decide +kernel
theorem dX0_closeBranch_20 : decode cX0_closeBranch 20 = .ok (.ifCond .ne 5, 3) := by decide +kernel
theorem dX0_closeBranch_23 : decode cX0_closeBranch 23 = .ok (.iconst (-1), 1) := by decide +kernel
theorem dX0_closeBranch_24 : decode cX0_closeBranch 24 = .ok (.ireturn, 1) := by decide +kernel
theorem dX0_closeBranch_25 : decode cX0_closeBranch 25 = .ok (.aload_n 0, 1) := by decide +kernel
theorem dX0_closeBranch_26 : decode cX0_closeBranch 26 = .ok (.dup, 1) := by decide +kernel
theorem dX0_closeBranch_27 : decode cX0_closeBranch 27 = .ok (.getfield 29, 3) := by decide +kernel
theorem dX0_closeBranch_30 : decode cX0_closeBranch 30 = .ok (.iconst 1, 1) := by decide +kernel
theorem dX0_closeBranch_31 : decode cX0_closeBranch 31 = .ok (.iadd, 1) := by decide +kernel
theorem dX0_closeBranch_32 : decode cX0_closeBranch 32 = .ok (.putfield 29, 3) := by decide +kernel
theorem dX0_closeBranch_35 : decode cX0_closeBranch 35 = .ok (.aload_n 0, 1) := by decide +kernel
theorem dX0_closeBranch_36 : decode cX0_closeBranch 36 = .ok (.invokevirtual 66, 3) := by decide +kernel
theorem dX0_closeBranch_39 : decode cX0_closeBranch 39 = .ok (.aload_n 0, 1) := by decide +kernel
theorem dX0_closeBranch_40 : decode cX0_closeBranch 40 = .ok (.getfield 26, 3) := by decide +kernel
theorem dX0_closeBranch_43 : decode cX0_closeBranch 43 = .ok (.ireturn, 1) := by decide +kernel
set_option maxRecDepth 20000 in
theorem ggX0_closeAll_X0_splitCell : GoodIn wsX0_closeAll wsX0_splitCell := goodIn_r _ [8, 9, 10, 11, 12, 13, 14, 15, 16] (by decide +kernel) (by decide +kernel)
set_option maxRecDepth 20000 in
theorem gX0_closeAll_X0_splitCell : GoodIn wsX0_closeAll (wsV RX0 69 RX0 yX0_splitCell wsX0_splitCell) := goodIn_app (goodIn_of _ (by decide +kernel)) ggX0_closeAll_X0_splitCell
theorem dX0_closeAll_0 : decode cX0_closeAll 0 = .ok (.aload_n 0, 1) := by decide +kernel
theorem dX0_closeAll_1 : decode cX0_closeAll 1 = .ok (.getfield 26, 3) := by decide +kernel
theorem dX0_closeAll_4 : decode cX0_closeAll 4 = .ok (.ifCond .le 13, 3) := by decide +kernel
theorem dX0_closeAll_7 : decode cX0_closeAll 7 = .ok (.aload_n 0, 1) := by decide +kernel
theorem dX0_closeAll_8 : decode cX0_closeAll 8 = .ok (.aload_n 0, 1) := by decide +kernel
theorem dX0_closeAll_9 : decode cX0_closeAll 9 = .ok (.iconst 0, 1) := by decide +kernel
theorem dX0_closeAll_10 : decode cX0_closeAll 10 = .ok (.iconst 3, 1) := by decide +kernel
theorem dX0_closeAll_11 : decode cX0_closeAll 11 = .ok (.invokevirtual 69, 3) := by decide +kernel
theorem dX0_closeAll_14 : decode cX0_closeAll 14 = .ok (.putfield 22, 3) := by decide +kernel
theorem dX0_closeAll_17 : decode cX0_closeAll 17 = .ok (.aload_n 0, 1) := by decide +kernel
theorem dX0_closeAll_18 : decode cX0_closeAll 18 = .ok (.iconst 0, 1) := by decide +kernel
theorem dX0_closeAll_19 : decode cX0_closeAll 19 = .ok (.putfield 26, 3) := by decide +kernel
theorem dX0_closeAll_22 : decode cX0_closeAll 22 = .ok (.aload_n 0, 1) := by decide +kernel
theorem dX0_closeAll_23 : decode cX0_closeAll 23 = .ok (.iconst 1, 1) := by decide +kernel
theorem dX0_closeAll_24 : decode cX0_closeAll 24 = .ok (.putfield 32, 3) := by decide +kernel
theorem dX0_closeAll_27 : decode cX0_closeAll 27 = .ok (.return_, 1) := by decide +kernel
set_option maxRecDepth 20000 in
theorem ggX0_leaveBranch_X0_splitCell : GoodIn wsX0_leaveBranch wsX0_splitCell := goodIn_r _ [9, 3, 20, 21, 22, 23, 24, 25, 26] (by decide +kernel) (by decide +kernel)
set_option maxRecDepth 20000 in
theorem gX0_leaveBranch_X0_splitCell : GoodIn wsX0_leaveBranch (wsV RX0 69 RX0 yX0_splitCell wsX0_splitCell) := goodIn_app (goodIn_of _ (by decide +kernel)) ggX0_leaveBranch_X0_splitCell
set_option maxRecDepth 20000 in
theorem ggX0_leaveBranch_X0_draftWord : GoodIn wsX0_leaveBranch wsX0_draftWord := goodIn_r _ [13, 14, 20, 21, 22, 23, 24, 25, 26] (by decide +kernel) (by decide +kernel)
set_option maxRecDepth 20000 in
theorem gX0_leaveBranch_X0_draftWord : GoodIn wsX0_leaveBranch (wsV RX0 59 RX0 yX0_draftWord wsX0_draftWord) := goodIn_app (goodIn_of _ (by decide +kernel)) ggX0_leaveBranch_X0_draftWord
set_option maxRecDepth 20000 in
theorem ggX0_leaveBranch_X0_appendDraft : GoodIn wsX0_leaveBranch wsX0_appendDraft := goodIn_r _ [18, 4, 2, 19, 14, 20, 21, 22, 23, 24, 25, 26] (by decide +kernel) (by decide +kernel)
set_option maxRecDepth 20000 in
theorem gX0_leaveBranch_X0_appendDraft : GoodIn wsX0_leaveBranch (wsV RX0 48 RX0 yX0_appendDraft wsX0_appendDraft) := goodIn_app (goodIn_of _ (by decide +kernel)) ggX0_leaveBranch_X0_appendDraft
theorem dX0_leaveBranch_0 : decode cX0_leaveBranch 0 = .ok (.aload_n 0, 1) := by decide +kernel
theorem dX0_leaveBranch_1 : decode cX0_leaveBranch 1 = .ok (.getfield 26, 3) := by decide +kernel
theorem dX0_leaveBranch_4 : decode cX0_leaveBranch 4 = .ok (.iconst 1, 1) := by decide +kernel
theorem dX0_leaveBranch_5 : decode cX0_leaveBranch 5 = .ok (.isub, 1) := by decide +kernel
theorem dX0_leaveBranch_6 : decode cX0_leaveBranch 6 = .ok (.istore_n 1, 1) := by decide +kernel
theorem dX0_leaveBranch_7 : decode cX0_leaveBranch 7 = .ok (.iload_n 1, 1) := by decide +kernel
theorem dX0_leaveBranch_8 : decode cX0_leaveBranch 8 = .ok (.ifCond .lt 71, 3) := by decide +kernel
theorem dX0_leaveBranch_11 : decode cX0_leaveBranch 11 = .ok (.aload_n 0, 1) := by decide +kernel
theorem dX0_leaveBranch_12 : decode cX0_leaveBranch 12 = .ok (.aload_n 0, 1) := by decide +kernel
theorem dX0_leaveBranch_13 : decode cX0_leaveBranch 13 = .ok (.iload_n 1, 1) := by decide +kernel
theorem dX0_leaveBranch_14 : decode cX0_leaveBranch 14 = .ok (.iconst 3, 1) := by decide +kernel
theorem dX0_leaveBranch_15 : decode cX0_leaveBranch 15 = .ok (.invokevirtual 69, 3) := by decide +kernel
theorem dX0_leaveBranch_18 : decode cX0_leaveBranch 18 = .ok (.putfield 22, 3) := by decide +kernel
theorem dX0_leaveBranch_21 : decode cX0_leaveBranch 21 = .ok (.aload_n 0, 1) := by decide +kernel
theorem dX0_leaveBranch_22 : decode cX0_leaveBranch 22 = .ok (.iload_n 1, 1) := by decide +kernel
theorem dX0_leaveBranch_23 : decode cX0_leaveBranch 23 = .ok (.iconst 2, 1) := by decide +kernel
theorem dX0_leaveBranch_24 : decode cX0_leaveBranch 24 = .ok (.invokevirtual 69, 3) := by decide +kernel
theorem dX0_leaveBranch_27 : decode cX0_leaveBranch 27 = .ok (.iconst 1, 1) := by decide +kernel
theorem dX0_leaveBranch_28 : decode cX0_leaveBranch 28 = .ok (.if_icmp .ne 40, 3) := by decide +kernel
theorem dX0_leaveBranch_31 : decode cX0_leaveBranch 31 = .ok (.aload_n 0, 1) := by decide +kernel
theorem dX0_leaveBranch_32 : decode cX0_leaveBranch 32 = .ok (.getfield 15, 3) := by decide +kernel
theorem dX0_leaveBranch_35 : decode cX0_leaveBranch 35 = .ok (.iload_n 1, 1) := by decide +kernel
theorem dX0_leaveBranch_36 : decode cX0_leaveBranch 36 = .ok (.iconst 4, 1) := by decide +kernel
theorem dX0_leaveBranch_37 : decode cX0_leaveBranch 37 = .ok (.imul, 1) := by decide +kernel
theorem dX0_leaveBranch_38 : decode cX0_leaveBranch 38 = .ok (.iconst 2, 1) := by decide +kernel
theorem dX0_leaveBranch_39 : decode cX0_leaveBranch 39 = .ok (.iadd, 1) := by decide +kernel
theorem dX0_leaveBranch_40 : decode cX0_leaveBranch 40 = .ok (.iconst 2, 1) := by decide +kernel
theorem dX0_leaveBranch_41 : decode cX0_leaveBranch 41 = .ok (.iastore, 1) := by decide +kernel
theorem dX0_leaveBranch_42 : decode cX0_leaveBranch 42 = .ok (.aload_n 0, 1) := by decide +kernel
theorem dX0_leaveBranch_43 : decode cX0_leaveBranch 43 = .ok (.aload_n 0, 1) := by decide +kernel
theorem dX0_leaveBranch_44 : decode cX0_leaveBranch 44 = .ok (.iload_n 1, 1) := by decide +kernel
theorem dX0_leaveBranch_45 : decode cX0_leaveBranch 45 = .ok (.iconst 0, 1) := by decide +kernel
theorem dX0_leaveBranch_46 : decode cX0_leaveBranch 46 = .ok (.invokevirtual 69, 3) := by decide +kernel
theorem dX0_leaveBranch_49 : decode cX0_leaveBranch 49 = .ok (.iconst (-1), 1) := by decide +kernel
theorem dX0_leaveBranch_50 : decode cX0_leaveBranch 50 = .ok (.aload_n 0, 1) := by decide +kernel
theorem dX0_leaveBranch_51 : decode cX0_leaveBranch 51 = .ok (.iload_n 1, 1) := by decide +kernel
theorem dX0_leaveBranch_52 : decode cX0_leaveBranch 52 = .ok (.iconst 1, 1) := by decide +kernel
theorem dX0_leaveBranch_53 : decode cX0_leaveBranch 53 = .ok (.invokevirtual 69, 3) := by decide +kernel
theorem dX0_leaveBranch_56 : decode cX0_leaveBranch 56 = .ok (.ineg, 1) := by decide +kernel
theorem dX0_leaveBranch_57 : decode cX0_leaveBranch 57 = .ok (.iconst 1, 1) := by decide +kernel
theorem dX0_leaveBranch_58 : decode cX0_leaveBranch 58 = .ok (.isub, 1) := by decide +kernel
theorem dX0_leaveBranch_59 : decode cX0_leaveBranch 59 = .ok (.invokevirtual 59, 3) := by decide +kernel
theorem dX0_leaveBranch_62 : decode cX0_leaveBranch 62 = .ok (.aload_n 0, 1) := by decide +kernel
theorem dX0_leaveBranch_63 : decode cX0_leaveBranch 63 = .ok (.invokevirtual 48, 3) := by decide +kernel
theorem dX0_leaveBranch_66 : decode cX0_leaveBranch 66 = .ok (.pop, 1) := by decide +kernel
theorem dX0_leaveBranch_67 : decode cX0_leaveBranch 67 = .ok (.return_, 1) := by decide +kernel
theorem dX0_leaveBranch_68 : decode cX0_leaveBranch 68 = .ok (.aload_n 0, 1) := by decide +kernel
theorem dX0_leaveBranch_69 : decode cX0_leaveBranch 69 = .ok (.iload_n 1, 1) := by decide +kernel
theorem dX0_leaveBranch_70 : decode cX0_leaveBranch 70 = .ok (.putfield 26, 3) := by decide +kernel
theorem dX0_leaveBranch_73 : decode cX0_leaveBranch 73 = .ok (.iinc 1 (-1), 3) := by decide +kernel
theorem dX0_leaveBranch_76 : decode cX0_leaveBranch 76 = .ok (.goto (-69), 3) := by decide +kernel
theorem dX0_leaveBranch_79 : decode cX0_leaveBranch 79 = .ok (.aload_n 0, 1) := by decide +kernel
theorem dX0_leaveBranch_80 : decode cX0_leaveBranch 80 = .ok (.iconst 1, 1) := by decide +kernel
theorem dX0_leaveBranch_81 : decode cX0_leaveBranch 81 = .ok (.putfield 32, 3) := by decide +kernel
theorem dX0_leaveBranch_84 : decode cX0_leaveBranch 84 = .ok (.return_, 1) := by decide +kernel
set_option maxRecDepth 20000 in
theorem ggX0_isContradiction_X0_lineCell : GoodIn wsX0_isContradiction wsX0_lineCell := goodIn_r _ [5, 6, 7, 8, 9, 10, 11, 12, 13] (by decide +kernel) (by decide +kernel)
set_option maxRecDepth 20000 in
theorem gX0_isContradiction_X0_lineCell : GoodIn wsX0_isContradiction (wsV RX0 40 RX0 yX0_lineCell wsX0_lineCell) := goodIn_app (goodIn_of _ (by decide +kernel)) ggX0_isContradiction_X0_lineCell
theorem dX0_isContradiction_0 : decode cX0_isContradiction 0 = .ok (.iconst 0, 1) := by decide +kernel
theorem dX0_isContradiction_1 : decode cX0_isContradiction 1 = .ok (.istore_n 2, 1) := by decide +kernel
theorem dX0_isContradiction_2 : decode cX0_isContradiction 2 = .ok (.iload_n 2, 1) := by decide +kernel
theorem dX0_isContradiction_3 : decode cX0_isContradiction 3 = .ok (.iconst 4, 1) := by decide +kernel
theorem dX0_isContradiction_4 : decode cX0_isContradiction 4 = .ok (.if_icmp .ge 22, 3) := by decide +kernel
theorem dX0_isContradiction_7 : decode cX0_isContradiction 7 = .ok (.aload_n 0, 1) := by decide +kernel
theorem dX0_isContradiction_8 : decode cX0_isContradiction 8 = .ok (.iload_n 1, 1) := by decide +kernel
theorem dX0_isContradiction_9 : decode cX0_isContradiction 9 = .ok (.iload_n 2, 1) := by decide +kernel
theorem dX0_isContradiction_10 : decode cX0_isContradiction 10 = .ok (.invokevirtual 40, 3) := by decide +kernel
theorem dX0_isContradiction_13 : decode cX0_isContradiction 13 = .ok (.lconst 0, 1) := by decide +kernel
theorem dX0_isContradiction_14 : decode cX0_isContradiction 14 = .ok (.lcmp, 1) := by decide +kernel
theorem dX0_isContradiction_15 : decode cX0_isContradiction 15 = .ok (.ifCond .eq 5, 3) := by decide +kernel
theorem dX0_isContradiction_18 : decode cX0_isContradiction 18 = .ok (.iconst 0, 1) := by decide +kernel
theorem dX0_isContradiction_19 : decode cX0_isContradiction 19 = .ok (.ireturn, 1) := by decide +kernel
theorem dX0_isContradiction_20 : decode cX0_isContradiction 20 = .ok (.iinc 2 1, 3) := by decide +kernel
theorem dX0_isContradiction_23 : decode cX0_isContradiction 23 = .ok (.goto (-21), 3) := by decide +kernel
theorem dX0_isContradiction_26 : decode cX0_isContradiction 26 = .ok (.aload_n 0, 1) := by decide +kernel
theorem dX0_isContradiction_27 : decode cX0_isContradiction 27 = .ok (.iload_n 1, 1) := by decide +kernel
theorem dX0_isContradiction_28 : decode cX0_isContradiction 28 = .ok (.iconst 4, 1) := by decide +kernel
theorem dX0_isContradiction_29 : decode cX0_isContradiction 29 = .ok (.invokevirtual 40, 3) := by decide +kernel
theorem dX0_isContradiction_32 : decode cX0_isContradiction 32 = .ok (.lconst 0, 1) := by decide +kernel
theorem dX0_isContradiction_33 : decode cX0_isContradiction 33 = .ok (.lcmp, 1) := by decide +kernel
theorem dX0_isContradiction_34 : decode cX0_isContradiction 34 = .ok (.ifCond .ge 7, 3) := by decide +kernel
theorem dX0_isContradiction_37 : decode cX0_isContradiction 37 = .ok (.iconst 1, 1) := by decide +kernel
theorem dX0_isContradiction_38 : decode cX0_isContradiction 38 = .ok (.goto 4, 3) := by decide +kernel
theorem dX0_isContradiction_41 : decode cX0_isContradiction 41 = .ok (.iconst 0, 1) := by decide +kernel
theorem dX0_isContradiction_42 : decode cX0_isContradiction 42 = .ok (.ireturn, 1) := by decide +kernel
theorem dX0_draftIsInRange_0 : decode cX0_draftIsInRange 0 = .ok (.iconst 0, 1) := by decide +kernel
theorem dX0_draftIsInRange_1 : decode cX0_draftIsInRange 1 = .ok (.istore_n 1, 1) := by decide +kernel
theorem dX0_draftIsInRange_2 : decode cX0_draftIsInRange 2 = .ok (.iload_n 1, 1) := by decide +kernel
theorem dX0_draftIsInRange_3 : decode cX0_draftIsInRange 3 = .ok (.iconst 4, 1) := by decide +kernel
theorem dX0_draftIsInRange_4 : decode cX0_draftIsInRange 4 = .ok (.if_icmp .ge 37, 3) := by decide +kernel
theorem dX0_draftIsInRange_7 : decode cX0_draftIsInRange 7 = .ok (.aload_n 0, 1) := by decide +kernel
theorem dX0_draftIsInRange_8 : decode cX0_draftIsInRange 8 = .ok (.getfield 19, 3) := by decide +kernel
theorem dX0_draftIsInRange_11 : decode cX0_draftIsInRange 11 = .ok (.iload_n 1, 1) := by decide +kernel
theorem dX0_draftIsInRange_12 : decode cX0_draftIsInRange 12 = .ok (.laload, 1) := by decide +kernel
theorem dX0_draftIsInRange_13 : decode cX0_draftIsInRange 13 = .ok (.ldc2_w 73, 3) := by decide +kernel
theorem dX0_draftIsInRange_16 : decode cX0_draftIsInRange 16 = .ok (.lcmp, 1) := by decide +kernel
theorem dX0_draftIsInRange_17 : decode cX0_draftIsInRange 17 = .ok (.ifCond .lt 16, 3) := by decide +kernel
theorem dX0_draftIsInRange_20 : decode cX0_draftIsInRange 20 = .ok (.aload_n 0, 1) := by decide +kernel
theorem dX0_draftIsInRange_21 : decode cX0_draftIsInRange 21 = .ok (.getfield 19, 3) := by decide +kernel
theorem dX0_draftIsInRange_24 : decode cX0_draftIsInRange 24 = .ok (.iload_n 1, 1) := by decide +kernel
theorem dX0_draftIsInRange_25 : decode cX0_draftIsInRange 25 = .ok (.laload, 1) := by decide +kernel
theorem dX0_draftIsInRange_26 : decode cX0_draftIsInRange 26 = .ok (.ldc2_w 75, 3) := by decide +kernel
theorem dX0_draftIsInRange_29 : decode cX0_draftIsInRange 29 = .ok (.lcmp, 1) := by decide +kernel
theorem dX0_draftIsInRange_30 : decode cX0_draftIsInRange 30 = .ok (.ifCond .le 5, 3) := by decide +kernel
theorem dX0_draftIsInRange_33 : decode cX0_draftIsInRange 33 = .ok (.iconst 0, 1) := by decide +kernel
theorem dX0_draftIsInRange_34 : decode cX0_draftIsInRange 34 = .ok (.ireturn, 1) := by decide +kernel
theorem dX0_draftIsInRange_35 : decode cX0_draftIsInRange 35 = .ok (.iinc 1 1, 3) := by decide +kernel
theorem dX0_draftIsInRange_38 : decode cX0_draftIsInRange 38 = .ok (.goto (-36), 3) := by decide +kernel
theorem dX0_draftIsInRange_41 : decode cX0_draftIsInRange 41 = .ok (.aload_n 0, 1) := by decide +kernel
theorem dX0_draftIsInRange_42 : decode cX0_draftIsInRange 42 = .ok (.getfield 19, 3) := by decide +kernel
theorem dX0_draftIsInRange_45 : decode cX0_draftIsInRange 45 = .ok (.iconst 4, 1) := by decide +kernel
theorem dX0_draftIsInRange_46 : decode cX0_draftIsInRange 46 = .ok (.laload, 1) := by decide +kernel
theorem dX0_draftIsInRange_47 : decode cX0_draftIsInRange 47 = .ok (.ldc2_w 77, 3) := by decide +kernel
theorem dX0_draftIsInRange_50 : decode cX0_draftIsInRange 50 = .ok (.lcmp, 1) := by decide +kernel
theorem dX0_draftIsInRange_51 : decode cX0_draftIsInRange 51 = .ok (.ifCond .lt 20, 3) := by decide +kernel
theorem dX0_draftIsInRange_54 : decode cX0_draftIsInRange 54 = .ok (.aload_n 0, 1) := by decide +kernel
theorem dX0_draftIsInRange_55 : decode cX0_draftIsInRange 55 = .ok (.getfield 19, 3) := by decide +kernel
theorem dX0_draftIsInRange_58 : decode cX0_draftIsInRange 58 = .ok (.iconst 4, 1) := by decide +kernel
theorem dX0_draftIsInRange_59 : decode cX0_draftIsInRange 59 = .ok (.laload, 1) := by decide +kernel
theorem dX0_draftIsInRange_60 : decode cX0_draftIsInRange 60 = .ok (.ldc2_w 79, 3) := by decide +kernel
theorem dX0_draftIsInRange_63 : decode cX0_draftIsInRange 63 = .ok (.lcmp, 1) := by decide +kernel
theorem dX0_draftIsInRange_64 : decode cX0_draftIsInRange 64 = .ok (.ifCond .gt 7, 3) := by decide +kernel
theorem dX0_draftIsInRange_67 : decode cX0_draftIsInRange 67 = .ok (.iconst 1, 1) := by decide +kernel
theorem dX0_draftIsInRange_68 : decode cX0_draftIsInRange 68 = .ok (.goto 4, 3) := by decide +kernel
theorem dX0_draftIsInRange_71 : decode cX0_draftIsInRange 71 = .ok (.iconst 0, 1) := by decide +kernel
theorem dX0_draftIsInRange_72 : decode cX0_draftIsInRange 72 = .ok (.ireturn, 1) := by decide +kernel
