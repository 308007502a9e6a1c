set_option maxRecDepth 20000 in
theorem ggX3_init_X1_init : GoodIn wsX3_init wsX1_init := goodIn_r _ [19, 20, 2, 3, 21, 22, 23, 24, 25, 57, 58, 59, 60] (by decide +kernel) (by decide +kernel)
set_option maxRecDepth 20000 in
theorem gX3_init_X1_init : GoodIn wsX3_init (wsX1_init) := ggX3_init_X1_init
set_option maxRecDepth 20000 in
theorem ggX3_init_X0_init : GoodIn wsX3_init wsX0_init := goodIn_r _ [28, 29, 2, 3, 30, 31, 21, 32, 33, 34, 35, 36, 37, 65, 66, 67, 68, 69, 70, 71] (by decide +kernel) (by decide +kernel)
set_option maxRecDepth 20000 in
theorem gX3_init_X0_init : GoodIn wsX3_init (wsX0_init) := ggX3_init_X0_init
set_option maxRecDepth 20000 in
theorem ggX3_init_X2_init : GoodIn wsX3_init wsX2_init := goodIn_r _ [40, 41, 2, 3, 42, 21, 43, 44, 45, 46, 47, 48, 49, 50, 51, 52, 53, 54, 55, 56, 72, 73, 74, 75, 76, 77, 78, 79, 80, 81, 82, 83, 84, 85, 86] (by decide +kernel) (by decide +kernel)
set_option maxRecDepth 20000 in
theorem gX3_init_X2_init : GoodIn wsX3_init (wsX2_init) := ggX3_init_X2_init
theorem dX3_init_0 : decode cX3_init 0 = .ok (.aload_n 0, 1) := by decide +kernel
theorem dX3_init_1 : decode cX3_init 1 = .ok (.invokespecial 1, 3) := by decide +kernel
theorem dX3_init_4 : decode cX3_init 4 = .ok (.aload_n 0, 1) := by decide +kernel
theorem dX3_init_5 : decode cX3_init 5 = .ok (.new 7, 3) := by decide +kernel
theorem dX3_init_8 : decode cX3_init 8 = .ok (.dup, 1) := by decide +kernel
theorem dX3_init_9 : decode cX3_init 9 = .ok (.invokespecial 9, 3) := by decide +kernel
theorem dX3_init_12 : decode cX3_init 12 = .ok (.putfield 10, 3) := by decide +kernel
theorem dX3_init_15 : decode cX3_init 15 = .ok (.aload_n 0, 1) := by decide +kernel
theorem dX3_init_16 : decode cX3_init 16 = .ok (.new 16, 3) := by decide +kernel
theorem dX3_init_19 : decode cX3_init 19 = .ok (.dup, 1) := by decide +kernel
theorem dX3_init_20 : decode cX3_init 20 = .ok (.invokespecial 18, 3) := by decide +kernel
theorem dX3_init_23 : decode cX3_init 23 = .ok (.putfield 19, 3) := by decide +kernel
theorem dX3_init_26 : decode cX3_init 26 = .ok (.aload_n 0, 1) := by decide +kernel
theorem dX3_init_27 : decode cX3_init 27 = .ok (.new 23, 3) := by decide +kernel
theorem dX3_init_30 : decode cX3_init 30 = .ok (.dup, 1) := by decide +kernel
theorem dX3_init_31 : decode cX3_init 31 = .ok (.aload_n 0, 1) := by decide +kernel
theorem dX3_init_32 : decode cX3_init 32 = .ok (.getfield 10, 3) := by decide +kernel
theorem dX3_init_35 : decode cX3_init 35 = .ok (.invokespecial 25, 3) := by decide +kernel
theorem dX3_init_38 : decode cX3_init 38 = .ok (.putfield 28, 3) := by decide +kernel
theorem dX3_init_41 : decode cX3_init 41 = .ok (.aload_n 0, 1) := by decide +kernel
theorem dX3_init_42 : decode cX3_init 42 = .ok (.iconst 0, 1) := by decide +kernel
theorem dX3_init_43 : decode cX3_init 43 = .ok (.putfield 32, 3) := by decide +kernel
theorem dX3_init_46 : decode cX3_init 46 = .ok (.return_, 1) := by decide +kernel
set_option maxRecDepth 20000 in
theorem ggX3_row_X1_append : GoodIn wsX3_row wsX1_append := goodIn_r _ [6, 7, 8, 9, 10, 5, 11, 32, 33, 34, 35] (by decide +kernel) (by decide +kernel)
set_option maxRecDepth 20000 in
theorem gX3_row_X1_append : GoodIn wsX3_row (wsV RX3 36 RX1 yX1_append wsX1_append) := goodIn_app (goodIn_of _ (by decide +kernel)) ggX3_row_X1_append
set_option maxRecDepth 20000 in
theorem ggX3_row_X3_startAnew : GoodIn wsX3_row wsX3_startAnew := goodIn_r _ [16, 17, 18, 19, 20, 21, 22, 23, 24, 25, 26, 27, 28, 29, 30, 31, 36, 37, 38, 39, 40, 41, 42] (by decide +kernel) (by decide +kernel)
set_option maxRecDepth 20000 in
theorem gX3_row_X3_startAnew : GoodIn wsX3_row (wsV RX3 40 RX3 yX3_startAnew wsX3_startAnew) := goodIn_app (goodIn_of _ (by decide +kernel)) ggX3_row_X3_startAnew
theorem dX3_row_0 : decode cX3_row 0 = .ok (.aload_n 0, 1) := by decide +kernel
theorem dX3_row_1 : decode cX3_row 1 = .ok (.getfield 10, 3) := by decide +kernel
theorem dX3_row_4 : decode cX3_row 4 = .ok (.iload_n 1, 1) := by decide +kernel
theorem dX3_row_5 : decode cX3_row 5 = .ok (.iload_n 2, 1) := by decide +kernel
theorem dX3_row_6 : decode cX3_row 6 = .ok (.iload_n 3, 1) := by decide +kernel
theorem dX3_row_7 : decode cX3_row 7 = .ok (.iload 4, 2) := by decide +kernel
theorem dX3_row_9 : decode cX3_row 9 = .ok (.iload 5, 2) := by decide +kernel
theorem dX3_row_11 : decode cX3_row 11 = .ok (.iload 6, 2) := by decide +kernel
theorem dX3_row_13 : decode cX3_row 13 = .ok (.invokevirtual 36, 3) := by decide +kernel
theorem dX3_row_16 : decode cX3_row 16 = .ok (.istore 7, 2) := by decide +kernel
theorem dX3_row_18 : decode cX3_row 18 = .ok (.iload 7, 2) := by decide +kernel
theorem dX3_row_20 : decode cX3_row 20 = .ok (.iconst (-1), 1) := by decide +kernel
theorem dX3_row_21 : decode cX3_row 21 = .ok (.if_icmp .eq 7, 3) := by decide +kernel
theorem dX3_row_24 : decode cX3_row 24 = .ok (.aload_n 0, 1) := by decide +kernel
theorem dX3_row_25 : decode cX3_row 25 = .ok (.invokevirtual 40, 3) := by decide +kernel
theorem dX3_row_28 : decode cX3_row 28 = .ok (.iload 7, 2) := by decide +kernel
theorem dX3_row_30 : decode cX3_row 30 = .ok (.ireturn, 1) := by decide +kernel
set_option maxRecDepth 20000 in
theorem ggX3_push_X1_beginLayer : GoodIn wsX3_push wsX1_beginLayer := goodIn_r _ [6, 7, 8, 9, 30, 31, 32, 33] (by decide +kernel) (by decide +kernel)
set_option maxRecDepth 20000 in
theorem gX3_push_X1_beginLayer : GoodIn wsX3_push (wsV RX3 43 RX1 yX1_beginLayer wsX1_beginLayer) := goodIn_app (goodIn_of _ (by decide +kernel)) ggX3_push_X1_beginLayer
set_option maxRecDepth 20000 in
theorem ggX3_push_X3_startAnew : GoodIn wsX3_push wsX3_startAnew := goodIn_r _ [14, 15, 16, 17, 18, 19, 20, 21, 22, 23, 24, 25, 26, 27, 28, 29, 34, 35, 36, 37, 38, 39, 40] (by decide +kernel) (by decide +kernel)
set_option maxRecDepth 20000 in
theorem gX3_push_X3_startAnew : GoodIn wsX3_push (wsV RX3 40 RX3 yX3_startAnew wsX3_startAnew) := goodIn_app (goodIn_of _ (by decide +kernel)) ggX3_push_X3_startAnew
theorem dX3_push_0 : decode cX3_push 0 = .ok (.aload_n 0, 1) := by decide +kernel
theorem dX3_push_1 : decode cX3_push 1 = .ok (.getfield 10, 3) := by decide +kernel
theorem dX3_push_4 : decode cX3_push 4 = .ok (.invokevirtual 43, 3) := by decide +kernel
theorem dX3_push_7 : decode cX3_push 7 = .ok (.istore_n 1, 1) := by decide +kernel
theorem dX3_push_8 : decode cX3_push 8 = .ok (.iload_n 1, 1) := by decide +kernel
theorem dX3_push_9 : decode cX3_push 9 = .ok (.iconst (-1), 1) := by decide +kernel
theorem dX3_push_10 : decode cX3_push 10 = .ok (.if_icmp .eq 7, 3) := by decide +kernel
theorem dX3_push_13 : decode cX3_push 13 = .ok (.aload_n 0, 1) := by decide +kernel
theorem dX3_push_14 : decode cX3_push 14 = .ok (.invokevirtual 40, 3) := by decide +kernel
theorem dX3_push_17 : decode cX3_push 17 = .ok (.iload_n 1, 1) := by decide +kernel
theorem dX3_push_18 : decode cX3_push 18 = .ok (.ireturn, 1) := by decide +kernel
set_option maxRecDepth 20000 in
theorem ggX3_pop_X1_dropLayer : GoodIn wsX3_pop wsX1_dropLayer := goodIn_r _ [6, 7, 8, 9, 30, 31, 32, 33] (by decide +kernel) (by decide +kernel)
set_option maxRecDepth 20000 in
theorem gX3_pop_X1_dropLayer : GoodIn wsX3_pop (wsV RX3 47 RX1 yX1_dropLayer wsX1_dropLayer) := goodIn_app (goodIn_of _ (by decide +kernel)) ggX3_pop_X1_dropLayer
set_option maxRecDepth 20000 in
theorem ggX3_pop_X3_startAnew : GoodIn wsX3_pop wsX3_startAnew := goodIn_r _ [14, 15, 16, 17, 18, 19, 20, 21, 22, 23, 24, 25, 26, 27, 28, 29, 34, 35, 36, 37, 38, 39, 40] (by decide +kernel) (by decide +kernel)
set_option maxRecDepth 20000 in
theorem gX3_pop_X3_startAnew : GoodIn wsX3_pop (wsV RX3 40 RX3 yX3_startAnew wsX3_startAnew) := goodIn_app (goodIn_of _ (by decide +kernel)) ggX3_pop_X3_startAnew
theorem dX3_pop_0 : decode cX3_pop 0 = .ok (.aload_n 0, 1) := by decide +kernel
theorem dX3_pop_1 : decode cX3_pop 1 = .ok (.getfield 10, 3) := by decide +kernel
theorem dX3_pop_4 : decode cX3_pop 4 = .ok (.invokevirtual 47, 3) := by decide +kernel
theorem dX3_pop_7 : decode cX3_pop 7 = .ok (.istore_n 1, 1) := by decide +kernel
theorem dX3_pop_8 : decode cX3_pop 8 = .ok (.iload_n 1, 1) := by decide +kernel
theorem dX3_pop_9 : decode cX3_pop 9 = .ok (.iconst (-1), 1) := by decide +kernel
theorem dX3_pop_10 : decode cX3_pop 10 = .ok (.if_icmp .eq 7, 3) := by decide +kernel
theorem dX3_pop_13 : decode cX3_pop 13 = .ok (.aload_n 0, 1) := by decide +kernel
theorem dX3_pop_14 : decode cX3_pop 14 = .ok (.invokevirtual 40, 3) := by decide +kernel
theorem dX3_pop_17 : decode cX3_pop 17 = .ok (.iload_n 1, 1) := by decide +kernel
theorem dX3_pop_18 : decode cX3_pop 18 = .ok (.ireturn, 1) := by decide +kernel
set_option maxRecDepth 20000 in
theorem ggX3_ofRow_X1_has : GoodIn wsX3_ofRow wsX1_has := goodIn_r _ [7, 8, 18, 19, 20, 21] (by decide +kernel) (by decide +kernel)
set_option maxRecDepth 20000 in
theorem gX3_ofRow_X1_has : GoodIn wsX3_ofRow (wsV RX3 50 RX1 yX1_has wsX1_has) := goodIn_app (goodIn_of _ (by decide +kernel)) ggX3_ofRow_X1_has
set_option maxRecDepth 20000 in
theorem ggX3_ofRow_X1_cell : GoodIn wsX3_ofRow wsX1_cell := goodIn_r _ [12, 13, 18, 19, 20, 21] (by decide +kernel) (by decide +kernel)
set_option maxRecDepth 20000 in
theorem gX3_ofRow_X1_cell : GoodIn wsX3_ofRow (wsV RX3 54 RX1 yX1_cell wsX1_cell) := goodIn_app (goodIn_of _ (by decide +kernel)) ggX3_ofRow_X1_cell
theorem dX3_ofRow_0 : decode cX3_ofRow 0 = .ok (.aload_n 0, 1) := by decide +kernel
theorem dX3_ofRow_1 : decode cX3_ofRow 1 = .ok (.getfield 10, 3) := by decide +kernel
theorem dX3_ofRow_4 : decode cX3_ofRow 4 = .ok (.iload_n 1, 1) := by decide +kernel
theorem dX3_ofRow_5 : decode cX3_ofRow 5 = .ok (.invokevirtual 50, 3) := by decide +kernel
theorem dX3_ofRow_8 : decode cX3_ofRow 8 = .ok (.ifCond .eq 25, 3) := by decide +kernel
theorem dX3_ofRow_11 : decode cX3_ofRow 11 = .ok (.iload_n 2, 1) := by decide +kernel
theorem dX3_ofRow_12 : decode cX3_ofRow 12 = .ok (.ifCond .lt 21, 3) := by decide +kernel
theorem dX3_ofRow_15 : decode cX3_ofRow 15 = .ok (.iload_n 2, 1) := by decide +kernel
theorem dX3_ofRow_16 : decode cX3_ofRow 16 = .ok (.bipush 6, 2) := by decide +kernel
theorem dX3_ofRow_18 : decode cX3_ofRow 18 = .ok (.if_icmp .ge 15, 3) := by decide +kernel
theorem dX3_ofRow_21 : decode cX3_ofRow 21 = .ok (.aload_n 0, 1) := by decide +kernel
theorem dX3_ofRow_22 : decode cX3_ofRow 22 = .ok (.getfield 10, 3) := by decide +kernel
theorem dX3_ofRow_25 : decode cX3_ofRow 25 = .ok (.iload_n 1, 1) := by decide +kernel
theorem dX3_ofRow_26 : decode cX3_ofRow 26 = .ok (.iload_n 2, 1) := by decide +kernel
theorem dX3_ofRow_27 : decode cX3_ofRow 27 = .ok (.invokevirtual 54, 3) := by decide +kernel
theorem dX3_ofRow_30 : decode cX3_ofRow 30 = .ok (.goto 5, 3) := by decide +kernel
theorem dX3_ofRow_33 : decode cX3_ofRow 33 = .ok (.ldc 60, 2) := by decide +kernel
theorem dX3_ofRow_35 : decode cX3_ofRow 35 = .ok (.ireturn, 1) := by decide +kernel
set_option maxRecDepth 20000 in
theorem ggX3_decide_X3_learn : GoodIn wsX3_decide wsX3_learn := goodIn_r _ [6, 7, 1, 8, 9, 10, 11, 12, 13, 14, 15, 16, 17, 18, 19, 20, 21, 22, 23, 24, 25, 26, 27, 28, 29, 30, 31, 32, 33, 34, 35, 36, 37, 38, 39, 40, 41, 42, 43, 44, 45, 46, 47, 48, 49, 50, 51, 52, 53, 54, 55, 56, 57, 58, 59, 60, 61, 62, 63, 64, 65, 66, 67, 68, 69, 70, 71, 72, 73, 74, 75, 76, 77, 78, 79, 80, 81, 82, 83, 84, 85, 86, 87, 88, 93, 94, 95, 96, 97, 98, 99, 100, 101, 102, 103, 104, 105, 106, 107, 108, 109, 110, 111, 112, 113, 114, 115] (by decide +kernel) (by decide +kernel)
set_option maxRecDepth 20000 in
theorem gX3_decide_X3_learn : GoodIn wsX3_decide (wsV RX3 61 RX3 yX3_learn wsX3_learn) := goodIn_app (goodIn_of _ (by decide +kernel)) ggX3_decide_X3_learn
set_option maxRecDepth 20000 in
theorem ggX3_decide_X2_found : GoodIn wsX3_decide wsX2_found := goodIn_r _ [92, 14, 97, 98, 99, 100, 101, 102, 103, 104, 105, 106, 107, 108, 109, 110, 111] (by decide +kernel) (by decide +kernel)
set_option maxRecDepth 20000 in
theorem gX3_decide_X2_found : GoodIn wsX3_decide (wsV RX3 65 RX2 yX2_found wsX2_found) := goodIn_app (goodIn_of _ (by decide +kernel)) ggX3_decide_X2_found
theorem dX3_decide_0 : decode cX3_decide 0 = .ok (.aload_n 0, 1) := by decide +kernel
theorem dX3_decide_1 : decode cX3_decide 1 = .ok (.iconst 1, 1) := by decide +kernel
theorem dX3_decide_2 : decode cX3_decide 2 = .ok (.invokevirtual 61, 3) := by decide +kernel
theorem dX3_decide_5 : decode cX3_decide 5 = .ok (.aload_n 0, 1) := by decide +kernel
theorem dX3_decide_6 : decode cX3_decide 6 = .ok (.getfield 28, 3) := by decide +kernel
theorem dX3_decide_9 : decode cX3_decide 9 = .ok (.invokevirtual 65, 3) := by decide +kernel
theorem dX3_decide_12 : decode cX3_decide 12 = .ok (.ifCond .le 7, 3) := by decide +kernel
theorem dX3_decide_15 : decode cX3_decide 15 = .ok (.iconst 1, 1) := by decide +kernel
theorem dX3_decide_16 : decode cX3_decide 16 = .ok (.goto 4, 3) := by decide +kernel
theorem dX3_decide_19 : decode cX3_decide 19 = .ok (.iconst 0, 1) := by decide +kernel
theorem dX3_decide_20 : decode cX3_decide 20 = .ok (.ireturn, 1) := by decide +kernel
set_option maxRecDepth 20000 in
theorem ggX3_first_X3_isWord : GoodIn wsX3_first wsX3_isWord := goodIn_r _ [5] (by decide +kernel) (by decide +kernel)
set_option maxRecDepth 20000 in
theorem gX3_first_X3_isWord : GoodIn wsX3_first (va_wsS RX3 68 yX3_isWord wsX3_isWord) := goodIn_app (goodIn_of _ (by decide +kernel)) ggX3_first_X3_isWord
set_option maxRecDepth 20000 in
theorem ggX3_first_X3_learn : GoodIn wsX3_first wsX3_learn := goodIn_r _ [9, 10, 1, 11, 12, 13, 14, 15, 16, 17, 18, 19, 20, 21, 22, 23, 24, 25, 26, 27, 28, 29, 30, 31, 32, 33, 34, 35, 36, 37, 38, 39, 40, 41, 42, 43, 44, 45, 46, 47, 48, 49, 50, 51, 52, 53, 54, 55, 56, 57, 58, 59, 60, 61, 62, 63, 64, 65, 66, 67, 68, 69, 70, 71, 72, 73, 74, 75, 76, 77, 78, 79, 80, 81, 82, 83, 84, 85, 86, 87, 88, 89, 90, 91, 100, 101, 102, 103, 104, 105, 106, 107, 108, 109, 110, 111, 112, 113, 114, 115, 116, 117, 118, 119, 120, 121, 122] (by decide +kernel) (by decide +kernel)
set_option maxRecDepth 20000 in
theorem gX3_first_X3_learn : GoodIn wsX3_first (wsV RX3 61 RX3 yX3_learn wsX3_learn) := goodIn_app (goodIn_of _ (by decide +kernel)) ggX3_first_X3_learn
set_option maxRecDepth 20000 in
theorem ggX3_first_X2_found : GoodIn wsX3_first wsX2_found := goodIn_r _ [95, 17, 104, 105, 106, 107, 108, 109, 110, 111, 112, 113, 114, 115, 116, 117, 118] (by decide +kernel) (by decide +kernel)
set_option maxRecDepth 20000 in
theorem gX3_first_X2_found : GoodIn wsX3_first (wsV RX3 65 RX2 yX2_found wsX2_found) := goodIn_app (goodIn_of _ (by decide +kernel)) ggX3_first_X2_found
set_option maxRecDepth 20000 in
theorem ggX3_first_X2_firstValue : GoodIn wsX3_first wsX2_firstValue := goodIn_r _ [99, 75, 104, 105, 106, 107, 108, 109, 110, 111, 112, 113, 114, 115, 116, 117, 118] (by decide +kernel) (by decide +kernel)
set_option maxRecDepth 20000 in
theorem gX3_first_X2_firstValue : GoodIn wsX3_first (wsV RX3 71 RX2 yX2_firstValue wsX2_firstValue) := goodIn_app (goodIn_of _ (by decide +kernel)) ggX3_first_X2_firstValue
theorem dX3_first_0 : decode cX3_first 0 = .ok (.iload_n 1, 1) := by decide +kernel
theorem dX3_first_1 : decode cX3_first 1 = .ok (.invokestatic 68, 3) := by decide +kernel
theorem dX3_first_4 : decode cX3_first 4 = .ok (.ifCond .ne 6, 3) := by decide +kernel
theorem dX3_first_7 : decode cX3_first 7 = .ok (.bipush (-100), 2) := by decide +kernel
theorem dX3_first_9 : decode cX3_first 9 = .ok (.ireturn, 1) := by decide +kernel
theorem dX3_first_10 : decode cX3_first 10 = .ok (.aload_n 0, 1) := by decide +kernel
theorem dX3_first_11 : decode cX3_first 11 = .ok (.iconst 1, 1) := by decide +kernel
theorem dX3_first_12 : decode cX3_first 12 = .ok (.invokevirtual 61, 3) := by decide +kernel
theorem dX3_first_15 : decode cX3_first 15 = .ok (.aload_n 0, 1) := by decide +kernel
theorem dX3_first_16 : decode cX3_first 16 = .ok (.getfield 28, 3) := by decide +kernel
theorem dX3_first_19 : decode cX3_first 19 = .ok (.invokevirtual 65, 3) := by decide +kernel
theorem dX3_first_22 : decode cX3_first 22 = .ok (.ifCond .le 14, 3) := by decide +kernel
theorem dX3_first_25 : decode cX3_first 25 = .ok (.aload_n 0, 1) := by decide +kernel
theorem dX3_first_26 : decode cX3_first 26 = .ok (.getfield 28, 3) := by decide +kernel
theorem dX3_first_29 : decode cX3_first 29 = .ok (.iload_n 1, 1) := by decide +kernel
theorem dX3_first_30 : decode cX3_first 30 = .ok (.invokevirtual 71, 3) := by decide +kernel
theorem dX3_first_33 : decode cX3_first 33 = .ok (.goto 5, 3) := by decide +kernel
theorem dX3_first_36 : decode cX3_first 36 = .ok (.bipush (-100), 2) := by decide +kernel
theorem dX3_first_38 : decode cX3_first 38 = .ok (.ireturn, 1) := by decide +kernel
set_option maxRecDepth 20000 in
theorem ggX3_solutions_X3_learn : GoodIn wsX3_solutions wsX3_learn := goodIn_r _ [6, 7, 1, 8, 9, 10, 11, 12, 13, 14, 15, 16, 17, 18, 19, 20, 21, 22, 23, 24, 25, 26, 27, 28, 29, 30, 31, 32, 33, 34, 35, 36, 37, 38, 39, 40, 41, 42, 43, 44, 45, 46, 47, 48, 49, 50, 51, 52, 53, 54, 55, 56, 57, 58, 59, 60, 61, 62, 63, 64, 65, 66, 67, 68, 69, 70, 71, 72, 73, 74, 75, 76, 77, 78, 79, 80, 81, 82, 83, 84, 85, 86, 87, 88, 93, 94, 95, 96, 97, 98, 99, 100, 101, 102, 103, 104, 105, 106, 107, 108, 109, 110, 111, 112, 113, 114, 115] (by decide +kernel) (by decide +kernel)
set_option maxRecDepth 20000 in
theorem gX3_solutions_X3_learn : GoodIn wsX3_solutions (wsV RX3 61 RX3 yX3_learn wsX3_learn) := goodIn_app (goodIn_of _ (by decide +kernel)) ggX3_solutions_X3_learn
set_option maxRecDepth 20000 in
theorem ggX3_solutions_X2_found : GoodIn wsX3_solutions wsX2_found := goodIn_r _ [92, 14, 97, 98, 99, 100, 101, 102, 103, 104, 105, 106, 107, 108, 109, 110, 111] (by decide +kernel) (by decide +kernel)
set_option maxRecDepth 20000 in
theorem gX3_solutions_X2_found : GoodIn wsX3_solutions (wsV RX3 65 RX2 yX2_found wsX2_found) := goodIn_app (goodIn_of _ (by decide +kernel)) ggX3_solutions_X2_found
theorem dX3_solutions_0 : decode cX3_solutions 0 = .ok (.aload_n 0, 1) := by decide +kernel
theorem dX3_solutions_1 : decode cX3_solutions 1 = .ok (.iconst 2, 1) := by decide +kernel
theorem dX3_solutions_2 : decode cX3_solutions 2 = .ok (.invokevirtual 61, 3) := by decide +kernel
theorem dX3_solutions_5 : decode cX3_solutions 5 = .ok (.aload_n 0, 1) := by decide +kernel
theorem dX3_solutions_6 : decode cX3_solutions 6 = .ok (.getfield 28, 3) := by decide +kernel
theorem dX3_solutions_9 : decode cX3_solutions 9 = .ok (.invokevirtual 65, 3) := by decide +kernel
theorem dX3_solutions_12 : decode cX3_solutions 12 = .ok (.ireturn, 1) := by decide +kernel
set_option maxRecDepth 20000 in
theorem ggX3_range_X3_isWord : GoodIn wsX3_range wsX3_isWord := goodIn_r _ [5] (by decide +kernel) (by decide +kernel)
set_option maxRecDepth 20000 in
theorem gX3_range_X3_isWord : GoodIn wsX3_range (va_wsS RX3 68 yX3_isWord wsX3_isWord) := goodIn_app (goodIn_of _ (by decide +kernel)) ggX3_range_X3_isWord
set_option maxRecDepth 20000 in
theorem ggX3_range_X3_learn : GoodIn wsX3_range wsX3_learn := goodIn_r _ [9, 10, 1, 11, 12, 13, 14, 15, 16, 17, 18, 19, 20, 21, 22, 23, 24, 25, 26, 27, 28, 29, 30, 31, 32, 33, 34, 35, 36, 37, 38, 39, 40, 41, 42, 43, 44, 45, 46, 47, 48, 49, 50, 51, 52, 53, 54, 55, 56, 57, 58, 59, 60, 61, 62, 63, 64, 65, 66, 67, 68, 69, 70, 71, 72, 73, 74, 75, 76, 77, 78, 79, 80, 81, 82, 83, 84, 85, 86, 87, 88, 89, 90, 91, 104, 105, 106, 107, 108, 109, 110, 111, 112, 113, 114, 115, 116, 117, 118, 119, 120, 121, 122, 123, 124, 125, 126] (by decide +kernel) (by decide +kernel)
set_option maxRecDepth 20000 in
theorem gX3_range_X3_learn : GoodIn wsX3_range (wsV RX3 61 RX3 yX3_learn wsX3_learn) := goodIn_app (goodIn_of _ (by decide +kernel)) ggX3_range_X3_learn
set_option maxRecDepth 20000 in
theorem ggX3_range_X2_found : GoodIn wsX3_range wsX2_found := goodIn_r _ [95, 17, 108, 109, 110, 111, 112, 113, 114, 115, 116, 117, 118, 119, 120, 121, 122] (by decide +kernel) (by decide +kernel)
set_option maxRecDepth 20000 in
theorem gX3_range_X2_found : GoodIn wsX3_range (wsV RX3 65 RX2 yX2_found wsX2_found) := goodIn_app (goodIn_of _ (by decide +kernel)) ggX3_range_X2_found
set_option maxRecDepth 20000 in
theorem ggX3_range_X2_greatestValue : GoodIn wsX3_range wsX2_greatestValue := goodIn_r _ [99, 77, 108, 109, 110, 111, 112, 113, 114, 115, 116, 117, 118, 119, 120, 121, 122] (by decide +kernel) (by decide +kernel)
set_option maxRecDepth 20000 in
theorem gX3_range_X2_greatestValue : GoodIn wsX3_range (wsV RX3 75 RX2 yX2_greatestValue wsX2_greatestValue) := goodIn_app (goodIn_of _ (by decide +kernel)) ggX3_range_X2_greatestValue
set_option maxRecDepth 20000 in
theorem ggX3_range_X2_leastValue : GoodIn wsX3_range wsX2_leastValue := goodIn_r _ [103, 76, 108, 109, 110, 111, 112, 113, 114, 115, 116, 117, 118, 119, 120, 121, 122] (by decide +kernel) (by decide +kernel)
set_option maxRecDepth 20000 in
theorem gX3_range_X2_leastValue : GoodIn wsX3_range (wsV RX3 78 RX2 yX2_leastValue wsX2_leastValue) := goodIn_app (goodIn_of _ (by decide +kernel)) ggX3_range_X2_leastValue
theorem dX3_range_0 : decode cX3_range 0 = .ok (.iload_n 1, 1) := by decide +kernel
theorem dX3_range_1 : decode cX3_range 1 = .ok (.invokestatic 68, 3) := by decide +kernel
theorem dX3_range_4 : decode cX3_range 4 = .ok (.ifCond .ne 6, 3) := by decide +kernel
theorem dX3_range_7 : decode cX3_range 7 = .ok (.bipush (-100), 2) := by decide +kernel
theorem dX3_range_9 : decode cX3_range 9 = .ok (.ireturn, 1) := by decide +kernel
theorem dX3_range_10 : decode cX3_range 10 = .ok (.aload_n 0, 1) := by decide +kernel
theorem dX3_range_11 : decode cX3_range 11 = .ok (.iconst 2, 1) := by decide +kernel
theorem dX3_range_12 : decode cX3_range 12 = .ok (.invokevirtual 61, 3) := by decide +kernel
theorem dX3_range_15 : decode cX3_range 15 = .ok (.aload_n 0, 1) := by decide +kernel
theorem dX3_range_16 : decode cX3_range 16 = .ok (.getfield 28, 3) := by decide +kernel
theorem dX3_range_19 : decode cX3_range 19 = .ok (.invokevirtual 65, 3) := by decide +kernel
theorem dX3_range_22 : decode cX3_range 22 = .ok (.ifCond .ne 6, 3) := by decide +kernel
theorem dX3_range_25 : decode cX3_range 25 = .ok (.bipush (-100), 2) := by decide +kernel
theorem dX3_range_27 : decode cX3_range 27 = .ok (.ireturn, 1) := by decide +kernel
theorem dX3_range_28 : decode cX3_range 28 = .ok (.iload_n 2, 1) := by decide +kernel
theorem dX3_range_29 : decode cX3_range 29 = .ok (.ifCond .eq 14, 3) := by decide +kernel
theorem dX3_range_32 : decode cX3_range 32 = .ok (.aload_n 0, 1) := by decide +kernel
theorem dX3_range_33 : decode cX3_range 33 = .ok (.getfield 28, 3) := by decide +kernel
theorem dX3_range_36 : decode cX3_range 36 = .ok (.iload_n 1, 1) := by decide +kernel
theorem dX3_range_37 : decode cX3_range 37 = .ok (.invokevirtual 75, 3) := by decide +kernel
theorem dX3_range_40 : decode cX3_range 40 = .ok (.goto 11, 3) := by decide +kernel
theorem dX3_range_43 : decode cX3_range 43 = .ok (.aload_n 0, 1) := by decide +kernel
theorem dX3_range_44 : decode cX3_range 44 = .ok (.getfield 28, 3) := by decide +kernel
theorem dX3_range_47 : decode cX3_range 47 = .ok (.iload_n 1, 1) := by decide +kernel
theorem dX3_range_48 : decode cX3_range 48 = .ok (.invokevirtual 78, 3) := by decide +kernel
theorem dX3_range_51 : decode cX3_range 51 = .ok (.ireturn, 1) := by decide +kernel
set_option maxRecDepth 20000 in
theorem ggX3_assume_X1_has : GoodIn wsX3_assume wsX1_has := goodIn_r _ [7, 8, 43, 44, 45, 46] (by decide +kernel) (by decide +kernel)
set_option maxRecDepth 20000 in
theorem gX3_assume_X1_has : GoodIn wsX3_assume (wsV RX3 50 RX1 yX1_has wsX1_has) := goodIn_app (goodIn_of _ (by decide +kernel)) ggX3_assume_X1_has
set_option maxRecDepth 20000 in
theorem ggX3_assume_X1_isEquality : GoodIn wsX3_assume wsX1_isEquality := goodIn_r _ [12, 13, 43, 44, 45, 46] (by decide +kernel) (by decide +kernel)
set_option maxRecDepth 20000 in
theorem gX3_assume_X1_isEquality : GoodIn wsX3_assume (wsV RX3 81 RX1 yX1_isEquality wsX1_isEquality) := goodIn_app (goodIn_of _ (by decide +kernel)) ggX3_assume_X1_isEquality
set_option maxRecDepth 20000 in
theorem ggX3_assume_X1_factor : GoodIn wsX3_assume wsX1_factor := goodIn_r _ [17, 13, 43, 44, 45, 46] (by decide +kernel) (by decide +kernel)
set_option maxRecDepth 20000 in
theorem gX3_assume_X1_factor : GoodIn wsX3_assume (wsV RX3 84 RX1 yX1_factor wsX1_factor) := goodIn_app (goodIn_of _ (by decide +kernel)) ggX3_assume_X1_factor
set_option maxRecDepth 20000 in
theorem ggX3_assume_X0_draftNumber : GoodIn wsX3_assume wsX0_draftNumber := goodIn_r _ [22, 23, 47, 48, 49, 50, 51, 52, 53] (by decide +kernel) (by decide +kernel)
set_option maxRecDepth 20000 in
theorem gX3_assume_X0_draftNumber : GoodIn wsX3_assume (wsV RX3 87 RX0 yX0_draftNumber wsX0_draftNumber) := goodIn_app (goodIn_of _ (by decide +kernel)) ggX3_assume_X0_draftNumber
set_option maxRecDepth 20000 in
theorem ggX3_assume_X1_limit : GoodIn wsX3_assume wsX1_limit := goodIn_r _ [27, 13, 43, 44, 45, 46] (by decide +kernel) (by decide +kernel)
set_option maxRecDepth 20000 in
theorem gX3_assume_X1_limit : GoodIn wsX3_assume (wsV RX3 91 RX1 yX1_limit wsX1_limit) := goodIn_app (goodIn_of _ (by decide +kernel)) ggX3_assume_X1_limit
set_option maxRecDepth 20000 in
theorem ggX3_assume_X0_draftBound : GoodIn wsX3_assume wsX0_draftBound := goodIn_r _ [31, 23, 47, 48, 49, 50, 51, 52, 53] (by decide +kernel) (by decide +kernel)
set_option maxRecDepth 20000 in
theorem gX3_assume_X0_draftBound : GoodIn wsX3_assume (wsV RX3 94 RX0 yX0_draftBound wsX0_draftBound) := goodIn_app (goodIn_of _ (by decide +kernel)) ggX3_assume_X0_draftBound
set_option maxRecDepth 20000 in
theorem ggX3_assume_X0_appendDraft : GoodIn wsX3_assume wsX0_appendDraft := goodIn_r _ [35, 36, 37, 38, 23, 47, 48, 49, 50, 51, 52, 53] (by decide +kernel) (by decide +kernel)
set_option maxRecDepth 20000 in
theorem gX3_assume_X0_appendDraft : GoodIn wsX3_assume (wsV RX3 98 RX0 yX0_appendDraft wsX0_appendDraft) := goodIn_app (goodIn_of _ (by decide +kernel)) ggX3_assume_X0_appendDraft
theorem dX3_assume_0 : decode cX3_assume 0 = .ok (.aload_n 0, 1) := by decide +kernel
theorem dX3_assume_1 : decode cX3_assume 1 = .ok (.getfield 10, 3) := by decide +kernel
theorem dX3_assume_4 : decode cX3_assume 4 = .ok (.iload_n 1, 1) := by decide +kernel
theorem dX3_assume_5 : decode cX3_assume 5 = .ok (.invokevirtual 50, 3) := by decide +kernel
theorem dX3_assume_8 : decode cX3_assume 8 = .ok (.ifCond .eq 18, 3) := by decide +kernel
theorem dX3_assume_11 : decode cX3_assume 11 = .ok (.iload_n 2, 1) := by decide +kernel
theorem dX3_assume_12 : decode cX3_assume 12 = .ok (.ifCond .eq 16, 3) := by decide +kernel
theorem dX3_assume_15 : decode cX3_assume 15 = .ok (.aload_n 0, 1) := by decide +kernel
theorem dX3_assume_16 : decode cX3_assume 16 = .ok (.getfield 10, 3) := by decide +kernel
theorem dX3_assume_19 : decode cX3_assume 19 = .ok (.iload_n 1, 1) := by decide +kernel
theorem dX3_assume_20 : decode cX3_assume 20 = .ok (.invokevirtual 81, 3) := by decide +kernel
theorem dX3_assume_23 : decode cX3_assume 23 = .ok (.ifCond .ne 5, 3) := by decide +kernel
theorem dX3_assume_26 : decode cX3_assume 26 = .ok (.iconst (-1), 1) := by decide +kernel
theorem dX3_assume_27 : decode cX3_assume 27 = .ok (.ireturn, 1) := by decide +kernel
theorem dX3_assume_28 : decode cX3_assume 28 = .ok (.iload_n 2, 1) := by decide +kernel
theorem dX3_assume_29 : decode cX3_assume 29 = .ok (.ifCond .eq 7, 3) := by decide +kernel
theorem dX3_assume_32 : decode cX3_assume 32 = .ok (.iconst (-1), 1) := by decide +kernel
theorem dX3_assume_33 : decode cX3_assume 33 = .ok (.goto 4, 3) := by decide +kernel
theorem dX3_assume_36 : decode cX3_assume 36 = .ok (.iconst 1, 1) := by decide +kernel
theorem dX3_assume_37 : decode cX3_assume 37 = .ok (.istore_n 3, 1) := by decide +kernel
theorem dX3_assume_38 : decode cX3_assume 38 = .ok (.iconst 0, 1) := by decide +kernel
theorem dX3_assume_39 : decode cX3_assume 39 = .ok (.istore 4, 2) := by decide +kernel
theorem dX3_assume_41 : decode cX3_assume 41 = .ok (.iload 4, 2) := by decide +kernel
theorem dX3_assume_43 : decode cX3_assume 43 = .ok (.iconst 4, 1) := by decide +kernel
theorem dX3_assume_44 : decode cX3_assume 44 = .ok (.if_icmp .ge 31, 3) := by decide +kernel
theorem dX3_assume_47 : decode cX3_assume 47 = .ok (.aload_n 0, 1) := by decide +kernel
theorem dX3_assume_48 : decode cX3_assume 48 = .ok (.getfield 19, 3) := by decide +kernel
theorem dX3_assume_51 : decode cX3_assume 51 = .ok (.iload 4, 2) := by decide +kernel
theorem dX3_assume_53 : decode cX3_assume 53 = .ok (.iload_n 3, 1) := by decide +kernel
theorem dX3_assume_54 : decode cX3_assume 54 = .ok (.aload_n 0, 1) := by decide +kernel
theorem dX3_assume_55 : decode cX3_assume 55 = .ok (.getfield 10, 3) := by decide +kernel
theorem dX3_assume_58 : decode cX3_assume 58 = .ok (.iload_n 1, 1) := by decide +kernel
theorem dX3_assume_59 : decode cX3_assume 59 = .ok (.iload 4, 2) := by decide +kernel
theorem dX3_assume_61 : decode cX3_assume 61 = .ok (.invokevirtual 84, 3) := by decide +kernel
theorem dX3_assume_64 : decode cX3_assume 64 = .ok (.imul, 1) := by decide +kernel
theorem dX3_assume_65 : decode cX3_assume 65 = .ok (.i2l, 1) := by decide +kernel
theorem dX3_assume_66 : decode cX3_assume 66 = .ok (.invokevirtual 87, 3) := by decide +kernel
theorem dX3_assume_69 : decode cX3_assume 69 = .ok (.iinc 4 1, 3) := by decide +kernel
theorem dX3_assume_72 : decode cX3_assume 72 = .ok (.goto (-31), 3) := by decide +kernel
theorem dX3_assume_75 : decode cX3_assume 75 = .ok (.aload_n 0, 1) := by decide +kernel
theorem dX3_assume_76 : decode cX3_assume 76 = .ok (.getfield 19, 3) := by decide +kernel
theorem dX3_assume_79 : decode cX3_assume 79 = .ok (.iload_n 3, 1) := by decide +kernel
theorem dX3_assume_80 : decode cX3_assume 80 = .ok (.aload_n 0, 1) := by decide +kernel
theorem dX3_assume_81 : decode cX3_assume 81 = .ok (.getfield 10, 3) := by decide +kernel
theorem dX3_assume_84 : decode cX3_assume 84 = .ok (.iload_n 1, 1) := by decide +kernel
theorem dX3_assume_85 : decode cX3_assume 85 = .ok (.invokevirtual 91, 3) := by decide +kernel
theorem dX3_assume_88 : decode cX3_assume 88 = .ok (.imul, 1) := by decide +kernel
theorem dX3_assume_89 : decode cX3_assume 89 = .ok (.i2l, 1) := by decide +kernel
theorem dX3_assume_90 : decode cX3_assume 90 = .ok (.invokevirtual 94, 3) := by decide +kernel
theorem dX3_assume_93 : decode cX3_assume 93 = .ok (.aload_n 0, 1) := by decide +kernel
theorem dX3_assume_94 : decode cX3_assume 94 = .ok (.getfield 19, 3) := by decide +kernel
theorem dX3_assume_97 : decode cX3_assume 97 = .ok (.invokevirtual 98, 3) := by decide +kernel
theorem dX3_assume_100 : decode cX3_assume 100 = .ok (.ireturn, 1) := by decide +kernel
set_option maxRecDepth 20000 in
theorem ggX3_bound_X3_isWord : GoodIn wsX3_bound wsX3_isWord := goodIn_r _ [5] (by decide +kernel) (by decide +kernel)
set_option maxRecDepth 20000 in
theorem gX3_bound_X3_isWord : GoodIn wsX3_bound (va_wsS RX3 68 yX3_isWord wsX3_isWord) := goodIn_app (goodIn_of _ (by decide +kernel)) ggX3_bound_X3_isWord
set_option maxRecDepth 20000 in
theorem ggX3_bound_X0_draftWord : GoodIn wsX3_bound wsX0_draftWord := goodIn_r _ [10, 11, 23, 24, 25, 26, 27, 28, 29] (by decide +kernel) (by decide +kernel)
set_option maxRecDepth 20000 in
theorem gX3_bound_X0_draftWord : GoodIn wsX3_bound (wsV RX3 101 RX0 yX0_draftWord wsX0_draftWord) := goodIn_app (goodIn_of _ (by decide +kernel)) ggX3_bound_X0_draftWord
set_option maxRecDepth 20000 in
theorem ggX3_bound_X0_appendDraft : GoodIn wsX3_bound wsX0_appendDraft := goodIn_r _ [15, 16, 17, 18, 11, 23, 24, 25, 26, 27, 28, 29] (by decide +kernel) (by decide +kernel)
set_option maxRecDepth 20000 in
theorem gX3_bound_X0_appendDraft : GoodIn wsX3_bound (wsV RX3 98 RX0 yX0_appendDraft wsX0_appendDraft) := goodIn_app (goodIn_of _ (by decide +kernel)) ggX3_bound_X0_appendDraft
theorem dX3_bound_0 : decode cX3_bound 0 = .ok (.iload_n 1, 1) := by decide +kernel
theorem dX3_bound_1 : decode cX3_bound 1 = .ok (.invokestatic 68, 3) := by decide +kernel
theorem dX3_bound_4 : decode cX3_bound 4 = .ok (.ifCond .ne 5, 3) := by decide +kernel
theorem dX3_bound_7 : decode cX3_bound 7 = .ok (.iconst (-1), 1) := by decide +kernel
theorem dX3_bound_8 : decode cX3_bound 8 = .ok (.ireturn, 1) := by decide +kernel
theorem dX3_bound_9 : decode cX3_bound 9 = .ok (.aload_n 0, 1) := by decide +kernel
theorem dX3_bound_10 : decode cX3_bound 10 = .ok (.getfield 19, 3) := by decide +kernel
theorem dX3_bound_13 : decode cX3_bound 13 = .ok (.iload_n 1, 1) := by decide +kernel
theorem dX3_bound_14 : decode cX3_bound 14 = .ok (.iload_n 2, 1) := by decide +kernel
theorem dX3_bound_15 : decode cX3_bound 15 = .ok (.ifCond .eq 7, 3) := by decide +kernel
theorem dX3_bound_18 : decode cX3_bound 18 = .ok (.iconst (-1), 1) := by decide +kernel
theorem dX3_bound_19 : decode cX3_bound 19 = .ok (.goto 4, 3) := by decide +kernel
theorem dX3_bound_22 : decode cX3_bound 22 = .ok (.iconst 1, 1) := by decide +kernel
theorem dX3_bound_23 : decode cX3_bound 23 = .ok (.bipush 15, 2) := by decide +kernel
theorem dX3_bound_25 : decode cX3_bound 25 = .ok (.invokevirtual 101, 3) := by decide +kernel
theorem dX3_bound_28 : decode cX3_bound 28 = .ok (.aload_n 0, 1) := by decide +kernel
theorem dX3_bound_29 : decode cX3_bound 29 = .ok (.getfield 19, 3) := by decide +kernel
theorem dX3_bound_32 : decode cX3_bound 32 = .ok (.invokevirtual 98, 3) := by decide +kernel
theorem dX3_bound_35 : decode cX3_bound 35 = .ok (.ireturn, 1) := by decide +kernel
set_option maxRecDepth 20000 in
theorem ggX3_add_X0_appendSum : GoodIn wsX3_add wsX0_appendSum := goodIn_r _ [6, 7, 8, 9, 10, 5, 11, 12, 13, 14, 15, 16, 17, 18, 19, 20, 21, 22, 23, 24, 25, 26, 27, 28, 29, 30, 35, 36, 37, 38, 39, 40, 41] (by decide +kernel) (by decide +kernel)
set_option maxRecDepth 20000 in
theorem gX3_add_X0_appendSum : GoodIn wsX3_add (wsV RX3 105 RX0 yX0_appendSum wsX0_appendSum) := goodIn_app (goodIn_of _ (by decide +kernel)) ggX3_add_X0_appendSum
theorem dX3_add_0 : decode cX3_add 0 = .ok (.aload_n 0, 1) := by decide +kernel
theorem dX3_add_1 : decode cX3_add 1 = .ok (.getfield 19, 3) := by decide +kernel
theorem dX3_add_4 : decode cX3_add 4 = .ok (.iload_n 1, 1) := by decide +kernel
theorem dX3_add_5 : decode cX3_add 5 = .ok (.iload_n 2, 1) := by decide +kernel
theorem dX3_add_6 : decode cX3_add 6 = .ok (.iload_n 3, 1) := by decide +kernel
theorem dX3_add_7 : decode cX3_add 7 = .ok (.iload 4, 2) := by decide +kernel
theorem dX3_add_9 : decode cX3_add 9 = .ok (.invokevirtual 105, 3) := by decide +kernel
theorem dX3_add_12 : decode cX3_add 12 = .ok (.ireturn, 1) := by decide +kernel
set_option maxRecDepth 20000 in
theorem ggX3_divide_X0_appendQuotient : GoodIn wsX3_divide wsX0_appendQuotient := goodIn_r _ [6, 7, 8, 9, 10, 11, 5, 12, 13, 14, 15, 16, 17, 18, 19, 20, 21, 22, 23, 24, 25, 26, 27, 32, 33, 34, 35, 36, 37, 38] (by decide +kernel) (by decide +kernel)
set_option maxRecDepth 20000 in
theorem gX3_divide_X0_appendQuotient : GoodIn wsX3_divide (wsV RX3 109 RX0 yX0_appendQuotient wsX0_appendQuotient) := goodIn_app (goodIn_of _ (by decide +kernel)) ggX3_divide_X0_appendQuotient
theorem dX3_divide_0 : decode cX3_divide 0 = .ok (.aload_n 0, 1) := by decide +kernel
theorem dX3_divide_1 : decode cX3_divide 1 = .ok (.getfield 19, 3) := by decide +kernel
theorem dX3_divide_4 : decode cX3_divide 4 = .ok (.iload_n 1, 1) := by decide +kernel
theorem dX3_divide_5 : decode cX3_divide 5 = .ok (.iload_n 2, 1) := by decide +kernel
theorem dX3_divide_6 : decode cX3_divide 6 = .ok (.invokevirtual 109, 3) := by decide +kernel
theorem dX3_divide_9 : decode cX3_divide 9 = .ok (.ireturn, 1) := by decide +kernel
set_option maxRecDepth 20000 in
theorem ggX3_split_X3_isWord : GoodIn wsX3_split wsX3_isWord := goodIn_r _ [5] (by decide +kernel) (by decide +kernel)
set_option maxRecDepth 20000 in
theorem gX3_split_X3_isWord : GoodIn wsX3_split (va_wsS RX3 68 yX3_isWord wsX3_isWord) := goodIn_app (goodIn_of _ (by decide +kernel)) ggX3_split_X3_isWord
set_option maxRecDepth 20000 in
theorem ggX3_split_X0_openSplit : GoodIn wsX3_split wsX0_openSplit := goodIn_r _ [10, 11, 12, 13, 14, 15, 9, 16, 17, 18, 19, 20, 21, 22, 23, 24, 29, 30, 31, 32, 33, 34, 35] (by decide +kernel) (by decide +kernel)
set_option maxRecDepth 20000 in
theorem gX3_split_X0_openSplit : GoodIn wsX3_split (wsV RX3 112 RX0 yX0_openSplit wsX0_openSplit) := goodIn_app (goodIn_of _ (by decide +kernel)) ggX3_split_X0_openSplit
theorem dX3_split_0 : decode cX3_split 0 = .ok (.iload_n 1, 1) := by decide +kernel
theorem dX3_split_1 : decode cX3_split 1 = .ok (.invokestatic 68, 3) := by decide +kernel
theorem dX3_split_4 : decode cX3_split 4 = .ok (.ifCond .eq 15, 3) := by decide +kernel
theorem dX3_split_7 : decode cX3_split 7 = .ok (.aload_n 0, 1) := by decide +kernel
theorem dX3_split_8 : decode cX3_split 8 = .ok (.getfield 19, 3) := by decide +kernel
theorem dX3_split_11 : decode cX3_split 11 = .ok (.iload_n 1, 1) := by decide +kernel
theorem dX3_split_12 : decode cX3_split 12 = .ok (.iload_n 2, 1) := by decide +kernel
theorem dX3_split_13 : decode cX3_split 13 = .ok (.invokevirtual 112, 3) := by decide +kernel
theorem dX3_split_16 : decode cX3_split 16 = .ok (.goto 4, 3) := by decide +kernel
theorem dX3_split_19 : decode cX3_split 19 = .ok (.iconst (-1), 1) := by decide +kernel
theorem dX3_split_20 : decode cX3_split 20 = .ok (.ireturn, 1) := by decide +kernel
set_option maxRecDepth 20000 in
theorem ggX3_close_X0_closeBranch : GoodIn wsX3_close wsX0_closeBranch := goodIn_r _ [6, 7, 8, 9, 10, 11, 12, 5, 13, 14, 15, 16, 17, 18, 19, 20, 21, 22, 23, 24, 25, 26, 27, 28, 29, 30, 31, 32, 33, 34, 35, 36, 37, 38, 39, 40, 41, 46, 47, 48, 49, 50, 51, 52] (by decide +kernel) (by decide +kernel)
set_option maxRecDepth 20000 in
theorem gX3_close_X0_closeBranch : GoodIn wsX3_close (wsV RX3 115 RX0 yX0_closeBranch wsX0_closeBranch) := goodIn_app (goodIn_of _ (by decide +kernel)) ggX3_close_X0_closeBranch
theorem dX3_close_0 : decode cX3_close 0 = .ok (.aload_n 0, 1) := by decide +kernel
theorem dX3_close_1 : decode cX3_close 1 = .ok (.getfield 19, 3) := by decide +kernel
theorem dX3_close_4 : decode cX3_close 4 = .ok (.iload_n 1, 1) := by decide +kernel
theorem dX3_close_5 : decode cX3_close 5 = .ok (.invokevirtual 115, 3) := by decide +kernel
theorem dX3_close_8 : decode cX3_close 8 = .ok (.ireturn, 1) := by decide +kernel
set_option maxRecDepth 20000 in
theorem ggX3_finish_X0_isWhole : GoodIn wsX3_finish wsX0_isWhole := goodIn_r _ [7, 8, 115, 116, 117, 118, 119, 120, 121] (by decide +kernel) (by decide +kernel)
set_option maxRecDepth 20000 in
theorem gX3_finish_X0_isWhole : GoodIn wsX3_finish (wsV RX3 118 RX0 yX0_isWhole wsX0_isWhole) := goodIn_app (goodIn_of _ (by decide +kernel)) ggX3_finish_X0_isWhole
set_option maxRecDepth 20000 in
theorem ggX3_finish_X3_learn : GoodIn wsX3_finish wsX3_learn := goodIn_r _ [13, 14, 2, 15, 16, 17, 18, 19, 20, 21, 22, 23, 24, 25, 26, 27, 28, 29, 30, 31, 32, 33, 34, 35, 36, 37, 38, 39, 40, 41, 42, 43, 44, 45, 46, 47, 48, 49, 50, 51, 52, 53, 54, 55, 56, 57, 58, 59, 60, 61, 62, 63, 64, 65, 66, 67, 68, 69, 70, 71, 72, 73, 74, 75, 76, 77, 78, 79, 80, 81, 82, 83, 84, 85, 86, 87, 88, 89, 90, 91, 92, 93, 94, 95, 111, 112, 113, 114, 122, 123, 124, 125, 126, 127, 128, 129, 130, 131, 132, 133, 134, 135, 136, 137, 138, 139, 140] (by decide +kernel) (by decide +kernel)
set_option maxRecDepth 20000 in
theorem gX3_finish_X3_learn : GoodIn wsX3_finish (wsV RX3 61 RX3 yX3_learn wsX3_learn) := goodIn_app (goodIn_of _ (by decide +kernel)) ggX3_finish_X3_learn
set_option maxRecDepth 20000 in
theorem ggX3_finish_X2_found : GoodIn wsX3_finish wsX2_found := goodIn_r _ [99, 21, 122, 123, 124, 125, 126, 127, 128, 129, 130, 131, 132, 133, 134, 135, 136] (by decide +kernel) (by decide +kernel)
set_option maxRecDepth 20000 in
theorem gX3_finish_X2_found : GoodIn wsX3_finish (wsV RX3 65 RX2 yX2_found wsX2_found) := goodIn_app (goodIn_of _ (by decide +kernel)) ggX3_finish_X2_found
set_option maxRecDepth 20000 in
theorem ggX3_finish_X0_closeAll : GoodIn wsX3_finish wsX0_closeAll := goodIn_r _ [103, 104, 105, 8, 106, 107, 108, 6, 109, 110, 115, 116, 117, 118, 119, 120, 121] (by decide +kernel) (by decide +kernel)
set_option maxRecDepth 20000 in
theorem gX3_finish_X0_closeAll : GoodIn wsX3_finish (wsV RX3 122 RX0 yX0_closeAll wsX0_closeAll) := goodIn_app (goodIn_of _ (by decide +kernel)) ggX3_finish_X0_closeAll
theorem dX3_finish_0 : decode cX3_finish 0 = .ok (.aload_n 0, 1) := by decide +kernel
theorem dX3_finish_1 : decode cX3_finish 1 = .ok (.getfield 19, 3) := by decide +kernel
theorem dX3_finish_4 : decode cX3_finish 4 = .ok (.invokevirtual 118, 3) := by decide +kernel
theorem dX3_finish_7 : decode cX3_finish 7 = .ok (.ifCond .eq 5, 3) := by decide +kernel
theorem dX3_finish_10 : decode cX3_finish 10 = .ok (.iconst (-1), 1) := by decide +kernel
theorem dX3_finish_11 : decode cX3_finish 11 = .ok (.ireturn, 1) := by decide +kernel
theorem dX3_finish_12 : decode cX3_finish 12 = .ok (.aload_n 0, 1) := by decide +kernel
theorem dX3_finish_13 : decode cX3_finish 13 = .ok (.iconst 1, 1) := by decide +kernel
theorem dX3_finish_14 : decode cX3_finish 14 = .ok (.invokevirtual 61, 3) := by decide +kernel
theorem dX3_finish_17 : decode cX3_finish 17 = .ok (.aload_n 0, 1) := by decide +kernel
theorem dX3_finish_18 : decode cX3_finish 18 = .ok (.getfield 28, 3) := by decide +kernel
theorem dX3_finish_21 : decode cX3_finish 21 = .ok (.invokevirtual 65, 3) := by decide +kernel
theorem dX3_finish_24 : decode cX3_finish 24 = .ok (.ifCond .le 5, 3) := by decide +kernel
theorem dX3_finish_27 : decode cX3_finish 27 = .ok (.iconst 0, 1) := by decide +kernel
theorem dX3_finish_28 : decode cX3_finish 28 = .ok (.ireturn, 1) := by decide +kernel
theorem dX3_finish_29 : decode cX3_finish 29 = .ok (.aload_n 0, 1) := by decide +kernel
theorem dX3_finish_30 : decode cX3_finish 30 = .ok (.getfield 19, 3) := by decide +kernel
theorem dX3_finish_33 : decode cX3_finish 33 = .ok (.invokevirtual 122, 3) := by decide +kernel
theorem dX3_finish_36 : decode cX3_finish 36 = .ok (.iconst 1, 1) := by decide +kernel
theorem dX3_finish_37 : decode cX3_finish 37 = .ok (.ireturn, 1) := by decide +kernel
set_option maxRecDepth 20000 in
theorem ggX3_lines_X0_lineCount : GoodIn wsX3_lines wsX0_lineCount := goodIn_r _ [6, 7, 12, 13, 14, 15, 16, 17, 18] (by decide +kernel) (by decide +kernel)
set_option maxRecDepth 20000 in
theorem gX3_lines_X0_lineCount : GoodIn wsX3_lines (wsV RX3 125 RX0 yX0_lineCount wsX0_lineCount) := goodIn_app (goodIn_of _ (by decide +kernel)) ggX3_lines_X0_lineCount
theorem dX3_lines_0 : decode cX3_lines 0 = .ok (.aload_n 0, 1) := by decide +kernel
theorem dX3_lines_1 : decode cX3_lines 1 = .ok (.getfield 19, 3) := by decide +kernel
theorem dX3_lines_4 : decode cX3_lines 4 = .ok (.invokevirtual 125, 3) := by decide +kernel
theorem dX3_lines_7 : decode cX3_lines 7 = .ok (.ireturn, 1) := by decide +kernel
set_option maxRecDepth 20000 in
theorem ggX3_line_X0_hasLine : GoodIn wsX3_line wsX0_hasLine := goodIn_r _ [7, 8, 18, 19, 20, 21, 22, 23, 24] (by decide +kernel) (by decide +kernel)
set_option maxRecDepth 20000 in
theorem gX3_line_X0_hasLine : GoodIn wsX3_line (wsV RX3 128 RX0 yX0_hasLine wsX0_hasLine) := goodIn_app (goodIn_of _ (by decide +kernel)) ggX3_line_X0_hasLine
set_option maxRecDepth 20000 in
theorem ggX3_line_X0_lineCell : GoodIn wsX3_line wsX0_lineCell := goodIn_r _ [12, 13, 18, 19, 20, 21, 22, 23, 24] (by decide +kernel) (by decide +kernel)
set_option maxRecDepth 20000 in
theorem gX3_line_X0_lineCell : GoodIn wsX3_line (wsV RX3 131 RX0 yX0_lineCell wsX0_lineCell) := goodIn_app (goodIn_of _ (by decide +kernel)) ggX3_line_X0_lineCell
theorem dX3_line_0 : decode cX3_line 0 = .ok (.aload_n 0, 1) := by decide +kernel
theorem dX3_line_1 : decode cX3_line 1 = .ok (.getfield 19, 3) := by decide +kernel
theorem dX3_line_4 : decode cX3_line 4 = .ok (.iload_n 1, 1) := by decide +kernel
theorem dX3_line_5 : decode cX3_line 5 = .ok (.invokevirtual 128, 3) := by decide +kernel
theorem dX3_line_8 : decode cX3_line 8 = .ok (.ifCond .eq 24, 3) := by decide +kernel
theorem dX3_line_11 : decode cX3_line 11 = .ok (.iload_n 2, 1) := by decide +kernel
theorem dX3_line_12 : decode cX3_line 12 = .ok (.ifCond .lt 20, 3) := by decide +kernel
theorem dX3_line_15 : decode cX3_line 15 = .ok (.iload_n 2, 1) := by decide +kernel
theorem dX3_line_16 : decode cX3_line 16 = .ok (.iconst 5, 1) := by decide +kernel
theorem dX3_line_17 : decode cX3_line 17 = .ok (.if_icmp .ge 15, 3) := by decide +kernel
theorem dX3_line_20 : decode cX3_line 20 = .ok (.aload_n 0, 1) := by decide +kernel
theorem dX3_line_21 : decode cX3_line 21 = .ok (.getfield 19, 3) := by decide +kernel
theorem dX3_line_24 : decode cX3_line 24 = .ok (.iload_n 1, 1) := by decide +kernel
theorem dX3_line_25 : decode cX3_line 25 = .ok (.iload_n 2, 1) := by decide +kernel
theorem dX3_line_26 : decode cX3_line 26 = .ok (.invokevirtual 131, 3) := by decide +kernel
theorem dX3_line_29 : decode cX3_line 29 = .ok (.goto 6, 3) := by decide +kernel
theorem dX3_line_32 : decode cX3_line 32 = .ok (.ldc2_w 137, 3) := by decide +kernel
theorem dX3_line_35 : decode cX3_line 35 = .ok (.lreturn, 1) := by decide +kernel
set_option maxRecDepth 20000 in
theorem ggX3_ofSplit_X0_hasSplit : GoodIn wsX3_ofSplit wsX0_hasSplit := goodIn_r _ [7, 8, 18, 19, 20, 21, 22, 23, 24] (by decide +kernel) (by decide +kernel)
set_option maxRecDepth 20000 in
theorem gX3_ofSplit_X0_hasSplit : GoodIn wsX3_ofSplit (wsV RX3 139 RX0 yX0_hasSplit wsX0_hasSplit) := goodIn_app (goodIn_of _ (by decide +kernel)) ggX3_ofSplit_X0_hasSplit
set_option maxRecDepth 20000 in
theorem ggX3_ofSplit_X0_splitCell : GoodIn wsX3_ofSplit wsX0_splitCell := goodIn_r _ [12, 13, 18, 19, 20, 21, 22, 23, 24] (by decide +kernel) (by decide +kernel)
set_option maxRecDepth 20000 in
theorem gX3_ofSplit_X0_splitCell : GoodIn wsX3_ofSplit (wsV RX3 142 RX0 yX0_splitCell wsX0_splitCell) := goodIn_app (goodIn_of _ (by decide +kernel)) ggX3_ofSplit_X0_splitCell
theorem dX3_ofSplit_0 : decode cX3_ofSplit 0 = .ok (.aload_n 0, 1) := by decide +kernel
theorem dX3_ofSplit_1 : decode cX3_ofSplit 1 = .ok (.getfield 19, 3) := by decide +kernel
theorem dX3_ofSplit_4 : decode cX3_ofSplit 4 = .ok (.iload_n 1, 1) := by decide +kernel
theorem dX3_ofSplit_5 : decode cX3_ofSplit 5 = .ok (.invokevirtual 139, 3) := by decide +kernel
theorem dX3_ofSplit_8 : decode cX3_ofSplit 8 = .ok (.ifCond .eq 24, 3) := by decide +kernel
theorem dX3_ofSplit_11 : decode cX3_ofSplit 11 = .ok (.iload_n 2, 1) := by decide +kernel
theorem dX3_ofSplit_12 : decode cX3_ofSplit 12 = .ok (.ifCond .lt 20, 3) := by decide +kernel
theorem dX3_ofSplit_15 : decode cX3_ofSplit 15 = .ok (.iload_n 2, 1) := by decide +kernel
theorem dX3_ofSplit_16 : decode cX3_ofSplit 16 = .ok (.iconst 4, 1) := by decide +kernel
theorem dX3_ofSplit_17 : decode cX3_ofSplit 17 = .ok (.if_icmp .ge 15, 3) := by decide +kernel
theorem dX3_ofSplit_20 : decode cX3_ofSplit 20 = .ok (.aload_n 0, 1) := by decide +kernel
theorem dX3_ofSplit_21 : decode cX3_ofSplit 21 = .ok (.getfield 19, 3) := by decide +kernel
theorem dX3_ofSplit_24 : decode cX3_ofSplit 24 = .ok (.iload_n 1, 1) := by decide +kernel
theorem dX3_ofSplit_25 : decode cX3_ofSplit 25 = .ok (.iload_n 2, 1) := by decide +kernel
theorem dX3_ofSplit_26 : decode cX3_ofSplit 26 = .ok (.invokevirtual 142, 3) := by decide +kernel
theorem dX3_ofSplit_29 : decode cX3_ofSplit 29 = .ok (.goto 5, 3) := by decide +kernel
theorem dX3_ofSplit_32 : decode cX3_ofSplit 32 = .ok (.ldc 60, 2) := by decide +kernel
theorem dX3_ofSplit_34 : decode cX3_ofSplit 34 = .ok (.ireturn, 1) := by decide +kernel
set_option maxRecDepth 20000 in
theorem ggX3_count_X1_size : GoodIn wsX3_count wsX1_size := goodIn_r _ [7, 8, 34, 35, 36, 37] (by decide +kernel) (by decide +kernel)
set_option maxRecDepth 20000 in
theorem gX3_count_X1_size : GoodIn wsX3_count (wsV RX3 145 RX1 yX1_size wsX1_size) := goodIn_app (goodIn_of _ (by decide +kernel)) ggX3_count_X1_size
set_option maxRecDepth 20000 in
theorem ggX3_count_X1_layerCount : GoodIn wsX3_count wsX1_layerCount := goodIn_r _ [12, 13, 34, 35, 36, 37] (by decide +kernel) (by decide +kernel)
set_option maxRecDepth 20000 in
theorem gX3_count_X1_layerCount : GoodIn wsX3_count (wsV RX3 148 RX1 yX1_layerCount wsX1_layerCount) := goodIn_app (goodIn_of _ (by decide +kernel)) ggX3_count_X1_layerCount
set_option maxRecDepth 20000 in
theorem ggX3_count_X0_isWhole : GoodIn wsX3_count wsX0_isWhole := goodIn_r _ [18, 19, 38, 39, 40, 41, 42, 43, 44] (by decide +kernel) (by decide +kernel)
set_option maxRecDepth 20000 in
theorem gX3_count_X0_isWhole : GoodIn wsX3_count (wsV RX3 118 RX0 yX0_isWhole wsX0_isWhole) := goodIn_app (goodIn_of _ (by decide +kernel)) ggX3_count_X0_isWhole
set_option maxRecDepth 20000 in
theorem ggX3_count_X0_splitCount : GoodIn wsX3_count wsX0_splitCount := goodIn_r _ [23, 24, 38, 39, 40, 41, 42, 43, 44] (by decide +kernel) (by decide +kernel)
set_option maxRecDepth 20000 in
theorem gX3_count_X0_splitCount : GoodIn wsX3_count (wsV RX3 151 RX0 yX0_splitCount wsX0_splitCount) := goodIn_app (goodIn_of _ (by decide +kernel)) ggX3_count_X0_splitCount
set_option maxRecDepth 20000 in
theorem ggX3_count_X0_closings : GoodIn wsX3_count wsX0_closings := goodIn_r _ [28, 29, 38, 39, 40, 41, 42, 43, 44] (by decide +kernel) (by decide +kernel)
set_option maxRecDepth 20000 in
theorem gX3_count_X0_closings : GoodIn wsX3_count (wsV RX3 154 RX0 yX0_closings wsX0_closings) := goodIn_app (goodIn_of _ (by decide +kernel)) ggX3_count_X0_closings
theorem dX3_count_0 : decode cX3_count 0 = .ok (.iload_n 1, 1) := by decide +kernel
theorem dX3_count_1 : decode cX3_count 1 = .ok (.tableswitch 83 0 4 #[35, 43, 51, 67, 75], 35) := by decide +kernel
theorem dX3_count_36 : decode cX3_count 36 = .ok (.aload_n 0, 1) := by decide +kernel
theorem dX3_count_37 : decode cX3_count 37 = .ok (.getfield 10, 3) := by decide +kernel
theorem dX3_count_40 : decode cX3_count 40 = .ok (.invokevirtual 145, 3) := by decide +kernel
theorem dX3_count_43 : decode cX3_count 43 = .ok (.ireturn, 1) := by decide +kernel
theorem dX3_count_44 : decode cX3_count 44 = .ok (.aload_n 0, 1) := by decide +kernel
theorem dX3_count_45 : decode cX3_count 45 = .ok (.getfield 10, 3) := by decide +kernel
theorem dX3_count_48 : decode cX3_count 48 = .ok (.invokevirtual 148, 3) := by decide +kernel
theorem dX3_count_51 : decode cX3_count 51 = .ok (.ireturn, 1) := by decide +kernel
theorem dX3_count_52 : decode cX3_count 52 = .ok (.aload_n 0, 1) := by decide +kernel
theorem dX3_count_53 : decode cX3_count 53 = .ok (.getfield 19, 3) := by decide +kernel
theorem dX3_count_56 : decode cX3_count 56 = .ok (.invokevirtual 118, 3) := by decide +kernel
theorem dX3_count_59 : decode cX3_count 59 = .ok (.ifCond .eq 7, 3) := by decide +kernel
theorem dX3_count_62 : decode cX3_count 62 = .ok (.iconst 1, 1) := by decide +kernel
theorem dX3_count_63 : decode cX3_count 63 = .ok (.goto 4, 3) := by decide +kernel
theorem dX3_count_66 : decode cX3_count 66 = .ok (.iconst 0, 1) := by decide +kernel
theorem dX3_count_67 : decode cX3_count 67 = .ok (.ireturn, 1) := by decide +kernel
theorem dX3_count_68 : decode cX3_count 68 = .ok (.aload_n 0, 1) := by decide +kernel
theorem dX3_count_69 : decode cX3_count 69 = .ok (.getfield 19, 3) := by decide +kernel
theorem dX3_count_72 : decode cX3_count 72 = .ok (.invokevirtual 151, 3) := by decide +kernel
theorem dX3_count_75 : decode cX3_count 75 = .ok (.ireturn, 1) := by decide +kernel
theorem dX3_count_76 : decode cX3_count 76 = .ok (.aload_n 0, 1) := by decide +kernel
theorem dX3_count_77 : decode cX3_count 77 = .ok (.getfield 19, 3) := by decide +kernel
theorem dX3_count_80 : decode cX3_count 80 = .ok (.invokevirtual 154, 3) := by decide +kernel
theorem dX3_count_83 : decode cX3_count 83 = .ok (.ireturn, 1) := by decide +kernel
theorem dX3_count_84 : decode cX3_count 84 = .ok (.iconst (-1), 1) := by decide +kernel
theorem dX3_count_85 : decode cX3_count 85 = .ok (.ireturn, 1) := by decide +kernel
theorem dX3_isWord_0 : decode cX3_isWord 0 = .ok (.iload_n 0, 1) := by decide +kernel
theorem dX3_isWord_1 : decode cX3_isWord 1 = .ok (.ifCond .lt 12, 3) := by decide +kernel
theorem dX3_isWord_4 : decode cX3_isWord 4 = .ok (.iload_n 0, 1) := by decide +kernel
theorem dX3_isWord_5 : decode cX3_isWord 5 = .ok (.iconst 4, 1) := by decide +kernel
theorem dX3_isWord_6 : decode cX3_isWord 6 = .ok (.if_icmp .ge 7, 3) := by decide +kernel
theorem dX3_isWord_9 : decode cX3_isWord 9 = .ok (.iconst 1, 1) := by decide +kernel
theorem dX3_isWord_10 : decode cX3_isWord 10 = .ok (.goto 4, 3) := by decide +kernel
theorem dX3_isWord_13 : decode cX3_isWord 13 = .ok (.iconst 0, 1) := by decide +kernel
theorem dX3_isWord_14 : decode cX3_isWord 14 = .ok (.ireturn, 1) := by decide +kernel
set_option maxRecDepth 20000 in
theorem ggX3_startAnew_X0_makeEmpty : GoodIn wsX3_startAnew wsX0_makeEmpty := goodIn_r _ [7, 8, 9, 10, 11, 16, 17, 18, 19, 20, 21, 22] (by decide +kernel) (by decide +kernel)
set_option maxRecDepth 20000 in
theorem gX3_startAnew_X0_makeEmpty : GoodIn wsX3_startAnew (wsV RX3 157 RX0 yX0_makeEmpty wsX0_makeEmpty) := goodIn_app (goodIn_of _ (by decide +kernel)) ggX3_startAnew_X0_makeEmpty
theorem dX3_startAnew_0 : decode cX3_startAnew 0 = .ok (.aload_n 0, 1) := by decide +kernel
theorem dX3_startAnew_1 : decode cX3_startAnew 1 = .ok (.getfield 19, 3) := by decide +kernel
theorem dX3_startAnew_4 : decode cX3_startAnew 4 = .ok (.invokevirtual 157, 3) := by decide +kernel
theorem dX3_startAnew_7 : decode cX3_startAnew 7 = .ok (.aload_n 0, 1) := by decide +kernel
theorem dX3_startAnew_8 : decode cX3_startAnew 8 = .ok (.iconst 0, 1) := by decide +kernel
theorem dX3_startAnew_9 : decode cX3_startAnew 9 = .ok (.putfield 32, 3) := by decide +kernel
theorem dX3_startAnew_12 : decode cX3_startAnew 12 = .ok (.return_, 1) := by decide +kernel
set_option maxRecDepth 20000 in
theorem ggX3_learn_X2_look : GoodIn wsX3_learn wsX2_look := goodIn_r _ [7, 8, 9, 10, 11, 12, 13, 14, 15, 16, 17, 18, 19, 20, 21, 6, 22, 23, 24, 25, 26, 27, 28, 29, 30, 31, 32, 33, 34, 35, 36, 37, 38, 39, 40, 41, 42, 43, 44, 45, 46, 47, 48, 49, 50, 51, 52, 53, 54, 55, 56, 57, 58, 59, 60, 61, 62, 63, 64, 65, 66, 67, 68, 69, 70, 71, 72, 73, 74, 75, 76, 77, 78, 79, 80, 81, 82, 83, 88, 89, 90, 91, 92, 93, 94, 95, 96, 97, 98, 99, 100, 101, 102, 103, 104, 105, 106] (by decide +kernel) (by decide +kernel)
set_option maxRecDepth 20000 in
theorem gX3_learn_X2_look : GoodIn wsX3_learn (wsV RX3 160 RX2 yX2_look wsX2_look) := goodIn_app (goodIn_of _ (by decide +kernel)) ggX3_learn_X2_look
theorem dX3_learn_0 : decode cX3_learn 0 = .ok (.aload_n 0, 1) := by decide +kernel
theorem dX3_learn_1 : decode cX3_learn 1 = .ok (.getfield 32, 3) := by decide +kernel
theorem dX3_learn_4 : decode cX3_learn 4 = .ok (.iload_n 1, 1) := by decide +kernel
theorem dX3_learn_5 : decode cX3_learn 5 = .ok (.if_icmp .lt 4, 3) := by decide +kernel
theorem dX3_learn_8 : decode cX3_learn 8 = .ok (.return_, 1) := by decide +kernel
theorem dX3_learn_9 : decode cX3_learn 9 = .ok (.aload_n 0, 1) := by decide +kernel
theorem dX3_learn_10 : decode cX3_learn 10 = .ok (.getfield 28, 3) := by decide +kernel
theorem dX3_learn_13 : decode cX3_learn 13 = .ok (.iload_n 1, 1) := by decide +kernel
theorem dX3_learn_14 : decode cX3_learn 14 = .ok (.iconst 1, 1) := by decide +kernel
theorem dX3_learn_15 : decode cX3_learn 15 = .ok (.if_icmp .ne 7, 3) := by decide +kernel
theorem dX3_learn_18 : decode cX3_learn 18 = .ok (.iconst 1, 1) := by decide +kernel
theorem dX3_learn_19 : decode cX3_learn 19 = .ok (.goto 4, 3) := by decide +kernel
theorem dX3_learn_22 : decode cX3_learn 22 = .ok (.iconst 0, 1) := by decide +kernel
theorem dX3_learn_23 : decode cX3_learn 23 = .ok (.invokevirtual 160, 3) := by decide +kernel
theorem dX3_learn_26 : decode cX3_learn 26 = .ok (.aload_n 0, 1) := by decide +kernel
theorem dX3_learn_27 : decode cX3_learn 27 = .ok (.iload_n 1, 1) := by decide +kernel
theorem dX3_learn_28 : decode cX3_learn 28 = .ok (.putfield 32, 3) := by decide +kernel
theorem dX3_learn_31 : decode cX3_learn 31 = .ok (.return_, 1) := by decide +kernel
