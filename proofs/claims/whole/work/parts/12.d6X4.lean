theorem dX4_init_0 : decode cX4_init 0 = .ok (.aload_n 0, 1) := by decide +kernel
theorem dX4_init_1 : decode cX4_init 1 = .ok (.invokespecial 1, 3) := by decide +kernel
theorem dX4_init_4 : decode cX4_init 4 = .ok (.aload_n 0, 1) := by decide +kernel
theorem dX4_init_5 : decode cX4_init 5 = .ok (.bipush 16, 2) := by decide +kernel
theorem dX4_init_7 : decode cX4_init 7 = .ok (.newarray .int, 2) := by decide +kernel
theorem dX4_init_9 : decode cX4_init 9 = .ok (.putfield 7, 3) := by decide +kernel
theorem dX4_init_12 : decode cX4_init 12 = .ok (.aload_n 0, 1) := by decide +kernel
theorem dX4_init_13 : decode cX4_init 13 = .ok (.bipush 80, 2) := by decide +kernel
theorem dX4_init_15 : decode cX4_init 15 = .ok (.newarray .int, 2) := by decide +kernel
theorem dX4_init_17 : decode cX4_init 17 = .ok (.putfield 13, 3) := by decide +kernel
theorem dX4_init_20 : decode cX4_init 20 = .ok (.aload_n 0, 1) := by decide +kernel
theorem dX4_init_21 : decode cX4_init 21 = .ok (.bipush 8, 2) := by decide +kernel
theorem dX4_init_23 : decode cX4_init 23 = .ok (.newarray .int, 2) := by decide +kernel
theorem dX4_init_25 : decode cX4_init 25 = .ok (.putfield 16, 3) := by decide +kernel
theorem dX4_init_28 : decode cX4_init 28 = .ok (.aload_n 0, 1) := by decide +kernel
theorem dX4_init_29 : decode cX4_init 29 = .ok (.sipush 1000, 3) := by decide +kernel
theorem dX4_init_32 : decode cX4_init 32 = .ok (.newarray .long, 2) := by decide +kernel
theorem dX4_init_34 : decode cX4_init 34 = .ok (.putfield 19, 3) := by decide +kernel
theorem dX4_init_37 : decode cX4_init 37 = .ok (.aload_n 0, 1) := by decide +kernel
theorem dX4_init_38 : decode cX4_init 38 = .ok (.bipush 10, 2) := by decide +kernel
theorem dX4_init_40 : decode cX4_init 40 = .ok (.newarray .int, 2) := by decide +kernel
theorem dX4_init_42 : decode cX4_init 42 = .ok (.putfield 23, 3) := by decide +kernel
theorem dX4_init_45 : decode cX4_init 45 = .ok (.aload_n 0, 1) := by decide +kernel
theorem dX4_init_46 : decode cX4_init 46 = .ok (.bipush 10, 2) := by decide +kernel
theorem dX4_init_48 : decode cX4_init 48 = .ok (.newarray .int, 2) := by decide +kernel
theorem dX4_init_50 : decode cX4_init 50 = .ok (.putfield 26, 3) := by decide +kernel
theorem dX4_init_53 : decode cX4_init 53 = .ok (.aload_n 0, 1) := by decide +kernel
theorem dX4_init_54 : decode cX4_init 54 = .ok (.bipush 10, 2) := by decide +kernel
theorem dX4_init_56 : decode cX4_init 56 = .ok (.newarray .int, 2) := by decide +kernel
theorem dX4_init_58 : decode cX4_init 58 = .ok (.putfield 29, 3) := by decide +kernel
theorem dX4_init_61 : decode cX4_init 61 = .ok (.aload_n 0, 1) := by decide +kernel
theorem dX4_init_62 : decode cX4_init 62 = .ok (.bipush 10, 2) := by decide +kernel
theorem dX4_init_64 : decode cX4_init 64 = .ok (.newarray .int, 2) := by decide +kernel
theorem dX4_init_66 : decode cX4_init 66 = .ok (.putfield 32, 3) := by decide +kernel
theorem dX4_init_69 : decode cX4_init 69 = .ok (.aload_n 0, 1) := by decide +kernel
theorem dX4_init_70 : decode cX4_init 70 = .ok (.iconst 4, 1) := by decide +kernel
theorem dX4_init_71 : decode cX4_init 71 = .ok (.newarray .int, 2) := by decide +kernel
theorem dX4_init_73 : decode cX4_init 73 = .ok (.putfield 35, 3) := by decide +kernel
theorem dX4_init_76 : decode cX4_init 76 = .ok (.aload_n 0, 1) := by decide +kernel
theorem dX4_init_77 : decode cX4_init 77 = .ok (.iconst 4, 1) := by decide +kernel
theorem dX4_init_78 : decode cX4_init 78 = .ok (.newarray .int, 2) := by decide +kernel
theorem dX4_init_80 : decode cX4_init 80 = .ok (.putfield 38, 3) := by decide +kernel
theorem dX4_init_83 : decode cX4_init 83 = .ok (.aload_n 0, 1) := by decide +kernel
theorem dX4_init_84 : decode cX4_init 84 = .ok (.iconst 4, 1) := by decide +kernel
theorem dX4_init_85 : decode cX4_init 85 = .ok (.newarray .int, 2) := by decide +kernel
theorem dX4_init_87 : decode cX4_init 87 = .ok (.putfield 41, 3) := by decide +kernel
theorem dX4_init_90 : decode cX4_init 90 = .ok (.aload_n 0, 1) := by decide +kernel
theorem dX4_init_91 : decode cX4_init 91 = .ok (.iconst 4, 1) := by decide +kernel
theorem dX4_init_92 : decode cX4_init 92 = .ok (.newarray .int, 2) := by decide +kernel
theorem dX4_init_94 : decode cX4_init 94 = .ok (.putfield 44, 3) := by decide +kernel
theorem dX4_init_97 : decode cX4_init 97 = .ok (.aload_n 0, 1) := by decide +kernel
theorem dX4_init_98 : decode cX4_init 98 = .ok (.bipush 16, 2) := by decide +kernel
theorem dX4_init_100 : decode cX4_init 100 = .ok (.newarray .int, 2) := by decide +kernel
theorem dX4_init_102 : decode cX4_init 102 = .ok (.putfield 47, 3) := by decide +kernel
theorem dX4_init_105 : decode cX4_init 105 = .ok (.aload_n 0, 1) := by decide +kernel
theorem dX4_init_106 : decode cX4_init 106 = .ok (.iconst 0, 1) := by decide +kernel
theorem dX4_init_107 : decode cX4_init 107 = .ok (.putfield 50, 3) := by decide +kernel
theorem dX4_init_110 : decode cX4_init 110 = .ok (.return_, 1) := by decide +kernel
theorem dX4_changed_0 : decode cX4_changed 0 = .ok (.aload_n 0, 1) := by decide +kernel
theorem dX4_changed_1 : decode cX4_changed 1 = .ok (.iconst 0, 1) := by decide +kernel
theorem dX4_changed_2 : decode cX4_changed 2 = .ok (.putfield 54, 3) := by decide +kernel
theorem dX4_changed_5 : decode cX4_changed 5 = .ok (.aload_n 0, 1) := by decide +kernel
theorem dX4_changed_6 : decode cX4_changed 6 = .ok (.iconst 0, 1) := by decide +kernel
theorem dX4_changed_7 : decode cX4_changed 7 = .ok (.putfield 58, 3) := by decide +kernel
theorem dX4_changed_10 : decode cX4_changed 10 = .ok (.aload_n 0, 1) := by decide +kernel
theorem dX4_changed_11 : decode cX4_changed 11 = .ok (.iconst 0, 1) := by decide +kernel
theorem dX4_changed_12 : decode cX4_changed 12 = .ok (.putfield 61, 3) := by decide +kernel
theorem dX4_changed_15 : decode cX4_changed 15 = .ok (.aload_n 0, 1) := by decide +kernel
theorem dX4_changed_16 : decode cX4_changed 16 = .ok (.iconst 0, 1) := by decide +kernel
theorem dX4_changed_17 : decode cX4_changed 17 = .ok (.putfield 64, 3) := by decide +kernel
theorem dX4_changed_20 : decode cX4_changed 20 = .ok (.aload_n 0, 1) := by decide +kernel
theorem dX4_changed_21 : decode cX4_changed 21 = .ok (.iconst 0, 1) := by decide +kernel
theorem dX4_changed_22 : decode cX4_changed 22 = .ok (.putfield 67, 3) := by decide +kernel
theorem dX4_changed_25 : decode cX4_changed 25 = .ok (.return_, 1) := by decide +kernel
theorem dX4_isIn_0 : decode cX4_isIn 0 = .ok (.lload_n 0, 1) := by decide +kernel
theorem dX4_isIn_1 : decode cX4_isIn 1 = .ok (.lload_n 2, 1) := by decide +kernel
theorem dX4_isIn_2 : decode cX4_isIn 2 = .ok (.lneg, 1) := by decide +kernel
theorem dX4_isIn_3 : decode cX4_isIn 3 = .ok (.lcmp, 1) := by decide +kernel
theorem dX4_isIn_4 : decode cX4_isIn 4 = .ok (.ifCond .lt 13, 3) := by decide +kernel
theorem dX4_isIn_7 : decode cX4_isIn 7 = .ok (.lload_n 0, 1) := by decide +kernel
theorem dX4_isIn_8 : decode cX4_isIn 8 = .ok (.lload_n 2, 1) := by decide +kernel
theorem dX4_isIn_9 : decode cX4_isIn 9 = .ok (.lcmp, 1) := by decide +kernel
theorem dX4_isIn_10 : decode cX4_isIn 10 = .ok (.ifCond .gt 7, 3) := by decide +kernel
theorem dX4_isIn_13 : decode cX4_isIn 13 = .ok (.iconst 1, 1) := by decide +kernel
theorem dX4_isIn_14 : decode cX4_isIn 14 = .ok (.goto 4, 3) := by decide +kernel
theorem dX4_isIn_17 : decode cX4_isIn 17 = .ok (.iconst 0, 1) := by decide +kernel
theorem dX4_isIn_18 : decode cX4_isIn 18 = .ok (.ireturn, 1) := by decide +kernel
set_option maxRecDepth 20000 in
theorem ggX4_row_X4_isIn : GoodIn wsX4_row wsX4_isIn := goodIn_r _ [9] (by decide +kernel) (by decide +kernel)
set_option maxRecDepth 20000 in
theorem gX4_row_X4_isIn : GoodIn wsX4_row (va_wsS RX4 72 yX4_isIn wsX4_isIn) := goodIn_app (goodIn_of _ (by decide +kernel)) ggX4_row_X4_isIn
set_option maxRecDepth 20000 in
theorem ggX4_row_X4_changed : GoodIn wsX4_row wsX4_changed := goodIn_r _ [13, 14, 15, 16, 17, 18, 19, 20, 21, 22, 23, 24, 25, 26, 27, 28, 29, 30, 31, 32, 33, 34, 35, 36, 37, 38, 39] (by decide +kernel) (by decide +kernel)
set_option maxRecDepth 20000 in
theorem gX4_row_X4_changed : GoodIn wsX4_row (wsV RX4 78 RX4 yX4_changed wsX4_changed) := goodIn_app (goodIn_of _ (by decide +kernel)) ggX4_row_X4_changed
theorem dX4_row_0 : decode cX4_row 0 = .ok (.iload_n 1, 1) := by decide +kernel
theorem dX4_row_1 : decode cX4_row 1 = .ok (.ifCond .lt 70, 3) := by decide +kernel
theorem dX4_row_4 : decode cX4_row 4 = .ok (.iload_n 1, 1) := by decide +kernel
theorem dX4_row_5 : decode cX4_row 5 = .ok (.iconst 1, 1) := by decide +kernel
theorem dX4_row_6 : decode cX4_row 6 = .ok (.if_icmp .gt 65, 3) := by decide +kernel
theorem dX4_row_9 : decode cX4_row 9 = .ok (.iload_n 2, 1) := by decide +kernel
theorem dX4_row_10 : decode cX4_row 10 = .ok (.i2l, 1) := by decide +kernel
theorem dX4_row_11 : decode cX4_row 11 = .ok (.ldc2_w 70, 3) := by decide +kernel
theorem dX4_row_14 : decode cX4_row 14 = .ok (.invokestatic 72, 3) := by decide +kernel
theorem dX4_row_17 : decode cX4_row 17 = .ok (.ifCond .eq 54, 3) := by decide +kernel
theorem dX4_row_20 : decode cX4_row 20 = .ok (.iload_n 3, 1) := by decide +kernel
theorem dX4_row_21 : decode cX4_row 21 = .ok (.i2l, 1) := by decide +kernel
theorem dX4_row_22 : decode cX4_row 22 = .ok (.ldc2_w 70, 3) := by decide +kernel
theorem dX4_row_25 : decode cX4_row 25 = .ok (.invokestatic 72, 3) := by decide +kernel
theorem dX4_row_28 : decode cX4_row 28 = .ok (.ifCond .eq 43, 3) := by decide +kernel
theorem dX4_row_31 : decode cX4_row 31 = .ok (.iload 4, 2) := by decide +kernel
theorem dX4_row_33 : decode cX4_row 33 = .ok (.i2l, 1) := by decide +kernel
theorem dX4_row_34 : decode cX4_row 34 = .ok (.ldc2_w 70, 3) := by decide +kernel
theorem dX4_row_37 : decode cX4_row 37 = .ok (.invokestatic 72, 3) := by decide +kernel
theorem dX4_row_40 : decode cX4_row 40 = .ok (.ifCond .eq 31, 3) := by decide +kernel
theorem dX4_row_43 : decode cX4_row 43 = .ok (.iload 5, 2) := by decide +kernel
theorem dX4_row_45 : decode cX4_row 45 = .ok (.i2l, 1) := by decide +kernel
theorem dX4_row_46 : decode cX4_row 46 = .ok (.ldc2_w 70, 3) := by decide +kernel
theorem dX4_row_49 : decode cX4_row 49 = .ok (.invokestatic 72, 3) := by decide +kernel
theorem dX4_row_52 : decode cX4_row 52 = .ok (.ifCond .eq 19, 3) := by decide +kernel
theorem dX4_row_55 : decode cX4_row 55 = .ok (.iload 6, 2) := by decide +kernel
theorem dX4_row_57 : decode cX4_row 57 = .ok (.i2l, 1) := by decide +kernel
theorem dX4_row_58 : decode cX4_row 58 = .ok (.ldc2_w 76, 3) := by decide +kernel
theorem dX4_row_61 : decode cX4_row 61 = .ok (.invokestatic 72, 3) := by decide +kernel
theorem dX4_row_64 : decode cX4_row 64 = .ok (.ifCond .eq 7, 3) := by decide +kernel
theorem dX4_row_67 : decode cX4_row 67 = .ok (.iconst 1, 1) := by decide +kernel
theorem dX4_row_68 : decode cX4_row 68 = .ok (.goto 4, 3) := by decide +kernel
theorem dX4_row_71 : decode cX4_row 71 = .ok (.iconst 0, 1) := by decide +kernel
theorem dX4_row_72 : decode cX4_row 72 = .ok (.istore 7, 2) := by decide +kernel
theorem dX4_row_74 : decode cX4_row 74 = .ok (.iload 7, 2) := by decide +kernel
theorem dX4_row_76 : decode cX4_row 76 = .ok (.ifCond .eq 12, 3) := by decide +kernel
theorem dX4_row_79 : decode cX4_row 79 = .ok (.aload_n 0, 1) := by decide +kernel
theorem dX4_row_80 : decode cX4_row 80 = .ok (.getfield 50, 3) := by decide +kernel
theorem dX4_row_83 : decode cX4_row 83 = .ok (.bipush 16, 2) := by decide +kernel
theorem dX4_row_85 : decode cX4_row 85 = .ok (.if_icmp .ne 5, 3) := by decide +kernel
theorem dX4_row_88 : decode cX4_row 88 = .ok (.iconst (-1), 1) := by decide +kernel
theorem dX4_row_89 : decode cX4_row 89 = .ok (.ireturn, 1) := by decide +kernel
theorem dX4_row_90 : decode cX4_row 90 = .ok (.iconst 5, 1) := by decide +kernel
theorem dX4_row_91 : decode cX4_row 91 = .ok (.aload_n 0, 1) := by decide +kernel
theorem dX4_row_92 : decode cX4_row 92 = .ok (.getfield 50, 3) := by decide +kernel
theorem dX4_row_95 : decode cX4_row 95 = .ok (.imul, 1) := by decide +kernel
theorem dX4_row_96 : decode cX4_row 96 = .ok (.istore 8, 2) := by decide +kernel
theorem dX4_row_98 : decode cX4_row 98 = .ok (.aload_n 0, 1) := by decide +kernel
theorem dX4_row_99 : decode cX4_row 99 = .ok (.getfield 7, 3) := by decide +kernel
theorem dX4_row_102 : decode cX4_row 102 = .ok (.aload_n 0, 1) := by decide +kernel
theorem dX4_row_103 : decode cX4_row 103 = .ok (.getfield 50, 3) := by decide +kernel
theorem dX4_row_106 : decode cX4_row 106 = .ok (.iload_n 1, 1) := by decide +kernel
theorem dX4_row_107 : decode cX4_row 107 = .ok (.iastore, 1) := by decide +kernel
theorem dX4_row_108 : decode cX4_row 108 = .ok (.aload_n 0, 1) := by decide +kernel
theorem dX4_row_109 : decode cX4_row 109 = .ok (.getfield 13, 3) := by decide +kernel
theorem dX4_row_112 : decode cX4_row 112 = .ok (.iload 8, 2) := by decide +kernel
theorem dX4_row_114 : decode cX4_row 114 = .ok (.iload_n 2, 1) := by decide +kernel
theorem dX4_row_115 : decode cX4_row 115 = .ok (.iastore, 1) := by decide +kernel
theorem dX4_row_116 : decode cX4_row 116 = .ok (.aload_n 0, 1) := by decide +kernel
theorem dX4_row_117 : decode cX4_row 117 = .ok (.getfield 13, 3) := by decide +kernel
theorem dX4_row_120 : decode cX4_row 120 = .ok (.iload 8, 2) := by decide +kernel
theorem dX4_row_122 : decode cX4_row 122 = .ok (.iconst 1, 1) := by decide +kernel
theorem dX4_row_123 : decode cX4_row 123 = .ok (.iadd, 1) := by decide +kernel
theorem dX4_row_124 : decode cX4_row 124 = .ok (.iload_n 3, 1) := by decide +kernel
theorem dX4_row_125 : decode cX4_row 125 = .ok (.iastore, 1) := by decide +kernel
theorem dX4_row_126 : decode cX4_row 126 = .ok (.aload_n 0, 1) := by decide +kernel
theorem dX4_row_127 : decode cX4_row 127 = .ok (.getfield 13, 3) := by decide +kernel
theorem dX4_row_130 : decode cX4_row 130 = .ok (.iload 8, 2) := by decide +kernel
theorem dX4_row_132 : decode cX4_row 132 = .ok (.iconst 2, 1) := by decide +kernel
theorem dX4_row_133 : decode cX4_row 133 = .ok (.iadd, 1) := by decide +kernel
theorem dX4_row_134 : decode cX4_row 134 = .ok (.iload 4, 2) := by decide +kernel
theorem dX4_row_136 : decode cX4_row 136 = .ok (.iastore, 1) := by decide +kernel
theorem dX4_row_137 : decode cX4_row 137 = .ok (.aload_n 0, 1) := by decide +kernel
theorem dX4_row_138 : decode cX4_row 138 = .ok (.getfield 13, 3) := by decide +kernel
theorem dX4_row_141 : decode cX4_row 141 = .ok (.iload 8, 2) := by decide +kernel
theorem dX4_row_143 : decode cX4_row 143 = .ok (.iconst 3, 1) := by decide +kernel
theorem dX4_row_144 : decode cX4_row 144 = .ok (.iadd, 1) := by decide +kernel
theorem dX4_row_145 : decode cX4_row 145 = .ok (.iload 5, 2) := by decide +kernel
theorem dX4_row_147 : decode cX4_row 147 = .ok (.iastore, 1) := by decide +kernel
theorem dX4_row_148 : decode cX4_row 148 = .ok (.aload_n 0, 1) := by decide +kernel
theorem dX4_row_149 : decode cX4_row 149 = .ok (.getfield 13, 3) := by decide +kernel
theorem dX4_row_152 : decode cX4_row 152 = .ok (.iload 8, 2) := by decide +kernel
theorem dX4_row_154 : decode cX4_row 154 = .ok (.iconst 4, 1) := by decide +kernel
theorem dX4_row_155 : decode cX4_row 155 = .ok (.iadd, 1) := by decide +kernel
theorem dX4_row_156 : decode cX4_row 156 = .ok (.iload 6, 2) := by decide +kernel
theorem dX4_row_158 : decode cX4_row 158 = .ok (.iastore, 1) := by decide +kernel
theorem dX4_row_159 : decode cX4_row 159 = .ok (.aload_n 0, 1) := by decide +kernel
theorem dX4_row_160 : decode cX4_row 160 = .ok (.dup, 1) := by decide +kernel
theorem dX4_row_161 : decode cX4_row 161 = .ok (.getfield 50, 3) := by decide +kernel
theorem dX4_row_164 : decode cX4_row 164 = .ok (.iconst 1, 1) := by decide +kernel
theorem dX4_row_165 : decode cX4_row 165 = .ok (.iadd, 1) := by decide +kernel
theorem dX4_row_166 : decode cX4_row 166 = .ok (.putfield 50, 3) := by decide +kernel
theorem dX4_row_169 : decode cX4_row 169 = .ok (.aload_n 0, 1) := by decide +kernel
theorem dX4_row_170 : decode cX4_row 170 = .ok (.invokevirtual 78, 3) := by decide +kernel
theorem dX4_row_173 : decode cX4_row 173 = .ok (.aload_n 0, 1) := by decide +kernel
theorem dX4_row_174 : decode cX4_row 174 = .ok (.getfield 50, 3) := by decide +kernel
theorem dX4_row_177 : decode cX4_row 177 = .ok (.iconst 1, 1) := by decide +kernel
theorem dX4_row_178 : decode cX4_row 178 = .ok (.isub, 1) := by decide +kernel
theorem dX4_row_179 : decode cX4_row 179 = .ok (.ireturn, 1) := by decide +kernel
set_option maxRecDepth 20000 in
theorem ggX4_push_X4_changed : GoodIn wsX4_push wsX4_changed := goodIn_r _ [8, 9, 10, 11, 12, 13, 14, 15, 16, 17, 18, 19, 20, 21, 22, 23, 24, 25, 26, 27, 28, 29, 30, 31, 32, 33, 34] (by decide +kernel) (by decide +kernel)
set_option maxRecDepth 20000 in
theorem gX4_push_X4_changed : GoodIn wsX4_push (wsV RX4 78 RX4 yX4_changed wsX4_changed) := goodIn_app (goodIn_of _ (by decide +kernel)) ggX4_push_X4_changed
theorem dX4_push_0 : decode cX4_push 0 = .ok (.aload_n 0, 1) := by decide +kernel
theorem dX4_push_1 : decode cX4_push 1 = .ok (.getfield 81, 3) := by decide +kernel
theorem dX4_push_4 : decode cX4_push 4 = .ok (.bipush 8, 2) := by decide +kernel
theorem dX4_push_6 : decode cX4_push 6 = .ok (.if_icmp .ne 5, 3) := by decide +kernel
theorem dX4_push_9 : decode cX4_push 9 = .ok (.iconst (-1), 1) := by decide +kernel
theorem dX4_push_10 : decode cX4_push 10 = .ok (.ireturn, 1) := by decide +kernel
theorem dX4_push_11 : decode cX4_push 11 = .ok (.aload_n 0, 1) := by decide +kernel
theorem dX4_push_12 : decode cX4_push 12 = .ok (.getfield 16, 3) := by decide +kernel
theorem dX4_push_15 : decode cX4_push 15 = .ok (.aload_n 0, 1) := by decide +kernel
theorem dX4_push_16 : decode cX4_push 16 = .ok (.getfield 81, 3) := by decide +kernel
theorem dX4_push_19 : decode cX4_push 19 = .ok (.aload_n 0, 1) := by decide +kernel
theorem dX4_push_20 : decode cX4_push 20 = .ok (.getfield 50, 3) := by decide +kernel
theorem dX4_push_23 : decode cX4_push 23 = .ok (.iastore, 1) := by decide +kernel
theorem dX4_push_24 : decode cX4_push 24 = .ok (.aload_n 0, 1) := by decide +kernel
theorem dX4_push_25 : decode cX4_push 25 = .ok (.dup, 1) := by decide +kernel
theorem dX4_push_26 : decode cX4_push 26 = .ok (.getfield 81, 3) := by decide +kernel
theorem dX4_push_29 : decode cX4_push 29 = .ok (.iconst 1, 1) := by decide +kernel
theorem dX4_push_30 : decode cX4_push 30 = .ok (.iadd, 1) := by decide +kernel
theorem dX4_push_31 : decode cX4_push 31 = .ok (.putfield 81, 3) := by decide +kernel
theorem dX4_push_34 : decode cX4_push 34 = .ok (.aload_n 0, 1) := by decide +kernel
theorem dX4_push_35 : decode cX4_push 35 = .ok (.invokevirtual 78, 3) := by decide +kernel
theorem dX4_push_38 : decode cX4_push 38 = .ok (.aload_n 0, 1) := by decide +kernel
theorem dX4_push_39 : decode cX4_push 39 = .ok (.getfield 81, 3) := by decide +kernel
theorem dX4_push_42 : decode cX4_push 42 = .ok (.ireturn, 1) := by decide +kernel
set_option maxRecDepth 20000 in
theorem ggX4_pop_X4_changed : GoodIn wsX4_pop wsX4_changed := goodIn_r _ [8, 9, 10, 11, 12, 13, 14, 15, 16, 17, 18, 19, 20, 21, 22, 23, 24, 25, 26, 27, 28, 29, 30, 31, 32, 33, 34] (by decide +kernel) (by decide +kernel)
set_option maxRecDepth 20000 in
theorem gX4_pop_X4_changed : GoodIn wsX4_pop (wsV RX4 78 RX4 yX4_changed wsX4_changed) := goodIn_app (goodIn_of _ (by decide +kernel)) ggX4_pop_X4_changed
theorem dX4_pop_0 : decode cX4_pop 0 = .ok (.aload_n 0, 1) := by decide +kernel
theorem dX4_pop_1 : decode cX4_pop 1 = .ok (.getfield 81, 3) := by decide +kernel
theorem dX4_pop_4 : decode cX4_pop 4 = .ok (.ifCond .ne 5, 3) := by decide +kernel
theorem dX4_pop_7 : decode cX4_pop 7 = .ok (.iconst (-1), 1) := by decide +kernel
theorem dX4_pop_8 : decode cX4_pop 8 = .ok (.ireturn, 1) := by decide +kernel
theorem dX4_pop_9 : decode cX4_pop 9 = .ok (.aload_n 0, 1) := by decide +kernel
theorem dX4_pop_10 : decode cX4_pop 10 = .ok (.dup, 1) := by decide +kernel
theorem dX4_pop_11 : decode cX4_pop 11 = .ok (.getfield 81, 3) := by decide +kernel
theorem dX4_pop_14 : decode cX4_pop 14 = .ok (.iconst 1, 1) := by decide +kernel
theorem dX4_pop_15 : decode cX4_pop 15 = .ok (.isub, 1) := by decide +kernel
theorem dX4_pop_16 : decode cX4_pop 16 = .ok (.putfield 81, 3) := by decide +kernel
theorem dX4_pop_19 : decode cX4_pop 19 = .ok (.aload_n 0, 1) := by decide +kernel
theorem dX4_pop_20 : decode cX4_pop 20 = .ok (.getfield 50, 3) := by decide +kernel
theorem dX4_pop_23 : decode cX4_pop 23 = .ok (.aload_n 0, 1) := by decide +kernel
theorem dX4_pop_24 : decode cX4_pop 24 = .ok (.getfield 16, 3) := by decide +kernel
theorem dX4_pop_27 : decode cX4_pop 27 = .ok (.aload_n 0, 1) := by decide +kernel
theorem dX4_pop_28 : decode cX4_pop 28 = .ok (.getfield 81, 3) := by decide +kernel
theorem dX4_pop_31 : decode cX4_pop 31 = .ok (.iaload, 1) := by decide +kernel
theorem dX4_pop_32 : decode cX4_pop 32 = .ok (.isub, 1) := by decide +kernel
theorem dX4_pop_33 : decode cX4_pop 33 = .ok (.istore_n 1, 1) := by decide +kernel
theorem dX4_pop_34 : decode cX4_pop 34 = .ok (.aload_n 0, 1) := by decide +kernel
theorem dX4_pop_35 : decode cX4_pop 35 = .ok (.aload_n 0, 1) := by decide +kernel
theorem dX4_pop_36 : decode cX4_pop 36 = .ok (.getfield 16, 3) := by decide +kernel
theorem dX4_pop_39 : decode cX4_pop 39 = .ok (.aload_n 0, 1) := by decide +kernel
theorem dX4_pop_40 : decode cX4_pop 40 = .ok (.getfield 81, 3) := by decide +kernel
theorem dX4_pop_43 : decode cX4_pop 43 = .ok (.iaload, 1) := by decide +kernel
theorem dX4_pop_44 : decode cX4_pop 44 = .ok (.putfield 50, 3) := by decide +kernel
theorem dX4_pop_47 : decode cX4_pop 47 = .ok (.aload_n 0, 1) := by decide +kernel
theorem dX4_pop_48 : decode cX4_pop 48 = .ok (.invokevirtual 78, 3) := by decide +kernel
theorem dX4_pop_51 : decode cX4_pop 51 = .ok (.iload_n 1, 1) := by decide +kernel
theorem dX4_pop_52 : decode cX4_pop 52 = .ok (.ireturn, 1) := by decide +kernel
theorem dX4_ofRow_0 : decode cX4_ofRow 0 = .ok (.iload_n 1, 1) := by decide +kernel
theorem dX4_ofRow_1 : decode cX4_ofRow 1 = .ok (.ifCond .lt 20, 3) := by decide +kernel
theorem dX4_ofRow_4 : decode cX4_ofRow 4 = .ok (.iload_n 1, 1) := by decide +kernel
theorem dX4_ofRow_5 : decode cX4_ofRow 5 = .ok (.aload_n 0, 1) := by decide +kernel
theorem dX4_ofRow_6 : decode cX4_ofRow 6 = .ok (.getfield 50, 3) := by decide +kernel
theorem dX4_ofRow_9 : decode cX4_ofRow 9 = .ok (.if_icmp .ge 12, 3) := by decide +kernel
theorem dX4_ofRow_12 : decode cX4_ofRow 12 = .ok (.iload_n 2, 1) := by decide +kernel
theorem dX4_ofRow_13 : decode cX4_ofRow 13 = .ok (.ifCond .lt 8, 3) := by decide +kernel
theorem dX4_ofRow_16 : decode cX4_ofRow 16 = .ok (.iload_n 2, 1) := by decide +kernel
theorem dX4_ofRow_17 : decode cX4_ofRow 17 = .ok (.iconst 5, 1) := by decide +kernel
theorem dX4_ofRow_18 : decode cX4_ofRow 18 = .ok (.if_icmp .le 6, 3) := by decide +kernel
theorem dX4_ofRow_21 : decode cX4_ofRow 21 = .ok (.ldc 84, 2) := by decide +kernel
theorem dX4_ofRow_23 : decode cX4_ofRow 23 = .ok (.ireturn, 1) := by decide +kernel
theorem dX4_ofRow_24 : decode cX4_ofRow 24 = .ok (.iload_n 2, 1) := by decide +kernel
theorem dX4_ofRow_25 : decode cX4_ofRow 25 = .ok (.ifCond .ne 12, 3) := by decide +kernel
theorem dX4_ofRow_28 : decode cX4_ofRow 28 = .ok (.aload_n 0, 1) := by decide +kernel
theorem dX4_ofRow_29 : decode cX4_ofRow 29 = .ok (.getfield 7, 3) := by decide +kernel
theorem dX4_ofRow_32 : decode cX4_ofRow 32 = .ok (.iload_n 1, 1) := by decide +kernel
theorem dX4_ofRow_33 : decode cX4_ofRow 33 = .ok (.iaload, 1) := by decide +kernel
theorem dX4_ofRow_34 : decode cX4_ofRow 34 = .ok (.goto 15, 3) := by decide +kernel
theorem dX4_ofRow_37 : decode cX4_ofRow 37 = .ok (.aload_n 0, 1) := by decide +kernel
theorem dX4_ofRow_38 : decode cX4_ofRow 38 = .ok (.getfield 13, 3) := by decide +kernel
theorem dX4_ofRow_41 : decode cX4_ofRow 41 = .ok (.iconst 5, 1) := by decide +kernel
theorem dX4_ofRow_42 : decode cX4_ofRow 42 = .ok (.iload_n 1, 1) := by decide +kernel
theorem dX4_ofRow_43 : decode cX4_ofRow 43 = .ok (.imul, 1) := by decide +kernel
theorem dX4_ofRow_44 : decode cX4_ofRow 44 = .ok (.iload_n 2, 1) := by decide +kernel
theorem dX4_ofRow_45 : decode cX4_ofRow 45 = .ok (.iadd, 1) := by decide +kernel
theorem dX4_ofRow_46 : decode cX4_ofRow 46 = .ok (.iconst 1, 1) := by decide +kernel
theorem dX4_ofRow_47 : decode cX4_ofRow 47 = .ok (.isub, 1) := by decide +kernel
theorem dX4_ofRow_48 : decode cX4_ofRow 48 = .ok (.iaload, 1) := by decide +kernel
theorem dX4_ofRow_49 : decode cX4_ofRow 49 = .ok (.ireturn, 1) := by decide +kernel
theorem dX4_holds_0 : decode cX4_holds 0 = .ok (.iconst 1, 1) := by decide +kernel
theorem dX4_holds_1 : decode cX4_holds 1 = .ok (.istore_n 2, 1) := by decide +kernel
theorem dX4_holds_2 : decode cX4_holds 2 = .ok (.iconst 0, 1) := by decide +kernel
theorem dX4_holds_3 : decode cX4_holds 3 = .ok (.istore_n 3, 1) := by decide +kernel
theorem dX4_holds_4 : decode cX4_holds 4 = .ok (.iload_n 3, 1) := by decide +kernel
theorem dX4_holds_5 : decode cX4_holds 5 = .ok (.aload_n 0, 1) := by decide +kernel
theorem dX4_holds_6 : decode cX4_holds 6 = .ok (.getfield 50, 3) := by decide +kernel
theorem dX4_holds_9 : decode cX4_holds 9 = .ok (.if_icmp .ge 87, 3) := by decide +kernel
theorem dX4_holds_12 : decode cX4_holds 12 = .ok (.iload_n 2, 1) := by decide +kernel
theorem dX4_holds_13 : decode cX4_holds 13 = .ok (.ifCond .eq 83, 3) := by decide +kernel
theorem dX4_holds_16 : decode cX4_holds 16 = .ok (.aload_n 0, 1) := by decide +kernel
theorem dX4_holds_17 : decode cX4_holds 17 = .ok (.getfield 47, 3) := by decide +kernel
theorem dX4_holds_20 : decode cX4_holds 20 = .ok (.iload_n 3, 1) := by decide +kernel
theorem dX4_holds_21 : decode cX4_holds 21 = .ok (.iaload, 1) := by decide +kernel
theorem dX4_holds_22 : decode cX4_holds 22 = .ok (.aload_n 0, 1) := by decide +kernel
theorem dX4_holds_23 : decode cX4_holds 23 = .ok (.getfield 13, 3) := by decide +kernel
theorem dX4_holds_26 : decode cX4_holds 26 = .ok (.iconst 5, 1) := by decide +kernel
theorem dX4_holds_27 : decode cX4_holds 27 = .ok (.iload_n 3, 1) := by decide +kernel
theorem dX4_holds_28 : decode cX4_holds 28 = .ok (.imul, 1) := by decide +kernel
theorem dX4_holds_29 : decode cX4_holds 29 = .ok (.iconst 3, 1) := by decide +kernel
theorem dX4_holds_30 : decode cX4_holds 30 = .ok (.iadd, 1) := by decide +kernel
theorem dX4_holds_31 : decode cX4_holds 31 = .ok (.iaload, 1) := by decide +kernel
theorem dX4_holds_32 : decode cX4_holds 32 = .ok (.iload_n 1, 1) := by decide +kernel
theorem dX4_holds_33 : decode cX4_holds 33 = .ok (.imul, 1) := by decide +kernel
theorem dX4_holds_34 : decode cX4_holds 34 = .ok (.iadd, 1) := by decide +kernel
theorem dX4_holds_35 : decode cX4_holds 35 = .ok (.istore 4, 2) := by decide +kernel
theorem dX4_holds_37 : decode cX4_holds 37 = .ok (.aload_n 0, 1) := by decide +kernel
theorem dX4_holds_38 : decode cX4_holds 38 = .ok (.getfield 7, 3) := by decide +kernel
theorem dX4_holds_41 : decode cX4_holds 41 = .ok (.iload_n 3, 1) := by decide +kernel
theorem dX4_holds_42 : decode cX4_holds 42 = .ok (.iaload, 1) := by decide +kernel
theorem dX4_holds_43 : decode cX4_holds 43 = .ok (.ifCond .ne 26, 3) := by decide +kernel
theorem dX4_holds_46 : decode cX4_holds 46 = .ok (.iload 4, 2) := by decide +kernel
theorem dX4_holds_48 : decode cX4_holds 48 = .ok (.aload_n 0, 1) := by decide +kernel
theorem dX4_holds_49 : decode cX4_holds 49 = .ok (.getfield 13, 3) := by decide +kernel
theorem dX4_holds_52 : decode cX4_holds 52 = .ok (.iconst 5, 1) := by decide +kernel
theorem dX4_holds_53 : decode cX4_holds 53 = .ok (.iload_n 3, 1) := by decide +kernel
theorem dX4_holds_54 : decode cX4_holds 54 = .ok (.imul, 1) := by decide +kernel
theorem dX4_holds_55 : decode cX4_holds 55 = .ok (.iconst 4, 1) := by decide +kernel
theorem dX4_holds_56 : decode cX4_holds 56 = .ok (.iadd, 1) := by decide +kernel
theorem dX4_holds_57 : decode cX4_holds 57 = .ok (.iaload, 1) := by decide +kernel
theorem dX4_holds_58 : decode cX4_holds 58 = .ok (.if_icmp .ne 7, 3) := by decide +kernel
theorem dX4_holds_61 : decode cX4_holds 61 = .ok (.iconst 1, 1) := by decide +kernel
theorem dX4_holds_62 : decode cX4_holds 62 = .ok (.goto 27, 3) := by decide +kernel
theorem dX4_holds_65 : decode cX4_holds 65 = .ok (.iconst 0, 1) := by decide +kernel
theorem dX4_holds_66 : decode cX4_holds 66 = .ok (.goto 23, 3) := by decide +kernel
theorem dX4_holds_69 : decode cX4_holds 69 = .ok (.iload 4, 2) := by decide +kernel
theorem dX4_holds_71 : decode cX4_holds 71 = .ok (.aload_n 0, 1) := by decide +kernel
theorem dX4_holds_72 : decode cX4_holds 72 = .ok (.getfield 13, 3) := by decide +kernel
theorem dX4_holds_75 : decode cX4_holds 75 = .ok (.iconst 5, 1) := by decide +kernel
theorem dX4_holds_76 : decode cX4_holds 76 = .ok (.iload_n 3, 1) := by decide +kernel
theorem dX4_holds_77 : decode cX4_holds 77 = .ok (.imul, 1) := by decide +kernel
theorem dX4_holds_78 : decode cX4_holds 78 = .ok (.iconst 4, 1) := by decide +kernel
theorem dX4_holds_79 : decode cX4_holds 79 = .ok (.iadd, 1) := by decide +kernel
theorem dX4_holds_80 : decode cX4_holds 80 = .ok (.iaload, 1) := by decide +kernel
theorem dX4_holds_81 : decode cX4_holds 81 = .ok (.if_icmp .gt 7, 3) := by decide +kernel
theorem dX4_holds_84 : decode cX4_holds 84 = .ok (.iconst 1, 1) := by decide +kernel
theorem dX4_holds_85 : decode cX4_holds 85 = .ok (.goto 4, 3) := by decide +kernel
theorem dX4_holds_88 : decode cX4_holds 88 = .ok (.iconst 0, 1) := by decide +kernel
theorem dX4_holds_89 : decode cX4_holds 89 = .ok (.istore_n 2, 1) := by decide +kernel
theorem dX4_holds_90 : decode cX4_holds 90 = .ok (.iinc 3 1, 3) := by decide +kernel
theorem dX4_holds_93 : decode cX4_holds 93 = .ok (.goto (-89), 3) := by decide +kernel
theorem dX4_holds_96 : decode cX4_holds 96 = .ok (.iload_n 2, 1) := by decide +kernel
theorem dX4_holds_97 : decode cX4_holds 97 = .ok (.ireturn, 1) := by decide +kernel
theorem dX4_addUp_0 : decode cX4_addUp 0 = .ok (.iconst 0, 1) := by decide +kernel
theorem dX4_addUp_1 : decode cX4_addUp 1 = .ok (.istore_n 1, 1) := by decide +kernel
theorem dX4_addUp_2 : decode cX4_addUp 2 = .ok (.iload_n 1, 1) := by decide +kernel
theorem dX4_addUp_3 : decode cX4_addUp 3 = .ok (.aload_n 0, 1) := by decide +kernel
theorem dX4_addUp_4 : decode cX4_addUp 4 = .ok (.getfield 50, 3) := by decide +kernel
theorem dX4_addUp_7 : decode cX4_addUp 7 = .ok (.if_icmp .ge 66, 3) := by decide +kernel
theorem dX4_addUp_10 : decode cX4_addUp 10 = .ok (.aload_n 0, 1) := by decide +kernel
theorem dX4_addUp_11 : decode cX4_addUp 11 = .ok (.getfield 47, 3) := by decide +kernel
theorem dX4_addUp_14 : decode cX4_addUp 14 = .ok (.iload_n 1, 1) := by decide +kernel
theorem dX4_addUp_15 : decode cX4_addUp 15 = .ok (.aload_n 0, 1) := by decide +kernel
theorem dX4_addUp_16 : decode cX4_addUp 16 = .ok (.getfield 13, 3) := by decide +kernel
theorem dX4_addUp_19 : decode cX4_addUp 19 = .ok (.iconst 5, 1) := by decide +kernel
theorem dX4_addUp_20 : decode cX4_addUp 20 = .ok (.iload_n 1, 1) := by decide +kernel
theorem dX4_addUp_21 : decode cX4_addUp 21 = .ok (.imul, 1) := by decide +kernel
theorem dX4_addUp_22 : decode cX4_addUp 22 = .ok (.iaload, 1) := by decide +kernel
theorem dX4_addUp_23 : decode cX4_addUp 23 = .ok (.aload_n 0, 1) := by decide +kernel
theorem dX4_addUp_24 : decode cX4_addUp 24 = .ok (.getfield 44, 3) := by decide +kernel
theorem dX4_addUp_27 : decode cX4_addUp 27 = .ok (.iconst 0, 1) := by decide +kernel
theorem dX4_addUp_28 : decode cX4_addUp 28 = .ok (.iaload, 1) := by decide +kernel
theorem dX4_addUp_29 : decode cX4_addUp 29 = .ok (.imul, 1) := by decide +kernel
theorem dX4_addUp_30 : decode cX4_addUp 30 = .ok (.aload_n 0, 1) := by decide +kernel
theorem dX4_addUp_31 : decode cX4_addUp 31 = .ok (.getfield 13, 3) := by decide +kernel
theorem dX4_addUp_34 : decode cX4_addUp 34 = .ok (.iconst 5, 1) := by decide +kernel
theorem dX4_addUp_35 : decode cX4_addUp 35 = .ok (.iload_n 1, 1) := by decide +kernel
theorem dX4_addUp_36 : decode cX4_addUp 36 = .ok (.imul, 1) := by decide +kernel
theorem dX4_addUp_37 : decode cX4_addUp 37 = .ok (.iconst 1, 1) := by decide +kernel
theorem dX4_addUp_38 : decode cX4_addUp 38 = .ok (.iadd, 1) := by decide +kernel
theorem dX4_addUp_39 : decode cX4_addUp 39 = .ok (.iaload, 1) := by decide +kernel
theorem dX4_addUp_40 : decode cX4_addUp 40 = .ok (.aload_n 0, 1) := by decide +kernel
theorem dX4_addUp_41 : decode cX4_addUp 41 = .ok (.getfield 44, 3) := by decide +kernel
theorem dX4_addUp_44 : decode cX4_addUp 44 = .ok (.iconst 1, 1) := by decide +kernel
theorem dX4_addUp_45 : decode cX4_addUp 45 = .ok (.iaload, 1) := by decide +kernel
theorem dX4_addUp_46 : decode cX4_addUp 46 = .ok (.imul, 1) := by decide +kernel
theorem dX4_addUp_47 : decode cX4_addUp 47 = .ok (.iadd, 1) := by decide +kernel
theorem dX4_addUp_48 : decode cX4_addUp 48 = .ok (.aload_n 0, 1) := by decide +kernel
theorem dX4_addUp_49 : decode cX4_addUp 49 = .ok (.getfield 13, 3) := by decide +kernel
theorem dX4_addUp_52 : decode cX4_addUp 52 = .ok (.iconst 5, 1) := by decide +kernel
theorem dX4_addUp_53 : decode cX4_addUp 53 = .ok (.iload_n 1, 1) := by decide +kernel
theorem dX4_addUp_54 : decode cX4_addUp 54 = .ok (.imul, 1) := by decide +kernel
theorem dX4_addUp_55 : decode cX4_addUp 55 = .ok (.iconst 2, 1) := by decide +kernel
theorem dX4_addUp_56 : decode cX4_addUp 56 = .ok (.iadd, 1) := by decide +kernel
theorem dX4_addUp_57 : decode cX4_addUp 57 = .ok (.iaload, 1) := by decide +kernel
theorem dX4_addUp_58 : decode cX4_addUp 58 = .ok (.aload_n 0, 1) := by decide +kernel
theorem dX4_addUp_59 : decode cX4_addUp 59 = .ok (.getfield 44, 3) := by decide +kernel
theorem dX4_addUp_62 : decode cX4_addUp 62 = .ok (.iconst 2, 1) := by decide +kernel
theorem dX4_addUp_63 : decode cX4_addUp 63 = .ok (.iaload, 1) := by decide +kernel
theorem dX4_addUp_64 : decode cX4_addUp 64 = .ok (.imul, 1) := by decide +kernel
theorem dX4_addUp_65 : decode cX4_addUp 65 = .ok (.iadd, 1) := by decide +kernel
theorem dX4_addUp_66 : decode cX4_addUp 66 = .ok (.iastore, 1) := by decide +kernel
theorem dX4_addUp_67 : decode cX4_addUp 67 = .ok (.iinc 1 1, 3) := by decide +kernel
theorem dX4_addUp_70 : decode cX4_addUp 70 = .ok (.goto (-68), 3) := by decide +kernel
theorem dX4_addUp_73 : decode cX4_addUp 73 = .ok (.return_, 1) := by decide +kernel
set_option maxRecDepth 20000 in
theorem ggX4_tryAll_X4_addUp : GoodIn wsX4_tryAll wsX4_addUp := goodIn_r _ [8, 9, 10, 11, 3, 24, 25, 26, 27, 28, 29, 30, 31, 32, 33, 34, 35, 36, 37, 38, 39, 40, 41, 42, 43, 44] (by decide +kernel) (by decide +kernel)
set_option maxRecDepth 20000 in
theorem gX4_tryAll_X4_addUp : GoodIn wsX4_tryAll (wsV RX4 88 RX4 yX4_addUp wsX4_addUp) := goodIn_app (goodIn_of _ (by decide +kernel)) ggX4_tryAll_X4_addUp
set_option maxRecDepth 20000 in
theorem ggX4_tryAll_X4_holds : GoodIn wsX4_tryAll wsX4_holds := goodIn_r _ [15, 9, 10, 11, 16, 24, 25, 26, 27, 28, 29, 30, 31, 32, 33, 34, 35, 36, 37, 38, 39, 40, 41, 42, 43, 44] (by decide +kernel) (by decide +kernel)
set_option maxRecDepth 20000 in
theorem gX4_tryAll_X4_holds : GoodIn wsX4_tryAll (wsV RX4 91 RX4 yX4_holds wsX4_holds) := goodIn_app (goodIn_of _ (by decide +kernel)) ggX4_tryAll_X4_holds
set_option maxRecDepth 20000 in
theorem ggX4_tryAll_X4_take : GoodIn wsX4_tryAll wsX4_take := goodIn_r _ [20, 21, 2, 3, 22, 23, 24, 25, 26, 27, 28, 29, 30, 31, 32, 33, 34, 35, 36, 37, 38, 39, 40, 41, 42, 43, 44] (by decide +kernel) (by decide +kernel)
set_option maxRecDepth 20000 in
theorem gX4_tryAll_X4_take : GoodIn wsX4_tryAll (wsV RX4 95 RX4 yX4_take wsX4_take) := goodIn_app (goodIn_of _ (by decide +kernel)) ggX4_tryAll_X4_take
theorem dX4_tryAll_0 : decode cX4_tryAll 0 = .ok (.aload_n 0, 1) := by decide +kernel
theorem dX4_tryAll_1 : decode cX4_tryAll 1 = .ok (.getfield 54, 3) := by decide +kernel
theorem dX4_tryAll_4 : decode cX4_tryAll 4 = .ok (.ifCond .eq 4, 3) := by decide +kernel
theorem dX4_tryAll_7 : decode cX4_tryAll 7 = .ok (.return_, 1) := by decide +kernel
theorem dX4_tryAll_8 : decode cX4_tryAll 8 = .ok (.aload_n 0, 1) := by decide +kernel
theorem dX4_tryAll_9 : decode cX4_tryAll 9 = .ok (.iconst 1, 1) := by decide +kernel
theorem dX4_tryAll_10 : decode cX4_tryAll 10 = .ok (.putfield 54, 3) := by decide +kernel
theorem dX4_tryAll_13 : decode cX4_tryAll 13 = .ok (.aload_n 0, 1) := by decide +kernel
theorem dX4_tryAll_14 : decode cX4_tryAll 14 = .ok (.iconst 0, 1) := by decide +kernel
theorem dX4_tryAll_15 : decode cX4_tryAll 15 = .ok (.putfield 85, 3) := by decide +kernel
theorem dX4_tryAll_18 : decode cX4_tryAll 18 = .ok (.bipush (-15), 2) := by decide +kernel
theorem dX4_tryAll_20 : decode cX4_tryAll 20 = .ok (.istore_n 1, 1) := by decide +kernel
theorem dX4_tryAll_21 : decode cX4_tryAll 21 = .ok (.iload_n 1, 1) := by decide +kernel
theorem dX4_tryAll_22 : decode cX4_tryAll 22 = .ok (.bipush 15, 2) := by decide +kernel
theorem dX4_tryAll_24 : decode cX4_tryAll 24 = .ok (.if_icmp .gt 102, 3) := by decide +kernel
theorem dX4_tryAll_27 : decode cX4_tryAll 27 = .ok (.bipush (-15), 2) := by decide +kernel
theorem dX4_tryAll_29 : decode cX4_tryAll 29 = .ok (.istore_n 2, 1) := by decide +kernel
theorem dX4_tryAll_30 : decode cX4_tryAll 30 = .ok (.iload_n 2, 1) := by decide +kernel
theorem dX4_tryAll_31 : decode cX4_tryAll 31 = .ok (.bipush 15, 2) := by decide +kernel
theorem dX4_tryAll_33 : decode cX4_tryAll 33 = .ok (.if_icmp .gt 87, 3) := by decide +kernel
theorem dX4_tryAll_36 : decode cX4_tryAll 36 = .ok (.bipush (-15), 2) := by decide +kernel
theorem dX4_tryAll_38 : decode cX4_tryAll 38 = .ok (.istore_n 3, 1) := by decide +kernel
theorem dX4_tryAll_39 : decode cX4_tryAll 39 = .ok (.iload_n 3, 1) := by decide +kernel
theorem dX4_tryAll_40 : decode cX4_tryAll 40 = .ok (.bipush 15, 2) := by decide +kernel
theorem dX4_tryAll_42 : decode cX4_tryAll 42 = .ok (.if_icmp .gt 72, 3) := by decide +kernel
theorem dX4_tryAll_45 : decode cX4_tryAll 45 = .ok (.aload_n 0, 1) := by decide +kernel
theorem dX4_tryAll_46 : decode cX4_tryAll 46 = .ok (.getfield 44, 3) := by decide +kernel
theorem dX4_tryAll_49 : decode cX4_tryAll 49 = .ok (.iconst 0, 1) := by decide +kernel
theorem dX4_tryAll_50 : decode cX4_tryAll 50 = .ok (.iload_n 1, 1) := by decide +kernel
theorem dX4_tryAll_51 : decode cX4_tryAll 51 = .ok (.iastore, 1) := by decide +kernel
theorem dX4_tryAll_52 : decode cX4_tryAll 52 = .ok (.aload_n 0, 1) := by decide +kernel
theorem dX4_tryAll_53 : decode cX4_tryAll 53 = .ok (.getfield 44, 3) := by decide +kernel
theorem dX4_tryAll_56 : decode cX4_tryAll 56 = .ok (.iconst 1, 1) := by decide +kernel
theorem dX4_tryAll_57 : decode cX4_tryAll 57 = .ok (.iload_n 2, 1) := by decide +kernel
theorem dX4_tryAll_58 : decode cX4_tryAll 58 = .ok (.iastore, 1) := by decide +kernel
theorem dX4_tryAll_59 : decode cX4_tryAll 59 = .ok (.aload_n 0, 1) := by decide +kernel
theorem dX4_tryAll_60 : decode cX4_tryAll 60 = .ok (.getfield 44, 3) := by decide +kernel
theorem dX4_tryAll_63 : decode cX4_tryAll 63 = .ok (.iconst 2, 1) := by decide +kernel
theorem dX4_tryAll_64 : decode cX4_tryAll 64 = .ok (.iload_n 3, 1) := by decide +kernel
theorem dX4_tryAll_65 : decode cX4_tryAll 65 = .ok (.iastore, 1) := by decide +kernel
theorem dX4_tryAll_66 : decode cX4_tryAll 66 = .ok (.aload_n 0, 1) := by decide +kernel
theorem dX4_tryAll_67 : decode cX4_tryAll 67 = .ok (.invokevirtual 88, 3) := by decide +kernel
theorem dX4_tryAll_70 : decode cX4_tryAll 70 = .ok (.bipush (-15), 2) := by decide +kernel
theorem dX4_tryAll_72 : decode cX4_tryAll 72 = .ok (.istore 4, 2) := by decide +kernel
theorem dX4_tryAll_74 : decode cX4_tryAll 74 = .ok (.iload 4, 2) := by decide +kernel
theorem dX4_tryAll_76 : decode cX4_tryAll 76 = .ok (.bipush 15, 2) := by decide +kernel
theorem dX4_tryAll_78 : decode cX4_tryAll 78 = .ok (.if_icmp .gt 30, 3) := by decide +kernel
theorem dX4_tryAll_81 : decode cX4_tryAll 81 = .ok (.aload_n 0, 1) := by decide +kernel
theorem dX4_tryAll_82 : decode cX4_tryAll 82 = .ok (.iload 4, 2) := by decide +kernel
theorem dX4_tryAll_84 : decode cX4_tryAll 84 = .ok (.invokevirtual 91, 3) := by decide +kernel
theorem dX4_tryAll_87 : decode cX4_tryAll 87 = .ok (.ifCond .eq 15, 3) := by decide +kernel
theorem dX4_tryAll_90 : decode cX4_tryAll 90 = .ok (.aload_n 0, 1) := by decide +kernel
theorem dX4_tryAll_91 : decode cX4_tryAll 91 = .ok (.getfield 44, 3) := by decide +kernel
theorem dX4_tryAll_94 : decode cX4_tryAll 94 = .ok (.iconst 3, 1) := by decide +kernel
theorem dX4_tryAll_95 : decode cX4_tryAll 95 = .ok (.iload 4, 2) := by decide +kernel
theorem dX4_tryAll_97 : decode cX4_tryAll 97 = .ok (.iastore, 1) := by decide +kernel
theorem dX4_tryAll_98 : decode cX4_tryAll 98 = .ok (.aload_n 0, 1) := by decide +kernel
theorem dX4_tryAll_99 : decode cX4_tryAll 99 = .ok (.invokevirtual 95, 3) := by decide +kernel
theorem dX4_tryAll_102 : decode cX4_tryAll 102 = .ok (.iinc 4 1, 3) := by decide +kernel
theorem dX4_tryAll_105 : decode cX4_tryAll 105 = .ok (.goto (-31), 3) := by decide +kernel
theorem dX4_tryAll_108 : decode cX4_tryAll 108 = .ok (.iinc 3 1, 3) := by decide +kernel
theorem dX4_tryAll_111 : decode cX4_tryAll 111 = .ok (.goto (-72), 3) := by decide +kernel
theorem dX4_tryAll_114 : decode cX4_tryAll 114 = .ok (.iinc 2 1, 3) := by decide +kernel
theorem dX4_tryAll_117 : decode cX4_tryAll 117 = .ok (.goto (-87), 3) := by decide +kernel
theorem dX4_tryAll_120 : decode cX4_tryAll 120 = .ok (.iinc 1 1, 3) := by decide +kernel
theorem dX4_tryAll_123 : decode cX4_tryAll 123 = .ok (.goto (-102), 3) := by decide +kernel
theorem dX4_tryAll_126 : decode cX4_tryAll 126 = .ok (.return_, 1) := by decide +kernel
theorem dX4_take_0 : decode cX4_take 0 = .ok (.iconst 0, 1) := by decide +kernel
theorem dX4_take_1 : decode cX4_take 1 = .ok (.istore_n 1, 1) := by decide +kernel
theorem dX4_take_2 : decode cX4_take 2 = .ok (.iload_n 1, 1) := by decide +kernel
theorem dX4_take_3 : decode cX4_take 3 = .ok (.iconst 4, 1) := by decide +kernel
theorem dX4_take_4 : decode cX4_take 4 = .ok (.if_icmp .ge 123, 3) := by decide +kernel
theorem dX4_take_7 : decode cX4_take 7 = .ok (.aload_n 0, 1) := by decide +kernel
theorem dX4_take_8 : decode cX4_take 8 = .ok (.getfield 35, 3) := by decide +kernel
theorem dX4_take_11 : decode cX4_take 11 = .ok (.iload_n 1, 1) := by decide +kernel
theorem dX4_take_12 : decode cX4_take 12 = .ok (.aload_n 0, 1) := by decide +kernel
theorem dX4_take_13 : decode cX4_take 13 = .ok (.getfield 85, 3) := by decide +kernel
theorem dX4_take_16 : decode cX4_take 16 = .ok (.ifCond .ne 12, 3) := by decide +kernel
theorem dX4_take_19 : decode cX4_take 19 = .ok (.aload_n 0, 1) := by decide +kernel
theorem dX4_take_20 : decode cX4_take 20 = .ok (.getfield 44, 3) := by decide +kernel
theorem dX4_take_23 : decode cX4_take 23 = .ok (.iload_n 1, 1) := by decide +kernel
theorem dX4_take_24 : decode cX4_take 24 = .ok (.iaload, 1) := by decide +kernel
theorem dX4_take_25 : decode cX4_take 25 = .ok (.goto 9, 3) := by decide +kernel
theorem dX4_take_28 : decode cX4_take 28 = .ok (.aload_n 0, 1) := by decide +kernel
theorem dX4_take_29 : decode cX4_take 29 = .ok (.getfield 35, 3) := by decide +kernel
theorem dX4_take_32 : decode cX4_take 32 = .ok (.iload_n 1, 1) := by decide +kernel
theorem dX4_take_33 : decode cX4_take 33 = .ok (.iaload, 1) := by decide +kernel
theorem dX4_take_34 : decode cX4_take 34 = .ok (.iastore, 1) := by decide +kernel
theorem dX4_take_35 : decode cX4_take 35 = .ok (.aload_n 0, 1) := by decide +kernel
theorem dX4_take_36 : decode cX4_take 36 = .ok (.getfield 38, 3) := by decide +kernel
theorem dX4_take_39 : decode cX4_take 39 = .ok (.iload_n 1, 1) := by decide +kernel
theorem dX4_take_40 : decode cX4_take 40 = .ok (.aload_n 0, 1) := by decide +kernel
theorem dX4_take_41 : decode cX4_take 41 = .ok (.getfield 85, 3) := by decide +kernel
theorem dX4_take_44 : decode cX4_take 44 = .ok (.ifCond .eq 18, 3) := by decide +kernel
theorem dX4_take_47 : decode cX4_take 47 = .ok (.aload_n 0, 1) := by decide +kernel
theorem dX4_take_48 : decode cX4_take 48 = .ok (.getfield 44, 3) := by decide +kernel
theorem dX4_take_51 : decode cX4_take 51 = .ok (.iload_n 1, 1) := by decide +kernel
theorem dX4_take_52 : decode cX4_take 52 = .ok (.iaload, 1) := by decide +kernel
theorem dX4_take_53 : decode cX4_take 53 = .ok (.aload_n 0, 1) := by decide +kernel
theorem dX4_take_54 : decode cX4_take 54 = .ok (.getfield 38, 3) := by decide +kernel
theorem dX4_take_57 : decode cX4_take 57 = .ok (.iload_n 1, 1) := by decide +kernel
theorem dX4_take_58 : decode cX4_take 58 = .ok (.iaload, 1) := by decide +kernel
theorem dX4_take_59 : decode cX4_take 59 = .ok (.if_icmp .ge 12, 3) := by decide +kernel
theorem dX4_take_62 : decode cX4_take 62 = .ok (.aload_n 0, 1) := by decide +kernel
theorem dX4_take_63 : decode cX4_take 63 = .ok (.getfield 44, 3) := by decide +kernel
theorem dX4_take_66 : decode cX4_take 66 = .ok (.iload_n 1, 1) := by decide +kernel
theorem dX4_take_67 : decode cX4_take 67 = .ok (.iaload, 1) := by decide +kernel
theorem dX4_take_68 : decode cX4_take 68 = .ok (.goto 9, 3) := by decide +kernel
theorem dX4_take_71 : decode cX4_take 71 = .ok (.aload_n 0, 1) := by decide +kernel
theorem dX4_take_72 : decode cX4_take 72 = .ok (.getfield 38, 3) := by decide +kernel
theorem dX4_take_75 : decode cX4_take 75 = .ok (.iload_n 1, 1) := by decide +kernel
theorem dX4_take_76 : decode cX4_take 76 = .ok (.iaload, 1) := by decide +kernel
theorem dX4_take_77 : decode cX4_take 77 = .ok (.iastore, 1) := by decide +kernel
theorem dX4_take_78 : decode cX4_take 78 = .ok (.aload_n 0, 1) := by decide +kernel
theorem dX4_take_79 : decode cX4_take 79 = .ok (.getfield 41, 3) := by decide +kernel
theorem dX4_take_82 : decode cX4_take 82 = .ok (.iload_n 1, 1) := by decide +kernel
theorem dX4_take_83 : decode cX4_take 83 = .ok (.aload_n 0, 1) := by decide +kernel
theorem dX4_take_84 : decode cX4_take 84 = .ok (.getfield 85, 3) := by decide +kernel
theorem dX4_take_87 : decode cX4_take 87 = .ok (.ifCond .eq 18, 3) := by decide +kernel
theorem dX4_take_90 : decode cX4_take 90 = .ok (.aload_n 0, 1) := by decide +kernel
theorem dX4_take_91 : decode cX4_take 91 = .ok (.getfield 44, 3) := by decide +kernel
theorem dX4_take_94 : decode cX4_take 94 = .ok (.iload_n 1, 1) := by decide +kernel
theorem dX4_take_95 : decode cX4_take 95 = .ok (.iaload, 1) := by decide +kernel
theorem dX4_take_96 : decode cX4_take 96 = .ok (.aload_n 0, 1) := by decide +kernel
theorem dX4_take_97 : decode cX4_take 97 = .ok (.getfield 41, 3) := by decide +kernel
theorem dX4_take_100 : decode cX4_take 100 = .ok (.iload_n 1, 1) := by decide +kernel
theorem dX4_take_101 : decode cX4_take 101 = .ok (.iaload, 1) := by decide +kernel
theorem dX4_take_102 : decode cX4_take 102 = .ok (.if_icmp .le 12, 3) := by decide +kernel
theorem dX4_take_105 : decode cX4_take 105 = .ok (.aload_n 0, 1) := by decide +kernel
theorem dX4_take_106 : decode cX4_take 106 = .ok (.getfield 44, 3) := by decide +kernel
theorem dX4_take_109 : decode cX4_take 109 = .ok (.iload_n 1, 1) := by decide +kernel
theorem dX4_take_110 : decode cX4_take 110 = .ok (.iaload, 1) := by decide +kernel
theorem dX4_take_111 : decode cX4_take 111 = .ok (.goto 9, 3) := by decide +kernel
theorem dX4_take_114 : decode cX4_take 114 = .ok (.aload_n 0, 1) := by decide +kernel
theorem dX4_take_115 : decode cX4_take 115 = .ok (.getfield 41, 3) := by decide +kernel
theorem dX4_take_118 : decode cX4_take 118 = .ok (.iload_n 1, 1) := by decide +kernel
theorem dX4_take_119 : decode cX4_take 119 = .ok (.iaload, 1) := by decide +kernel
theorem dX4_take_120 : decode cX4_take 120 = .ok (.iastore, 1) := by decide +kernel
theorem dX4_take_121 : decode cX4_take 121 = .ok (.iinc 1 1, 3) := by decide +kernel
theorem dX4_take_124 : decode cX4_take 124 = .ok (.goto (-122), 3) := by decide +kernel
theorem dX4_take_127 : decode cX4_take 127 = .ok (.aload_n 0, 1) := by decide +kernel
theorem dX4_take_128 : decode cX4_take 128 = .ok (.dup, 1) := by decide +kernel
theorem dX4_take_129 : decode cX4_take 129 = .ok (.getfield 85, 3) := by decide +kernel
theorem dX4_take_132 : decode cX4_take 132 = .ok (.iconst 1, 1) := by decide +kernel
theorem dX4_take_133 : decode cX4_take 133 = .ok (.iadd, 1) := by decide +kernel
theorem dX4_take_134 : decode cX4_take 134 = .ok (.putfield 85, 3) := by decide +kernel
theorem dX4_take_137 : decode cX4_take 137 = .ok (.return_, 1) := by decide +kernel
set_option maxRecDepth 20000 in
theorem ggX4_decide_X4_tryAll : GoodIn wsX4_decide wsX4_tryAll := goodIn_r _ [6, 7, 1, 8, 9, 10, 11, 5, 12, 13, 14, 15, 16, 17, 18, 19, 20, 21, 22, 23, 24, 25, 26, 27, 28, 29, 30, 31, 32, 33, 34, 35, 36, 37, 38, 39, 40, 41, 42, 43, 44, 45, 46, 47, 48] (by decide +kernel) (by decide +kernel)
set_option maxRecDepth 20000 in
theorem gX4_decide_X4_tryAll : GoodIn wsX4_decide (wsV RX4 98 RX4 yX4_tryAll wsX4_tryAll) := goodIn_app (goodIn_of _ (by decide +kernel)) ggX4_decide_X4_tryAll
theorem dX4_decide_0 : decode cX4_decide 0 = .ok (.aload_n 0, 1) := by decide +kernel
theorem dX4_decide_1 : decode cX4_decide 1 = .ok (.invokevirtual 98, 3) := by decide +kernel
theorem dX4_decide_4 : decode cX4_decide 4 = .ok (.aload_n 0, 1) := by decide +kernel
theorem dX4_decide_5 : decode cX4_decide 5 = .ok (.getfield 85, 3) := by decide +kernel
theorem dX4_decide_8 : decode cX4_decide 8 = .ok (.ifCond .le 7, 3) := by decide +kernel
theorem dX4_decide_11 : decode cX4_decide 11 = .ok (.iconst 1, 1) := by decide +kernel
theorem dX4_decide_12 : decode cX4_decide 12 = .ok (.goto 4, 3) := by decide +kernel
theorem dX4_decide_15 : decode cX4_decide 15 = .ok (.iconst 0, 1) := by decide +kernel
theorem dX4_decide_16 : decode cX4_decide 16 = .ok (.ireturn, 1) := by decide +kernel
set_option maxRecDepth 20000 in
theorem ggX4_first_X4_tryAll : GoodIn wsX4_first wsX4_tryAll := goodIn_r _ [7, 8, 1, 9, 10, 11, 12, 6, 13, 14, 15, 16, 17, 18, 19, 20, 21, 22, 23, 24, 25, 2, 26, 27, 28, 29, 30, 31, 32, 33, 34, 35, 36, 37, 38, 39, 40, 41, 42, 43, 44, 45, 46, 47, 48] (by decide +kernel) (by decide +kernel)
set_option maxRecDepth 20000 in
theorem gX4_first_X4_tryAll : GoodIn wsX4_first (wsV RX4 98 RX4 yX4_tryAll wsX4_tryAll) := goodIn_app (goodIn_of _ (by decide +kernel)) ggX4_first_X4_tryAll
theorem dX4_first_0 : decode cX4_first 0 = .ok (.aload_n 0, 1) := by decide +kernel
theorem dX4_first_1 : decode cX4_first 1 = .ok (.invokevirtual 98, 3) := by decide +kernel
theorem dX4_first_4 : decode cX4_first 4 = .ok (.aload_n 0, 1) := by decide +kernel
theorem dX4_first_5 : decode cX4_first 5 = .ok (.getfield 85, 3) := by decide +kernel
theorem dX4_first_8 : decode cX4_first 8 = .ok (.ifCond .eq 12, 3) := by decide +kernel
theorem dX4_first_11 : decode cX4_first 11 = .ok (.iload_n 1, 1) := by decide +kernel
theorem dX4_first_12 : decode cX4_first 12 = .ok (.ifCond .lt 8, 3) := by decide +kernel
theorem dX4_first_15 : decode cX4_first 15 = .ok (.iload_n 1, 1) := by decide +kernel
theorem dX4_first_16 : decode cX4_first 16 = .ok (.iconst 3, 1) := by decide +kernel
theorem dX4_first_17 : decode cX4_first 17 = .ok (.if_icmp .le 8, 3) := by decide +kernel
theorem dX4_first_20 : decode cX4_first 20 = .ok (.bipush (-100), 2) := by decide +kernel
theorem dX4_first_22 : decode cX4_first 22 = .ok (.goto 9, 3) := by decide +kernel
theorem dX4_first_25 : decode cX4_first 25 = .ok (.aload_n 0, 1) := by decide +kernel
theorem dX4_first_26 : decode cX4_first 26 = .ok (.getfield 35, 3) := by decide +kernel
theorem dX4_first_29 : decode cX4_first 29 = .ok (.iload_n 1, 1) := by decide +kernel
theorem dX4_first_30 : decode cX4_first 30 = .ok (.iaload, 1) := by decide +kernel
theorem dX4_first_31 : decode cX4_first 31 = .ok (.ireturn, 1) := by decide +kernel
set_option maxRecDepth 20000 in
theorem ggX4_solutions_X4_tryAll : GoodIn wsX4_solutions wsX4_tryAll := goodIn_r _ [6, 7, 1, 8, 9, 10, 11, 5, 12, 13, 14, 15, 16, 17, 18, 19, 20, 21, 22, 23, 24, 25, 26, 27, 28, 29, 30, 31, 32, 33, 34, 35, 36, 37, 38, 39, 40, 41, 42, 43, 44, 45, 46, 47, 48] (by decide +kernel) (by decide +kernel)
set_option maxRecDepth 20000 in
theorem gX4_solutions_X4_tryAll : GoodIn wsX4_solutions (wsV RX4 98 RX4 yX4_tryAll wsX4_tryAll) := goodIn_app (goodIn_of _ (by decide +kernel)) ggX4_solutions_X4_tryAll
theorem dX4_solutions_0 : decode cX4_solutions 0 = .ok (.aload_n 0, 1) := by decide +kernel
theorem dX4_solutions_1 : decode cX4_solutions 1 = .ok (.invokevirtual 98, 3) := by decide +kernel
theorem dX4_solutions_4 : decode cX4_solutions 4 = .ok (.aload_n 0, 1) := by decide +kernel
theorem dX4_solutions_5 : decode cX4_solutions 5 = .ok (.getfield 85, 3) := by decide +kernel
theorem dX4_solutions_8 : decode cX4_solutions 8 = .ok (.ireturn, 1) := by decide +kernel
set_option maxRecDepth 20000 in
theorem ggX4_range_X4_tryAll : GoodIn wsX4_range wsX4_tryAll := goodIn_r _ [8, 9, 1, 10, 11, 12, 13, 7, 14, 15, 16, 17, 18, 19, 20, 21, 22, 23, 24, 25, 26, 27, 3, 2, 28, 29, 30, 31, 32, 33, 34, 35, 36, 37, 38, 39, 40, 41, 42, 43, 44, 45, 46, 47, 48] (by decide +kernel) (by decide +kernel)
set_option maxRecDepth 20000 in
theorem gX4_range_X4_tryAll : GoodIn wsX4_range (wsV RX4 98 RX4 yX4_tryAll wsX4_tryAll) := goodIn_app (goodIn_of _ (by decide +kernel)) ggX4_range_X4_tryAll
theorem dX4_range_0 : decode cX4_range 0 = .ok (.aload_n 0, 1) := by decide +kernel
theorem dX4_range_1 : decode cX4_range 1 = .ok (.invokevirtual 98, 3) := by decide +kernel
theorem dX4_range_4 : decode cX4_range 4 = .ok (.aload_n 0, 1) := by decide +kernel
theorem dX4_range_5 : decode cX4_range 5 = .ok (.getfield 85, 3) := by decide +kernel
theorem dX4_range_8 : decode cX4_range 8 = .ok (.ifCond .eq 12, 3) := by decide +kernel
theorem dX4_range_11 : decode cX4_range 11 = .ok (.iload_n 1, 1) := by decide +kernel
theorem dX4_range_12 : decode cX4_range 12 = .ok (.ifCond .lt 8, 3) := by decide +kernel
theorem dX4_range_15 : decode cX4_range 15 = .ok (.iload_n 1, 1) := by decide +kernel
theorem dX4_range_16 : decode cX4_range 16 = .ok (.iconst 3, 1) := by decide +kernel
theorem dX4_range_17 : decode cX4_range 17 = .ok (.if_icmp .le 8, 3) := by decide +kernel
theorem dX4_range_20 : decode cX4_range 20 = .ok (.bipush (-100), 2) := by decide +kernel
theorem dX4_range_22 : decode cX4_range 22 = .ok (.goto 22, 3) := by decide +kernel
theorem dX4_range_25 : decode cX4_range 25 = .ok (.iload_n 2, 1) := by decide +kernel
theorem dX4_range_26 : decode cX4_range 26 = .ok (.ifCond .eq 12, 3) := by decide +kernel
theorem dX4_range_29 : decode cX4_range 29 = .ok (.aload_n 0, 1) := by decide +kernel
theorem dX4_range_30 : decode cX4_range 30 = .ok (.getfield 41, 3) := by decide +kernel
theorem dX4_range_33 : decode cX4_range 33 = .ok (.iload_n 1, 1) := by decide +kernel
theorem dX4_range_34 : decode cX4_range 34 = .ok (.iaload, 1) := by decide +kernel
theorem dX4_range_35 : decode cX4_range 35 = .ok (.goto 9, 3) := by decide +kernel
theorem dX4_range_38 : decode cX4_range 38 = .ok (.aload_n 0, 1) := by decide +kernel
theorem dX4_range_39 : decode cX4_range 39 = .ok (.getfield 38, 3) := by decide +kernel
theorem dX4_range_42 : decode cX4_range 42 = .ok (.iload_n 1, 1) := by decide +kernel
theorem dX4_range_43 : decode cX4_range 43 = .ok (.iaload, 1) := by decide +kernel
theorem dX4_range_44 : decode cX4_range 44 = .ok (.ireturn, 1) := by decide +kernel
theorem dX4_isLine_0 : decode cX4_isLine 0 = .ok (.iload_n 1, 1) := by decide +kernel
theorem dX4_isLine_1 : decode cX4_isLine 1 = .ok (.ifCond .lt 15, 3) := by decide +kernel
theorem dX4_isLine_4 : decode cX4_isLine 4 = .ok (.iload_n 1, 1) := by decide +kernel
theorem dX4_isLine_5 : decode cX4_isLine 5 = .ok (.aload_n 0, 1) := by decide +kernel
theorem dX4_isLine_6 : decode cX4_isLine 6 = .ok (.getfield 58, 3) := by decide +kernel
theorem dX4_isLine_9 : decode cX4_isLine 9 = .ok (.if_icmp .ge 7, 3) := by decide +kernel
theorem dX4_isLine_12 : decode cX4_isLine 12 = .ok (.iconst 1, 1) := by decide +kernel
theorem dX4_isLine_13 : decode cX4_isLine 13 = .ok (.goto 4, 3) := by decide +kernel
theorem dX4_isLine_16 : decode cX4_isLine 16 = .ok (.iconst 0, 1) := by decide +kernel
theorem dX4_isLine_17 : decode cX4_isLine 17 = .ok (.ireturn, 1) := by decide +kernel
theorem dX4_isFull_0 : decode cX4_isFull 0 = .ok (.aload_n 0, 1) := by decide +kernel
theorem dX4_isFull_1 : decode cX4_isFull 1 = .ok (.getfield 64, 3) := by decide +kernel
theorem dX4_isFull_4 : decode cX4_isFull 4 = .ok (.ifCond .ne 13, 3) := by decide +kernel
theorem dX4_isFull_7 : decode cX4_isFull 7 = .ok (.aload_n 0, 1) := by decide +kernel
theorem dX4_isFull_8 : decode cX4_isFull 8 = .ok (.getfield 58, 3) := by decide +kernel
theorem dX4_isFull_11 : decode cX4_isFull 11 = .ok (.sipush 200, 3) := by decide +kernel
theorem dX4_isFull_14 : decode cX4_isFull 14 = .ok (.if_icmp .ne 7, 3) := by decide +kernel
theorem dX4_isFull_17 : decode cX4_isFull 17 = .ok (.iconst 1, 1) := by decide +kernel
theorem dX4_isFull_18 : decode cX4_isFull 18 = .ok (.goto 4, 3) := by decide +kernel
theorem dX4_isFull_21 : decode cX4_isFull 21 = .ok (.iconst 0, 1) := by decide +kernel
theorem dX4_isFull_22 : decode cX4_isFull 22 = .ok (.ireturn, 1) := by decide +kernel
theorem dX4_put_0 : decode cX4_put 0 = .ok (.iconst 5, 1) := by decide +kernel
theorem dX4_put_1 : decode cX4_put 1 = .ok (.aload_n 0, 1) := by decide +kernel
theorem dX4_put_2 : decode cX4_put 2 = .ok (.getfield 58, 3) := by decide +kernel
theorem dX4_put_5 : decode cX4_put 5 = .ok (.imul, 1) := by decide +kernel
theorem dX4_put_6 : decode cX4_put 6 = .ok (.istore 11, 2) := by decide +kernel
theorem dX4_put_8 : decode cX4_put 8 = .ok (.aload_n 0, 1) := by decide +kernel
theorem dX4_put_9 : decode cX4_put 9 = .ok (.getfield 19, 3) := by decide +kernel
theorem dX4_put_12 : decode cX4_put 12 = .ok (.iload 11, 2) := by decide +kernel
theorem dX4_put_14 : decode cX4_put 14 = .ok (.lload_n 1, 1) := by decide +kernel
theorem dX4_put_15 : decode cX4_put 15 = .ok (.lastore, 1) := by decide +kernel
theorem dX4_put_16 : decode cX4_put 16 = .ok (.aload_n 0, 1) := by decide +kernel
theorem dX4_put_17 : decode cX4_put 17 = .ok (.getfield 19, 3) := by decide +kernel
theorem dX4_put_20 : decode cX4_put 20 = .ok (.iload 11, 2) := by decide +kernel
theorem dX4_put_22 : decode cX4_put 22 = .ok (.iconst 1, 1) := by decide +kernel
theorem dX4_put_23 : decode cX4_put 23 = .ok (.iadd, 1) := by decide +kernel
theorem dX4_put_24 : decode cX4_put 24 = .ok (.lload_n 3, 1) := by decide +kernel
theorem dX4_put_25 : decode cX4_put 25 = .ok (.lastore, 1) := by decide +kernel
theorem dX4_put_26 : decode cX4_put 26 = .ok (.aload_n 0, 1) := by decide +kernel
theorem dX4_put_27 : decode cX4_put 27 = .ok (.getfield 19, 3) := by decide +kernel
theorem dX4_put_30 : decode cX4_put 30 = .ok (.iload 11, 2) := by decide +kernel
theorem dX4_put_32 : decode cX4_put 32 = .ok (.iconst 2, 1) := by decide +kernel
theorem dX4_put_33 : decode cX4_put 33 = .ok (.iadd, 1) := by decide +kernel
theorem dX4_put_34 : decode cX4_put 34 = .ok (.lload 5, 2) := by decide +kernel
theorem dX4_put_36 : decode cX4_put 36 = .ok (.lastore, 1) := by decide +kernel
theorem dX4_put_37 : decode cX4_put 37 = .ok (.aload_n 0, 1) := by decide +kernel
theorem dX4_put_38 : decode cX4_put 38 = .ok (.getfield 19, 3) := by decide +kernel
theorem dX4_put_41 : decode cX4_put 41 = .ok (.iload 11, 2) := by decide +kernel
theorem dX4_put_43 : decode cX4_put 43 = .ok (.iconst 3, 1) := by decide +kernel
theorem dX4_put_44 : decode cX4_put 44 = .ok (.iadd, 1) := by decide +kernel
theorem dX4_put_45 : decode cX4_put 45 = .ok (.lload 7, 2) := by decide +kernel
theorem dX4_put_47 : decode cX4_put 47 = .ok (.lastore, 1) := by decide +kernel
theorem dX4_put_48 : decode cX4_put 48 = .ok (.aload_n 0, 1) := by decide +kernel
theorem dX4_put_49 : decode cX4_put 49 = .ok (.getfield 19, 3) := by decide +kernel
theorem dX4_put_52 : decode cX4_put 52 = .ok (.iload 11, 2) := by decide +kernel
theorem dX4_put_54 : decode cX4_put 54 = .ok (.iconst 4, 1) := by decide +kernel
theorem dX4_put_55 : decode cX4_put 55 = .ok (.iadd, 1) := by decide +kernel
theorem dX4_put_56 : decode cX4_put 56 = .ok (.lload 9, 2) := by decide +kernel
theorem dX4_put_58 : decode cX4_put 58 = .ok (.lastore, 1) := by decide +kernel
theorem dX4_put_59 : decode cX4_put 59 = .ok (.aload_n 0, 1) := by decide +kernel
theorem dX4_put_60 : decode cX4_put 60 = .ok (.dup, 1) := by decide +kernel
theorem dX4_put_61 : decode cX4_put 61 = .ok (.getfield 58, 3) := by decide +kernel
theorem dX4_put_64 : decode cX4_put 64 = .ok (.iconst 1, 1) := by decide +kernel
theorem dX4_put_65 : decode cX4_put 65 = .ok (.iadd, 1) := by decide +kernel
theorem dX4_put_66 : decode cX4_put 66 = .ok (.putfield 58, 3) := by decide +kernel
theorem dX4_put_69 : decode cX4_put 69 = .ok (.aload_n 0, 1) := by decide +kernel
theorem dX4_put_70 : decode cX4_put 70 = .ok (.getfield 58, 3) := by decide +kernel
theorem dX4_put_73 : decode cX4_put 73 = .ok (.iconst 1, 1) := by decide +kernel
theorem dX4_put_74 : decode cX4_put 74 = .ok (.isub, 1) := by decide +kernel
theorem dX4_put_75 : decode cX4_put 75 = .ok (.ireturn, 1) := by decide +kernel
set_option maxRecDepth 20000 in
theorem ggX4_putWord_X4_put : GoodIn wsX4_putWord wsX4_put := goodIn_r _ [5, 6, 7, 8, 9, 10, 11, 12, 13, 14, 15, 16, 17, 18, 19, 20, 21, 22, 23, 24, 25, 26, 27, 28] (by decide +kernel) (by decide +kernel)
set_option maxRecDepth 20000 in
theorem gX4_putWord_X4_put : GoodIn wsX4_putWord (wsV RX4 101 RX4 yX4_put wsX4_put) := goodIn_app (goodIn_of _ (by decide +kernel)) ggX4_putWord_X4_put
theorem dX4_putWord_0 : decode cX4_putWord 0 = .ok (.aload_n 0, 1) := by decide +kernel
theorem dX4_putWord_1 : decode cX4_putWord 1 = .ok (.iload_n 1, 1) := by decide +kernel
theorem dX4_putWord_2 : decode cX4_putWord 2 = .ok (.ifCond .ne 7, 3) := by decide +kernel
theorem dX4_putWord_5 : decode cX4_putWord 5 = .ok (.lload_n 2, 1) := by decide +kernel
theorem dX4_putWord_6 : decode cX4_putWord 6 = .ok (.goto 4, 3) := by decide +kernel
theorem dX4_putWord_9 : decode cX4_putWord 9 = .ok (.lconst 0, 1) := by decide +kernel
theorem dX4_putWord_10 : decode cX4_putWord 10 = .ok (.iload_n 1, 1) := by decide +kernel
theorem dX4_putWord_11 : decode cX4_putWord 11 = .ok (.iconst 1, 1) := by decide +kernel
theorem dX4_putWord_12 : decode cX4_putWord 12 = .ok (.if_icmp .ne 7, 3) := by decide +kernel
theorem dX4_putWord_15 : decode cX4_putWord 15 = .ok (.lload_n 2, 1) := by decide +kernel
theorem dX4_putWord_16 : decode cX4_putWord 16 = .ok (.goto 4, 3) := by decide +kernel
theorem dX4_putWord_19 : decode cX4_putWord 19 = .ok (.lconst 0, 1) := by decide +kernel
theorem dX4_putWord_20 : decode cX4_putWord 20 = .ok (.iload_n 1, 1) := by decide +kernel
theorem dX4_putWord_21 : decode cX4_putWord 21 = .ok (.iconst 2, 1) := by decide +kernel
theorem dX4_putWord_22 : decode cX4_putWord 22 = .ok (.if_icmp .ne 7, 3) := by decide +kernel
theorem dX4_putWord_25 : decode cX4_putWord 25 = .ok (.lload_n 2, 1) := by decide +kernel
theorem dX4_putWord_26 : decode cX4_putWord 26 = .ok (.goto 4, 3) := by decide +kernel
theorem dX4_putWord_29 : decode cX4_putWord 29 = .ok (.lconst 0, 1) := by decide +kernel
theorem dX4_putWord_30 : decode cX4_putWord 30 = .ok (.iload_n 1, 1) := by decide +kernel
theorem dX4_putWord_31 : decode cX4_putWord 31 = .ok (.iconst 3, 1) := by decide +kernel
theorem dX4_putWord_32 : decode cX4_putWord 32 = .ok (.if_icmp .ne 7, 3) := by decide +kernel
theorem dX4_putWord_35 : decode cX4_putWord 35 = .ok (.lload_n 2, 1) := by decide +kernel
theorem dX4_putWord_36 : decode cX4_putWord 36 = .ok (.goto 4, 3) := by decide +kernel
theorem dX4_putWord_39 : decode cX4_putWord 39 = .ok (.lconst 0, 1) := by decide +kernel
theorem dX4_putWord_40 : decode cX4_putWord 40 = .ok (.lload 4, 2) := by decide +kernel
theorem dX4_putWord_42 : decode cX4_putWord 42 = .ok (.invokevirtual 101, 3) := by decide +kernel
theorem dX4_putWord_45 : decode cX4_putWord 45 = .ok (.ireturn, 1) := by decide +kernel
set_option maxRecDepth 20000 in
theorem ggX4_assume_X4_isFull : GoodIn wsX4_assume wsX4_isFull := goodIn_r _ [9, 10, 11, 17, 18, 19, 20, 21, 22, 23, 24, 25, 26, 27, 28, 29, 30, 31, 32, 33, 34, 35, 36, 37] (by decide +kernel) (by decide +kernel)
set_option maxRecDepth 20000 in
theorem gX4_assume_X4_isFull : GoodIn wsX4_assume (wsV RX4 105 RX4 yX4_isFull wsX4_isFull) := goodIn_app (goodIn_of _ (by decide +kernel)) ggX4_assume_X4_isFull
set_option maxRecDepth 20000 in
theorem ggX4_assume_X4_put : GoodIn wsX4_assume wsX4_put := goodIn_r _ [15, 11, 16, 17, 18, 19, 20, 21, 22, 23, 24, 25, 26, 27, 28, 29, 30, 31, 32, 33, 34, 35, 36, 37] (by decide +kernel) (by decide +kernel)
set_option maxRecDepth 20000 in
theorem gX4_assume_X4_put : GoodIn wsX4_assume (wsV RX4 101 RX4 yX4_put wsX4_put) := goodIn_app (goodIn_of _ (by decide +kernel)) ggX4_assume_X4_put
theorem dX4_assume_0 : decode cX4_assume 0 = .ok (.iload_n 1, 1) := by decide +kernel
theorem dX4_assume_1 : decode cX4_assume 1 = .ok (.ifCond .lt 32, 3) := by decide +kernel
theorem dX4_assume_4 : decode cX4_assume 4 = .ok (.iload_n 1, 1) := by decide +kernel
theorem dX4_assume_5 : decode cX4_assume 5 = .ok (.aload_n 0, 1) := by decide +kernel
theorem dX4_assume_6 : decode cX4_assume 6 = .ok (.getfield 50, 3) := by decide +kernel
theorem dX4_assume_9 : decode cX4_assume 9 = .ok (.if_icmp .ge 24, 3) := by decide +kernel
theorem dX4_assume_12 : decode cX4_assume 12 = .ok (.iload_n 2, 1) := by decide +kernel
theorem dX4_assume_13 : decode cX4_assume 13 = .ok (.ifCond .eq 13, 3) := by decide +kernel
theorem dX4_assume_16 : decode cX4_assume 16 = .ok (.aload_n 0, 1) := by decide +kernel
theorem dX4_assume_17 : decode cX4_assume 17 = .ok (.getfield 7, 3) := by decide +kernel
theorem dX4_assume_20 : decode cX4_assume 20 = .ok (.iload_n 1, 1) := by decide +kernel
theorem dX4_assume_21 : decode cX4_assume 21 = .ok (.iaload, 1) := by decide +kernel
theorem dX4_assume_22 : decode cX4_assume 22 = .ok (.iconst 1, 1) := by decide +kernel
theorem dX4_assume_23 : decode cX4_assume 23 = .ok (.if_icmp .eq 10, 3) := by decide +kernel
theorem dX4_assume_26 : decode cX4_assume 26 = .ok (.aload_n 0, 1) := by decide +kernel
theorem dX4_assume_27 : decode cX4_assume 27 = .ok (.invokevirtual 105, 3) := by decide +kernel
theorem dX4_assume_30 : decode cX4_assume 30 = .ok (.ifCond .eq 5, 3) := by decide +kernel
theorem dX4_assume_33 : decode cX4_assume 33 = .ok (.iconst (-1), 1) := by decide +kernel
theorem dX4_assume_34 : decode cX4_assume 34 = .ok (.ireturn, 1) := by decide +kernel
theorem dX4_assume_35 : decode cX4_assume 35 = .ok (.iconst 5, 1) := by decide +kernel
theorem dX4_assume_36 : decode cX4_assume 36 = .ok (.iload_n 1, 1) := by decide +kernel
theorem dX4_assume_37 : decode cX4_assume 37 = .ok (.imul, 1) := by decide +kernel
theorem dX4_assume_38 : decode cX4_assume 38 = .ok (.istore_n 3, 1) := by decide +kernel
theorem dX4_assume_39 : decode cX4_assume 39 = .ok (.iload_n 2, 1) := by decide +kernel
theorem dX4_assume_40 : decode cX4_assume 40 = .ok (.ifCond .eq 9, 3) := by decide +kernel
theorem dX4_assume_43 : decode cX4_assume 43 = .ok (.ldc2_w 109, 3) := by decide +kernel
theorem dX4_assume_46 : decode cX4_assume 46 = .ok (.goto 4, 3) := by decide +kernel
theorem dX4_assume_49 : decode cX4_assume 49 = .ok (.lconst 1, 1) := by decide +kernel
theorem dX4_assume_50 : decode cX4_assume 50 = .ok (.lstore 4, 2) := by decide +kernel
theorem dX4_assume_52 : decode cX4_assume 52 = .ok (.aload_n 0, 1) := by decide +kernel
theorem dX4_assume_53 : decode cX4_assume 53 = .ok (.lload 4, 2) := by decide +kernel
theorem dX4_assume_55 : decode cX4_assume 55 = .ok (.aload_n 0, 1) := by decide +kernel
theorem dX4_assume_56 : decode cX4_assume 56 = .ok (.getfield 13, 3) := by decide +kernel
theorem dX4_assume_59 : decode cX4_assume 59 = .ok (.iload_n 3, 1) := by decide +kernel
theorem dX4_assume_60 : decode cX4_assume 60 = .ok (.iaload, 1) := by decide +kernel
theorem dX4_assume_61 : decode cX4_assume 61 = .ok (.i2l, 1) := by decide +kernel
theorem dX4_assume_62 : decode cX4_assume 62 = .ok (.lmul, 1) := by decide +kernel
theorem dX4_assume_63 : decode cX4_assume 63 = .ok (.lload 4, 2) := by decide +kernel
theorem dX4_assume_65 : decode cX4_assume 65 = .ok (.aload_n 0, 1) := by decide +kernel
theorem dX4_assume_66 : decode cX4_assume 66 = .ok (.getfield 13, 3) := by decide +kernel
theorem dX4_assume_69 : decode cX4_assume 69 = .ok (.iload_n 3, 1) := by decide +kernel
theorem dX4_assume_70 : decode cX4_assume 70 = .ok (.iconst 1, 1) := by decide +kernel
theorem dX4_assume_71 : decode cX4_assume 71 = .ok (.iadd, 1) := by decide +kernel
theorem dX4_assume_72 : decode cX4_assume 72 = .ok (.iaload, 1) := by decide +kernel
theorem dX4_assume_73 : decode cX4_assume 73 = .ok (.i2l, 1) := by decide +kernel
theorem dX4_assume_74 : decode cX4_assume 74 = .ok (.lmul, 1) := by decide +kernel
theorem dX4_assume_75 : decode cX4_assume 75 = .ok (.lload 4, 2) := by decide +kernel
theorem dX4_assume_77 : decode cX4_assume 77 = .ok (.aload_n 0, 1) := by decide +kernel
theorem dX4_assume_78 : decode cX4_assume 78 = .ok (.getfield 13, 3) := by decide +kernel
theorem dX4_assume_81 : decode cX4_assume 81 = .ok (.iload_n 3, 1) := by decide +kernel
theorem dX4_assume_82 : decode cX4_assume 82 = .ok (.iconst 2, 1) := by decide +kernel
theorem dX4_assume_83 : decode cX4_assume 83 = .ok (.iadd, 1) := by decide +kernel
theorem dX4_assume_84 : decode cX4_assume 84 = .ok (.iaload, 1) := by decide +kernel
theorem dX4_assume_85 : decode cX4_assume 85 = .ok (.i2l, 1) := by decide +kernel
theorem dX4_assume_86 : decode cX4_assume 86 = .ok (.lmul, 1) := by decide +kernel
theorem dX4_assume_87 : decode cX4_assume 87 = .ok (.lload 4, 2) := by decide +kernel
theorem dX4_assume_89 : decode cX4_assume 89 = .ok (.aload_n 0, 1) := by decide +kernel
theorem dX4_assume_90 : decode cX4_assume 90 = .ok (.getfield 13, 3) := by decide +kernel
theorem dX4_assume_93 : decode cX4_assume 93 = .ok (.iload_n 3, 1) := by decide +kernel
theorem dX4_assume_94 : decode cX4_assume 94 = .ok (.iconst 3, 1) := by decide +kernel
theorem dX4_assume_95 : decode cX4_assume 95 = .ok (.iadd, 1) := by decide +kernel
theorem dX4_assume_96 : decode cX4_assume 96 = .ok (.iaload, 1) := by decide +kernel
theorem dX4_assume_97 : decode cX4_assume 97 = .ok (.i2l, 1) := by decide +kernel
theorem dX4_assume_98 : decode cX4_assume 98 = .ok (.lmul, 1) := by decide +kernel
theorem dX4_assume_99 : decode cX4_assume 99 = .ok (.lload 4, 2) := by decide +kernel
theorem dX4_assume_101 : decode cX4_assume 101 = .ok (.aload_n 0, 1) := by decide +kernel
theorem dX4_assume_102 : decode cX4_assume 102 = .ok (.getfield 13, 3) := by decide +kernel
theorem dX4_assume_105 : decode cX4_assume 105 = .ok (.iload_n 3, 1) := by decide +kernel
theorem dX4_assume_106 : decode cX4_assume 106 = .ok (.iconst 4, 1) := by decide +kernel
theorem dX4_assume_107 : decode cX4_assume 107 = .ok (.iadd, 1) := by decide +kernel
theorem dX4_assume_108 : decode cX4_assume 108 = .ok (.iaload, 1) := by decide +kernel
theorem dX4_assume_109 : decode cX4_assume 109 = .ok (.i2l, 1) := by decide +kernel
theorem dX4_assume_110 : decode cX4_assume 110 = .ok (.lmul, 1) := by decide +kernel
theorem dX4_assume_111 : decode cX4_assume 111 = .ok (.invokevirtual 101, 3) := by decide +kernel
theorem dX4_assume_114 : decode cX4_assume 114 = .ok (.ireturn, 1) := by decide +kernel
set_option maxRecDepth 20000 in
theorem ggX4_bound_X4_isFull : GoodIn wsX4_bound wsX4_isFull := goodIn_r _ [7, 8, 9, 19, 20, 21, 22, 23, 24, 25, 26, 27, 28, 29, 30, 31, 32, 33, 34, 35, 36, 37, 38, 39] (by decide +kernel) (by decide +kernel)
set_option maxRecDepth 20000 in
theorem gX4_bound_X4_isFull : GoodIn wsX4_bound (wsV RX4 105 RX4 yX4_isFull wsX4_isFull) := goodIn_app (goodIn_of _ (by decide +kernel)) ggX4_bound_X4_isFull
set_option maxRecDepth 20000 in
theorem ggX4_bound_X4_putWord : GoodIn wsX4_bound wsX4_putWord := goodIn_r _ [13, 14, 15, 16, 6, 17, 9, 18, 19, 20, 21, 22, 23, 24, 25, 26, 27, 28, 29, 30, 31, 32, 33, 34, 35, 36, 37, 38, 39] (by decide +kernel) (by decide +kernel)
set_option maxRecDepth 20000 in
theorem gX4_bound_X4_putWord : GoodIn wsX4_bound (wsV RX4 113 RX4 yX4_putWord wsX4_putWord) := goodIn_app (goodIn_of _ (by decide +kernel)) ggX4_bound_X4_putWord
theorem dX4_bound_0 : decode cX4_bound 0 = .ok (.iload_n 1, 1) := by decide +kernel
theorem dX4_bound_1 : decode cX4_bound 1 = .ok (.ifCond .lt 15, 3) := by decide +kernel
theorem dX4_bound_4 : decode cX4_bound 4 = .ok (.iload_n 1, 1) := by decide +kernel
theorem dX4_bound_5 : decode cX4_bound 5 = .ok (.iconst 3, 1) := by decide +kernel
theorem dX4_bound_6 : decode cX4_bound 6 = .ok (.if_icmp .gt 10, 3) := by decide +kernel
theorem dX4_bound_9 : decode cX4_bound 9 = .ok (.aload_n 0, 1) := by decide +kernel
theorem dX4_bound_10 : decode cX4_bound 10 = .ok (.invokevirtual 105, 3) := by decide +kernel
theorem dX4_bound_13 : decode cX4_bound 13 = .ok (.ifCond .eq 5, 3) := by decide +kernel
theorem dX4_bound_16 : decode cX4_bound 16 = .ok (.iconst (-1), 1) := by decide +kernel
theorem dX4_bound_17 : decode cX4_bound 17 = .ok (.ireturn, 1) := by decide +kernel
theorem dX4_bound_18 : decode cX4_bound 18 = .ok (.aload_n 0, 1) := by decide +kernel
theorem dX4_bound_19 : decode cX4_bound 19 = .ok (.iload_n 1, 1) := by decide +kernel
theorem dX4_bound_20 : decode cX4_bound 20 = .ok (.iload_n 2, 1) := by decide +kernel
theorem dX4_bound_21 : decode cX4_bound 21 = .ok (.ifCond .eq 9, 3) := by decide +kernel
theorem dX4_bound_24 : decode cX4_bound 24 = .ok (.ldc2_w 109, 3) := by decide +kernel
theorem dX4_bound_27 : decode cX4_bound 27 = .ok (.goto 4, 3) := by decide +kernel
theorem dX4_bound_30 : decode cX4_bound 30 = .ok (.lconst 1, 1) := by decide +kernel
theorem dX4_bound_31 : decode cX4_bound 31 = .ok (.ldc2_w 111, 3) := by decide +kernel
theorem dX4_bound_34 : decode cX4_bound 34 = .ok (.invokevirtual 113, 3) := by decide +kernel
theorem dX4_bound_37 : decode cX4_bound 37 = .ok (.ireturn, 1) := by decide +kernel
set_option maxRecDepth 20000 in
theorem ggX4_add_X4_isLine : GoodIn wsX4_add wsX4_isLine := goodIn_r _ [9, 1, 18, 19, 20, 21, 22, 23, 24, 25, 26, 27, 28, 29, 30, 31, 32, 33, 34, 35, 36, 37, 38] (by decide +kernel) (by decide +kernel)
set_option maxRecDepth 20000 in
theorem gX4_add_X4_isLine : GoodIn wsX4_add (wsV RX4 117 RX4 yX4_isLine wsX4_isLine) := goodIn_app (goodIn_of _ (by decide +kernel)) ggX4_add_X4_isLine
set_option maxRecDepth 20000 in
theorem ggX4_add_X4_isFull : GoodIn wsX4_add wsX4_isFull := goodIn_r _ [13, 14, 1, 18, 19, 20, 21, 22, 23, 24, 25, 26, 27, 28, 29, 30, 31, 32, 33, 34, 35, 36, 37, 38] (by decide +kernel) (by decide +kernel)
set_option maxRecDepth 20000 in
theorem gX4_add_X4_isFull : GoodIn wsX4_add (wsV RX4 105 RX4 yX4_isFull wsX4_isFull) := goodIn_app (goodIn_of _ (by decide +kernel)) ggX4_add_X4_isFull
set_option maxRecDepth 20000 in
theorem ggX4_add_X4_isIn : GoodIn wsX4_add wsX4_isIn := goodIn_r _ [17] (by decide +kernel) (by decide +kernel)
set_option maxRecDepth 20000 in
theorem gX4_add_X4_isIn : GoodIn wsX4_add (va_wsS RX4 72 yX4_isIn wsX4_isIn) := goodIn_app (goodIn_of _ (by decide +kernel)) ggX4_add_X4_isIn
theorem dX4_add_0 : decode cX4_add 0 = .ok (.aload_n 0, 1) := by decide +kernel
theorem dX4_add_1 : decode cX4_add 1 = .ok (.iload_n 1, 1) := by decide +kernel
theorem dX4_add_2 : decode cX4_add 2 = .ok (.invokevirtual 117, 3) := by decide +kernel
theorem dX4_add_5 : decode cX4_add 5 = .ok (.ifCond .eq 42, 3) := by decide +kernel
theorem dX4_add_8 : decode cX4_add 8 = .ok (.aload_n 0, 1) := by decide +kernel
theorem dX4_add_9 : decode cX4_add 9 = .ok (.iload_n 3, 1) := by decide +kernel
theorem dX4_add_10 : decode cX4_add 10 = .ok (.invokevirtual 117, 3) := by decide +kernel
theorem dX4_add_13 : decode cX4_add 13 = .ok (.ifCond .eq 34, 3) := by decide +kernel
theorem dX4_add_16 : decode cX4_add 16 = .ok (.iload_n 2, 1) := by decide +kernel
theorem dX4_add_17 : decode cX4_add 17 = .ok (.ifCond .lt 30, 3) := by decide +kernel
theorem dX4_add_20 : decode cX4_add 20 = .ok (.iload_n 2, 1) := by decide +kernel
theorem dX4_add_21 : decode cX4_add 21 = .ok (.sipush 1000, 3) := by decide +kernel
theorem dX4_add_24 : decode cX4_add 24 = .ok (.if_icmp .gt 23, 3) := by decide +kernel
theorem dX4_add_27 : decode cX4_add 27 = .ok (.iload 4, 2) := by decide +kernel
theorem dX4_add_29 : decode cX4_add 29 = .ok (.ifCond .lt 18, 3) := by decide +kernel
theorem dX4_add_32 : decode cX4_add 32 = .ok (.iload 4, 2) := by decide +kernel
theorem dX4_add_34 : decode cX4_add 34 = .ok (.sipush 1000, 3) := by decide +kernel
theorem dX4_add_37 : decode cX4_add 37 = .ok (.if_icmp .gt 10, 3) := by decide +kernel
theorem dX4_add_40 : decode cX4_add 40 = .ok (.aload_n 0, 1) := by decide +kernel
theorem dX4_add_41 : decode cX4_add 41 = .ok (.invokevirtual 105, 3) := by decide +kernel
theorem dX4_add_44 : decode cX4_add 44 = .ok (.ifCond .eq 5, 3) := by decide +kernel
theorem dX4_add_47 : decode cX4_add 47 = .ok (.iconst (-1), 1) := by decide +kernel
theorem dX4_add_48 : decode cX4_add 48 = .ok (.ireturn, 1) := by decide +kernel
theorem dX4_add_49 : decode cX4_add 49 = .ok (.iconst 5, 1) := by decide +kernel
theorem dX4_add_50 : decode cX4_add 50 = .ok (.aload_n 0, 1) := by decide +kernel
theorem dX4_add_51 : decode cX4_add 51 = .ok (.getfield 58, 3) := by decide +kernel
theorem dX4_add_54 : decode cX4_add 54 = .ok (.imul, 1) := by decide +kernel
theorem dX4_add_55 : decode cX4_add 55 = .ok (.istore 5, 2) := by decide +kernel
theorem dX4_add_57 : decode cX4_add 57 = .ok (.iconst 1, 1) := by decide +kernel
theorem dX4_add_58 : decode cX4_add 58 = .ok (.istore 6, 2) := by decide +kernel
theorem dX4_add_60 : decode cX4_add 60 = .ok (.iconst 0, 1) := by decide +kernel
theorem dX4_add_61 : decode cX4_add 61 = .ok (.istore 7, 2) := by decide +kernel
theorem dX4_add_63 : decode cX4_add 63 = .ok (.iload 7, 2) := by decide +kernel
theorem dX4_add_65 : decode cX4_add 65 = .ok (.iconst 5, 1) := by decide +kernel
theorem dX4_add_66 : decode cX4_add 66 = .ok (.if_icmp .ge 82, 3) := by decide +kernel
theorem dX4_add_69 : decode cX4_add 69 = .ok (.aload_n 0, 1) := by decide +kernel
theorem dX4_add_70 : decode cX4_add 70 = .ok (.getfield 19, 3) := by decide +kernel
theorem dX4_add_73 : decode cX4_add 73 = .ok (.iload 5, 2) := by decide +kernel
theorem dX4_add_75 : decode cX4_add 75 = .ok (.iload 7, 2) := by decide +kernel
theorem dX4_add_77 : decode cX4_add 77 = .ok (.iadd, 1) := by decide +kernel
theorem dX4_add_78 : decode cX4_add 78 = .ok (.iload_n 2, 1) := by decide +kernel
theorem dX4_add_79 : decode cX4_add 79 = .ok (.i2l, 1) := by decide +kernel
theorem dX4_add_80 : decode cX4_add 80 = .ok (.aload_n 0, 1) := by decide +kernel
theorem dX4_add_81 : decode cX4_add 81 = .ok (.getfield 19, 3) := by decide +kernel
theorem dX4_add_84 : decode cX4_add 84 = .ok (.iconst 5, 1) := by decide +kernel
theorem dX4_add_85 : decode cX4_add 85 = .ok (.iload_n 1, 1) := by decide +kernel
theorem dX4_add_86 : decode cX4_add 86 = .ok (.imul, 1) := by decide +kernel
theorem dX4_add_87 : decode cX4_add 87 = .ok (.iload 7, 2) := by decide +kernel
theorem dX4_add_89 : decode cX4_add 89 = .ok (.iadd, 1) := by decide +kernel
theorem dX4_add_90 : decode cX4_add 90 = .ok (.laload, 1) := by decide +kernel
theorem dX4_add_91 : decode cX4_add 91 = .ok (.lmul, 1) := by decide +kernel
theorem dX4_add_92 : decode cX4_add 92 = .ok (.iload 4, 2) := by decide +kernel
theorem dX4_add_94 : decode cX4_add 94 = .ok (.i2l, 1) := by decide +kernel
theorem dX4_add_95 : decode cX4_add 95 = .ok (.aload_n 0, 1) := by decide +kernel
theorem dX4_add_96 : decode cX4_add 96 = .ok (.getfield 19, 3) := by decide +kernel
theorem dX4_add_99 : decode cX4_add 99 = .ok (.iconst 5, 1) := by decide +kernel
theorem dX4_add_100 : decode cX4_add 100 = .ok (.iload_n 3, 1) := by decide +kernel
theorem dX4_add_101 : decode cX4_add 101 = .ok (.imul, 1) := by decide +kernel
theorem dX4_add_102 : decode cX4_add 102 = .ok (.iload 7, 2) := by decide +kernel
theorem dX4_add_104 : decode cX4_add 104 = .ok (.iadd, 1) := by decide +kernel
theorem dX4_add_105 : decode cX4_add 105 = .ok (.laload, 1) := by decide +kernel
theorem dX4_add_106 : decode cX4_add 106 = .ok (.lmul, 1) := by decide +kernel
theorem dX4_add_107 : decode cX4_add 107 = .ok (.ladd, 1) := by decide +kernel
theorem dX4_add_108 : decode cX4_add 108 = .ok (.lastore, 1) := by decide +kernel
theorem dX4_add_109 : decode cX4_add 109 = .ok (.iload 6, 2) := by decide +kernel
theorem dX4_add_111 : decode cX4_add 111 = .ok (.aload_n 0, 1) := by decide +kernel
theorem dX4_add_112 : decode cX4_add 112 = .ok (.getfield 19, 3) := by decide +kernel
theorem dX4_add_115 : decode cX4_add 115 = .ok (.iload 5, 2) := by decide +kernel
theorem dX4_add_117 : decode cX4_add 117 = .ok (.iload 7, 2) := by decide +kernel
theorem dX4_add_119 : decode cX4_add 119 = .ok (.iadd, 1) := by decide +kernel
theorem dX4_add_120 : decode cX4_add 120 = .ok (.laload, 1) := by decide +kernel
theorem dX4_add_121 : decode cX4_add 121 = .ok (.iload 7, 2) := by decide +kernel
theorem dX4_add_123 : decode cX4_add 123 = .ok (.iconst 4, 1) := by decide +kernel
theorem dX4_add_124 : decode cX4_add 124 = .ok (.if_icmp .ge 9, 3) := by decide +kernel
theorem dX4_add_127 : decode cX4_add 127 = .ok (.ldc2_w 120, 3) := by decide +kernel
theorem dX4_add_130 : decode cX4_add 130 = .ok (.goto 6, 3) := by decide +kernel
theorem dX4_add_133 : decode cX4_add 133 = .ok (.ldc2_w 122, 3) := by decide +kernel
theorem dX4_add_136 : decode cX4_add 136 = .ok (.invokestatic 72, 3) := by decide +kernel
theorem dX4_add_139 : decode cX4_add 139 = .ok (.iand, 1) := by decide +kernel
theorem dX4_add_140 : decode cX4_add 140 = .ok (.istore 6, 2) := by decide +kernel
theorem dX4_add_142 : decode cX4_add 142 = .ok (.iinc 7 1, 3) := by decide +kernel
theorem dX4_add_145 : decode cX4_add 145 = .ok (.goto (-82), 3) := by decide +kernel
theorem dX4_add_148 : decode cX4_add 148 = .ok (.iload 6, 2) := by decide +kernel
theorem dX4_add_150 : decode cX4_add 150 = .ok (.ifCond .ne 5, 3) := by decide +kernel
theorem dX4_add_153 : decode cX4_add 153 = .ok (.iconst (-1), 1) := by decide +kernel
theorem dX4_add_154 : decode cX4_add 154 = .ok (.ireturn, 1) := by decide +kernel
theorem dX4_add_155 : decode cX4_add 155 = .ok (.aload_n 0, 1) := by decide +kernel
theorem dX4_add_156 : decode cX4_add 156 = .ok (.dup, 1) := by decide +kernel
theorem dX4_add_157 : decode cX4_add 157 = .ok (.getfield 58, 3) := by decide +kernel
theorem dX4_add_160 : decode cX4_add 160 = .ok (.iconst 1, 1) := by decide +kernel
theorem dX4_add_161 : decode cX4_add 161 = .ok (.iadd, 1) := by decide +kernel
theorem dX4_add_162 : decode cX4_add 162 = .ok (.putfield 58, 3) := by decide +kernel
theorem dX4_add_165 : decode cX4_add 165 = .ok (.aload_n 0, 1) := by decide +kernel
theorem dX4_add_166 : decode cX4_add 166 = .ok (.getfield 58, 3) := by decide +kernel
theorem dX4_add_169 : decode cX4_add 169 = .ok (.iconst 1, 1) := by decide +kernel
theorem dX4_add_170 : decode cX4_add 170 = .ok (.isub, 1) := by decide +kernel
theorem dX4_add_171 : decode cX4_add 171 = .ok (.ireturn, 1) := by decide +kernel
set_option maxRecDepth 20000 in
theorem ggX4_divide_X4_isLine : GoodIn wsX4_divide wsX4_isLine := goodIn_r _ [8, 2, 14, 15, 16, 17, 18, 19, 20, 21, 22, 23, 24, 25, 26, 27, 28, 29, 30, 31, 32, 33, 34] (by decide +kernel) (by decide +kernel)
set_option maxRecDepth 20000 in
theorem gX4_divide_X4_isLine : GoodIn wsX4_divide (wsV RX4 117 RX4 yX4_isLine wsX4_isLine) := goodIn_app (goodIn_of _ (by decide +kernel)) ggX4_divide_X4_isLine
set_option maxRecDepth 20000 in
theorem ggX4_divide_X4_isFull : GoodIn wsX4_divide wsX4_isFull := goodIn_r _ [12, 13, 2, 14, 15, 16, 17, 18, 19, 20, 21, 22, 23, 24, 25, 26, 27, 28, 29, 30, 31, 32, 33, 34] (by decide +kernel) (by decide +kernel)
set_option maxRecDepth 20000 in
theorem gX4_divide_X4_isFull : GoodIn wsX4_divide (wsV RX4 105 RX4 yX4_isFull wsX4_isFull) := goodIn_app (goodIn_of _ (by decide +kernel)) ggX4_divide_X4_isFull
theorem dX4_divide_0 : decode cX4_divide 0 = .ok (.aload_n 0, 1) := by decide +kernel
theorem dX4_divide_1 : decode cX4_divide 1 = .ok (.iload_n 1, 1) := by decide +kernel
theorem dX4_divide_2 : decode cX4_divide 2 = .ok (.invokevirtual 117, 3) := by decide +kernel
theorem dX4_divide_5 : decode cX4_divide 5 = .ok (.ifCond .eq 21, 3) := by decide +kernel
theorem dX4_divide_8 : decode cX4_divide 8 = .ok (.iload_n 2, 1) := by decide +kernel
theorem dX4_divide_9 : decode cX4_divide 9 = .ok (.iconst 1, 1) := by decide +kernel
theorem dX4_divide_10 : decode cX4_divide 10 = .ok (.if_icmp .lt 16, 3) := by decide +kernel
theorem dX4_divide_13 : decode cX4_divide 13 = .ok (.iload_n 2, 1) := by decide +kernel
theorem dX4_divide_14 : decode cX4_divide 14 = .ok (.ldc 124, 2) := by decide +kernel
theorem dX4_divide_16 : decode cX4_divide 16 = .ok (.if_icmp .gt 10, 3) := by decide +kernel
theorem dX4_divide_19 : decode cX4_divide 19 = .ok (.aload_n 0, 1) := by decide +kernel
theorem dX4_divide_20 : decode cX4_divide 20 = .ok (.invokevirtual 105, 3) := by decide +kernel
theorem dX4_divide_23 : decode cX4_divide 23 = .ok (.ifCond .eq 5, 3) := by decide +kernel
theorem dX4_divide_26 : decode cX4_divide 26 = .ok (.iconst (-1), 1) := by decide +kernel
theorem dX4_divide_27 : decode cX4_divide 27 = .ok (.ireturn, 1) := by decide +kernel
theorem dX4_divide_28 : decode cX4_divide 28 = .ok (.iconst 5, 1) := by decide +kernel
theorem dX4_divide_29 : decode cX4_divide 29 = .ok (.aload_n 0, 1) := by decide +kernel
theorem dX4_divide_30 : decode cX4_divide 30 = .ok (.getfield 58, 3) := by decide +kernel
theorem dX4_divide_33 : decode cX4_divide 33 = .ok (.imul, 1) := by decide +kernel
theorem dX4_divide_34 : decode cX4_divide 34 = .ok (.istore_n 3, 1) := by decide +kernel
theorem dX4_divide_35 : decode cX4_divide 35 = .ok (.iconst 1, 1) := by decide +kernel
theorem dX4_divide_36 : decode cX4_divide 36 = .ok (.istore 4, 2) := by decide +kernel
theorem dX4_divide_38 : decode cX4_divide 38 = .ok (.iconst 0, 1) := by decide +kernel
theorem dX4_divide_39 : decode cX4_divide 39 = .ok (.istore 5, 2) := by decide +kernel
theorem dX4_divide_41 : decode cX4_divide 41 = .ok (.iload 5, 2) := by decide +kernel
theorem dX4_divide_43 : decode cX4_divide 43 = .ok (.iconst 5, 1) := by decide +kernel
theorem dX4_divide_44 : decode cX4_divide 44 = .ok (.if_icmp .ge 78, 3) := by decide +kernel
theorem dX4_divide_47 : decode cX4_divide 47 = .ok (.aload_n 0, 1) := by decide +kernel
theorem dX4_divide_48 : decode cX4_divide 48 = .ok (.getfield 19, 3) := by decide +kernel
theorem dX4_divide_51 : decode cX4_divide 51 = .ok (.iconst 5, 1) := by decide +kernel
theorem dX4_divide_52 : decode cX4_divide 52 = .ok (.iload_n 1, 1) := by decide +kernel
theorem dX4_divide_53 : decode cX4_divide 53 = .ok (.imul, 1) := by decide +kernel
theorem dX4_divide_54 : decode cX4_divide 54 = .ok (.iload 5, 2) := by decide +kernel
theorem dX4_divide_56 : decode cX4_divide 56 = .ok (.iadd, 1) := by decide +kernel
theorem dX4_divide_57 : decode cX4_divide 57 = .ok (.laload, 1) := by decide +kernel
theorem dX4_divide_58 : decode cX4_divide 58 = .ok (.lstore 6, 2) := by decide +kernel
theorem dX4_divide_60 : decode cX4_divide 60 = .ok (.iload 4, 2) := by decide +kernel
theorem dX4_divide_62 : decode cX4_divide 62 = .ok (.iload 5, 2) := by decide +kernel
theorem dX4_divide_64 : decode cX4_divide 64 = .ok (.iconst 4, 1) := by decide +kernel
theorem dX4_divide_65 : decode cX4_divide 65 = .ok (.if_icmp .eq 13, 3) := by decide +kernel
theorem dX4_divide_68 : decode cX4_divide 68 = .ok (.lload 6, 2) := by decide +kernel
theorem dX4_divide_70 : decode cX4_divide 70 = .ok (.iload_n 2, 1) := by decide +kernel
theorem dX4_divide_71 : decode cX4_divide 71 = .ok (.i2l, 1) := by decide +kernel
theorem dX4_divide_72 : decode cX4_divide 72 = .ok (.lrem, 1) := by decide +kernel
theorem dX4_divide_73 : decode cX4_divide 73 = .ok (.lconst 0, 1) := by decide +kernel
theorem dX4_divide_74 : decode cX4_divide 74 = .ok (.lcmp, 1) := by decide +kernel
theorem dX4_divide_75 : decode cX4_divide 75 = .ok (.ifCond .ne 7, 3) := by decide +kernel
theorem dX4_divide_78 : decode cX4_divide 78 = .ok (.iconst 1, 1) := by decide +kernel
theorem dX4_divide_79 : decode cX4_divide 79 = .ok (.goto 4, 3) := by decide +kernel
theorem dX4_divide_82 : decode cX4_divide 82 = .ok (.iconst 0, 1) := by decide +kernel
theorem dX4_divide_83 : decode cX4_divide 83 = .ok (.iand, 1) := by decide +kernel
theorem dX4_divide_84 : decode cX4_divide 84 = .ok (.istore 4, 2) := by decide +kernel
theorem dX4_divide_86 : decode cX4_divide 86 = .ok (.aload_n 0, 1) := by decide +kernel
theorem dX4_divide_87 : decode cX4_divide 87 = .ok (.getfield 19, 3) := by decide +kernel
theorem dX4_divide_90 : decode cX4_divide 90 = .ok (.iload_n 3, 1) := by decide +kernel
theorem dX4_divide_91 : decode cX4_divide 91 = .ok (.iload 5, 2) := by decide +kernel
theorem dX4_divide_93 : decode cX4_divide 93 = .ok (.iadd, 1) := by decide +kernel
theorem dX4_divide_94 : decode cX4_divide 94 = .ok (.lload 6, 2) := by decide +kernel
theorem dX4_divide_96 : decode cX4_divide 96 = .ok (.iload_n 2, 1) := by decide +kernel
theorem dX4_divide_97 : decode cX4_divide 97 = .ok (.i2l, 1) := by decide +kernel
theorem dX4_divide_98 : decode cX4_divide 98 = .ok (.ldiv, 1) := by decide +kernel
theorem dX4_divide_99 : decode cX4_divide 99 = .ok (.lload 6, 2) := by decide +kernel
theorem dX4_divide_101 : decode cX4_divide 101 = .ok (.iload_n 2, 1) := by decide +kernel
theorem dX4_divide_102 : decode cX4_divide 102 = .ok (.i2l, 1) := by decide +kernel
theorem dX4_divide_103 : decode cX4_divide 103 = .ok (.lrem, 1) := by decide +kernel
theorem dX4_divide_104 : decode cX4_divide 104 = .ok (.lconst 0, 1) := by decide +kernel
theorem dX4_divide_105 : decode cX4_divide 105 = .ok (.lcmp, 1) := by decide +kernel
theorem dX4_divide_106 : decode cX4_divide 106 = .ok (.ifCond .ge 7, 3) := by decide +kernel
theorem dX4_divide_109 : decode cX4_divide 109 = .ok (.lconst 1, 1) := by decide +kernel
theorem dX4_divide_110 : decode cX4_divide 110 = .ok (.goto 4, 3) := by decide +kernel
theorem dX4_divide_113 : decode cX4_divide 113 = .ok (.lconst 0, 1) := by decide +kernel
theorem dX4_divide_114 : decode cX4_divide 114 = .ok (.lsub, 1) := by decide +kernel
theorem dX4_divide_115 : decode cX4_divide 115 = .ok (.lastore, 1) := by decide +kernel
theorem dX4_divide_116 : decode cX4_divide 116 = .ok (.iinc 5 1, 3) := by decide +kernel
theorem dX4_divide_119 : decode cX4_divide 119 = .ok (.goto (-78), 3) := by decide +kernel
theorem dX4_divide_122 : decode cX4_divide 122 = .ok (.iload 4, 2) := by decide +kernel
theorem dX4_divide_124 : decode cX4_divide 124 = .ok (.ifCond .ne 5, 3) := by decide +kernel
theorem dX4_divide_127 : decode cX4_divide 127 = .ok (.iconst (-1), 1) := by decide +kernel
theorem dX4_divide_128 : decode cX4_divide 128 = .ok (.ireturn, 1) := by decide +kernel
theorem dX4_divide_129 : decode cX4_divide 129 = .ok (.aload_n 0, 1) := by decide +kernel
theorem dX4_divide_130 : decode cX4_divide 130 = .ok (.dup, 1) := by decide +kernel
theorem dX4_divide_131 : decode cX4_divide 131 = .ok (.getfield 58, 3) := by decide +kernel
theorem dX4_divide_134 : decode cX4_divide 134 = .ok (.iconst 1, 1) := by decide +kernel
theorem dX4_divide_135 : decode cX4_divide 135 = .ok (.iadd, 1) := by decide +kernel
theorem dX4_divide_136 : decode cX4_divide 136 = .ok (.putfield 58, 3) := by decide +kernel
theorem dX4_divide_139 : decode cX4_divide 139 = .ok (.aload_n 0, 1) := by decide +kernel
theorem dX4_divide_140 : decode cX4_divide 140 = .ok (.getfield 58, 3) := by decide +kernel
theorem dX4_divide_143 : decode cX4_divide 143 = .ok (.iconst 1, 1) := by decide +kernel
theorem dX4_divide_144 : decode cX4_divide 144 = .ok (.isub, 1) := by decide +kernel
theorem dX4_divide_145 : decode cX4_divide 145 = .ok (.ireturn, 1) := by decide +kernel
set_option maxRecDepth 20000 in
theorem ggX4_split_X4_isFull : GoodIn wsX4_split wsX4_isFull := goodIn_r _ [11, 12, 6, 22, 23, 24, 25, 26, 27, 28, 29, 30, 31, 32, 33, 34, 35, 36, 37, 38, 39, 40, 41, 42] (by decide +kernel) (by decide +kernel)
set_option maxRecDepth 20000 in
theorem gX4_split_X4_isFull : GoodIn wsX4_split (wsV RX4 105 RX4 yX4_isFull wsX4_isFull) := goodIn_app (goodIn_of _ (by decide +kernel)) ggX4_split_X4_isFull
set_option maxRecDepth 20000 in
theorem ggX4_split_X4_putWord : GoodIn wsX4_split wsX4_putWord := goodIn_r _ [16, 17, 18, 19, 10, 20, 6, 21, 22, 23, 24, 25, 26, 27, 28, 29, 30, 31, 32, 33, 34, 35, 36, 37, 38, 39, 40, 41, 42] (by decide +kernel) (by decide +kernel)
set_option maxRecDepth 20000 in
theorem gX4_split_X4_putWord : GoodIn wsX4_split (wsV RX4 113 RX4 yX4_putWord wsX4_putWord) := goodIn_app (goodIn_of _ (by decide +kernel)) ggX4_split_X4_putWord
theorem dX4_split_0 : decode cX4_split 0 = .ok (.iload_n 1, 1) := by decide +kernel
theorem dX4_split_1 : decode cX4_split 1 = .ok (.ifCond .lt 36, 3) := by decide +kernel
theorem dX4_split_4 : decode cX4_split 4 = .ok (.iload_n 1, 1) := by decide +kernel
theorem dX4_split_5 : decode cX4_split 5 = .ok (.iconst 3, 1) := by decide +kernel
theorem dX4_split_6 : decode cX4_split 6 = .ok (.if_icmp .gt 31, 3) := by decide +kernel
theorem dX4_split_9 : decode cX4_split 9 = .ok (.iload_n 2, 1) := by decide +kernel
theorem dX4_split_10 : decode cX4_split 10 = .ok (.bipush (-16), 2) := by decide +kernel
theorem dX4_split_12 : decode cX4_split 12 = .ok (.if_icmp .lt 25, 3) := by decide +kernel
theorem dX4_split_15 : decode cX4_split 15 = .ok (.iload_n 2, 1) := by decide +kernel
theorem dX4_split_16 : decode cX4_split 16 = .ok (.bipush 15, 2) := by decide +kernel
theorem dX4_split_18 : decode cX4_split 18 = .ok (.if_icmp .gt 19, 3) := by decide +kernel
theorem dX4_split_21 : decode cX4_split 21 = .ok (.aload_n 0, 1) := by decide +kernel
theorem dX4_split_22 : decode cX4_split 22 = .ok (.getfield 61, 3) := by decide +kernel
theorem dX4_split_25 : decode cX4_split 25 = .ok (.bipush 10, 2) := by decide +kernel
theorem dX4_split_27 : decode cX4_split 27 = .ok (.if_icmp .eq 10, 3) := by decide +kernel
theorem dX4_split_30 : decode cX4_split 30 = .ok (.aload_n 0, 1) := by decide +kernel
theorem dX4_split_31 : decode cX4_split 31 = .ok (.invokevirtual 105, 3) := by decide +kernel
theorem dX4_split_34 : decode cX4_split 34 = .ok (.ifCond .eq 5, 3) := by decide +kernel
theorem dX4_split_37 : decode cX4_split 37 = .ok (.iconst (-1), 1) := by decide +kernel
theorem dX4_split_38 : decode cX4_split 38 = .ok (.ireturn, 1) := by decide +kernel
theorem dX4_split_39 : decode cX4_split 39 = .ok (.aload_n 0, 1) := by decide +kernel
theorem dX4_split_40 : decode cX4_split 40 = .ok (.getfield 23, 3) := by decide +kernel
theorem dX4_split_43 : decode cX4_split 43 = .ok (.aload_n 0, 1) := by decide +kernel
theorem dX4_split_44 : decode cX4_split 44 = .ok (.getfield 61, 3) := by decide +kernel
theorem dX4_split_47 : decode cX4_split 47 = .ok (.iload_n 1, 1) := by decide +kernel
theorem dX4_split_48 : decode cX4_split 48 = .ok (.iastore, 1) := by decide +kernel
theorem dX4_split_49 : decode cX4_split 49 = .ok (.aload_n 0, 1) := by decide +kernel
theorem dX4_split_50 : decode cX4_split 50 = .ok (.getfield 26, 3) := by decide +kernel
theorem dX4_split_53 : decode cX4_split 53 = .ok (.aload_n 0, 1) := by decide +kernel
theorem dX4_split_54 : decode cX4_split 54 = .ok (.getfield 61, 3) := by decide +kernel
theorem dX4_split_57 : decode cX4_split 57 = .ok (.iload_n 2, 1) := by decide +kernel
theorem dX4_split_58 : decode cX4_split 58 = .ok (.iastore, 1) := by decide +kernel
theorem dX4_split_59 : decode cX4_split 59 = .ok (.aload_n 0, 1) := by decide +kernel
theorem dX4_split_60 : decode cX4_split 60 = .ok (.getfield 29, 3) := by decide +kernel
theorem dX4_split_63 : decode cX4_split 63 = .ok (.aload_n 0, 1) := by decide +kernel
theorem dX4_split_64 : decode cX4_split 64 = .ok (.getfield 61, 3) := by decide +kernel
theorem dX4_split_67 : decode cX4_split 67 = .ok (.iconst 1, 1) := by decide +kernel
theorem dX4_split_68 : decode cX4_split 68 = .ok (.iastore, 1) := by decide +kernel
theorem dX4_split_69 : decode cX4_split 69 = .ok (.aload_n 0, 1) := by decide +kernel
theorem dX4_split_70 : decode cX4_split 70 = .ok (.getfield 32, 3) := by decide +kernel
theorem dX4_split_73 : decode cX4_split 73 = .ok (.aload_n 0, 1) := by decide +kernel
theorem dX4_split_74 : decode cX4_split 74 = .ok (.getfield 61, 3) := by decide +kernel
theorem dX4_split_77 : decode cX4_split 77 = .ok (.aload_n 0, 1) := by decide +kernel
theorem dX4_split_78 : decode cX4_split 78 = .ok (.getfield 58, 3) := by decide +kernel
theorem dX4_split_81 : decode cX4_split 81 = .ok (.iastore, 1) := by decide +kernel
theorem dX4_split_82 : decode cX4_split 82 = .ok (.aload_n 0, 1) := by decide +kernel
theorem dX4_split_83 : decode cX4_split 83 = .ok (.dup, 1) := by decide +kernel
theorem dX4_split_84 : decode cX4_split 84 = .ok (.getfield 61, 3) := by decide +kernel
theorem dX4_split_87 : decode cX4_split 87 = .ok (.iconst 1, 1) := by decide +kernel
theorem dX4_split_88 : decode cX4_split 88 = .ok (.iadd, 1) := by decide +kernel
theorem dX4_split_89 : decode cX4_split 89 = .ok (.putfield 61, 3) := by decide +kernel
theorem dX4_split_92 : decode cX4_split 92 = .ok (.aload_n 0, 1) := by decide +kernel
theorem dX4_split_93 : decode cX4_split 93 = .ok (.iload_n 1, 1) := by decide +kernel
theorem dX4_split_94 : decode cX4_split 94 = .ok (.lconst 1, 1) := by decide +kernel
theorem dX4_split_95 : decode cX4_split 95 = .ok (.iload_n 2, 1) := by decide +kernel
theorem dX4_split_96 : decode cX4_split 96 = .ok (.i2l, 1) := by decide +kernel
theorem dX4_split_97 : decode cX4_split 97 = .ok (.invokevirtual 113, 3) := by decide +kernel
theorem dX4_split_100 : decode cX4_split 100 = .ok (.ireturn, 1) := by decide +kernel
set_option maxRecDepth 20000 in
theorem ggX4_close_X4_isLine : GoodIn wsX4_close wsX4_isLine := goodIn_r _ [15, 7, 24, 25, 26, 27, 28, 29, 30, 31, 32, 33, 34, 35, 36, 37, 38, 39, 40, 41, 42, 43, 44] (by decide +kernel) (by decide +kernel)
set_option maxRecDepth 20000 in
theorem gX4_close_X4_isLine : GoodIn wsX4_close (wsV RX4 117 RX4 yX4_isLine wsX4_isLine) := goodIn_app (goodIn_of _ (by decide +kernel)) ggX4_close_X4_isLine
set_option maxRecDepth 20000 in
theorem ggX4_close_X4_putWord : GoodIn wsX4_close wsX4_putWord := goodIn_r _ [19, 20, 21, 22, 14, 23, 7, 2, 24, 25, 26, 27, 28, 29, 30, 31, 32, 33, 34, 35, 36, 37, 38, 39, 40, 41, 42, 43, 44] (by decide +kernel) (by decide +kernel)
set_option maxRecDepth 20000 in
theorem gX4_close_X4_putWord : GoodIn wsX4_close (wsV RX4 113 RX4 yX4_putWord wsX4_putWord) := goodIn_app (goodIn_of _ (by decide +kernel)) ggX4_close_X4_putWord
theorem dX4_close_0 : decode cX4_close 0 = .ok (.aload_n 0, 1) := by decide +kernel
theorem dX4_close_1 : decode cX4_close 1 = .ok (.getfield 64, 3) := by decide +kernel
theorem dX4_close_4 : decode cX4_close 4 = .ok (.ifCond .ne 11, 3) := by decide +kernel
theorem dX4_close_7 : decode cX4_close 7 = .ok (.aload_n 0, 1) := by decide +kernel
theorem dX4_close_8 : decode cX4_close 8 = .ok (.iload_n 1, 1) := by decide +kernel
theorem dX4_close_9 : decode cX4_close 9 = .ok (.invokevirtual 117, 3) := by decide +kernel
theorem dX4_close_12 : decode cX4_close 12 = .ok (.ifCond .ne 5, 3) := by decide +kernel
theorem dX4_close_15 : decode cX4_close 15 = .ok (.iconst (-1), 1) := by decide +kernel
theorem dX4_close_16 : decode cX4_close 16 = .ok (.ireturn, 1) := by decide +kernel
theorem dX4_close_17 : decode cX4_close 17 = .ok (.iconst 5, 1) := by decide +kernel
theorem dX4_close_18 : decode cX4_close 18 = .ok (.iload_n 1, 1) := by decide +kernel
theorem dX4_close_19 : decode cX4_close 19 = .ok (.imul, 1) := by decide +kernel
theorem dX4_close_20 : decode cX4_close 20 = .ok (.istore_n 2, 1) := by decide +kernel
theorem dX4_close_21 : decode cX4_close 21 = .ok (.aload_n 0, 1) := by decide +kernel
theorem dX4_close_22 : decode cX4_close 22 = .ok (.getfield 19, 3) := by decide +kernel
theorem dX4_close_25 : decode cX4_close 25 = .ok (.iload_n 2, 1) := by decide +kernel
theorem dX4_close_26 : decode cX4_close 26 = .ok (.laload, 1) := by decide +kernel
theorem dX4_close_27 : decode cX4_close 27 = .ok (.lconst 0, 1) := by decide +kernel
theorem dX4_close_28 : decode cX4_close 28 = .ok (.lcmp, 1) := by decide +kernel
theorem dX4_close_29 : decode cX4_close 29 = .ok (.ifCond .ne 55, 3) := by decide +kernel
theorem dX4_close_32 : decode cX4_close 32 = .ok (.aload_n 0, 1) := by decide +kernel
theorem dX4_close_33 : decode cX4_close 33 = .ok (.getfield 19, 3) := by decide +kernel
theorem dX4_close_36 : decode cX4_close 36 = .ok (.iload_n 2, 1) := by decide +kernel
theorem dX4_close_37 : decode cX4_close 37 = .ok (.iconst 1, 1) := by decide +kernel
theorem dX4_close_38 : decode cX4_close 38 = .ok (.iadd, 1) := by decide +kernel
theorem dX4_close_39 : decode cX4_close 39 = .ok (.laload, 1) := by decide +kernel
theorem dX4_close_40 : decode cX4_close 40 = .ok (.lconst 0, 1) := by decide +kernel
theorem dX4_close_41 : decode cX4_close 41 = .ok (.lcmp, 1) := by decide +kernel
theorem dX4_close_42 : decode cX4_close 42 = .ok (.ifCond .ne 42, 3) := by decide +kernel
theorem dX4_close_45 : decode cX4_close 45 = .ok (.aload_n 0, 1) := by decide +kernel
theorem dX4_close_46 : decode cX4_close 46 = .ok (.getfield 19, 3) := by decide +kernel
theorem dX4_close_49 : decode cX4_close 49 = .ok (.iload_n 2, 1) := by decide +kernel
theorem dX4_close_50 : decode cX4_close 50 = .ok (.iconst 2, 1) := by decide +kernel
theorem dX4_close_51 : decode cX4_close 51 = .ok (.iadd, 1) := by decide +kernel
theorem dX4_close_52 : decode cX4_close 52 = .ok (.laload, 1) := by decide +kernel
theorem dX4_close_53 : decode cX4_close 53 = .ok (.lconst 0, 1) := by decide +kernel
theorem dX4_close_54 : decode cX4_close 54 = .ok (.lcmp, 1) := by decide +kernel
theorem dX4_close_55 : decode cX4_close 55 = .ok (.ifCond .ne 29, 3) := by decide +kernel
theorem dX4_close_58 : decode cX4_close 58 = .ok (.aload_n 0, 1) := by decide +kernel
theorem dX4_close_59 : decode cX4_close 59 = .ok (.getfield 19, 3) := by decide +kernel
theorem dX4_close_62 : decode cX4_close 62 = .ok (.iload_n 2, 1) := by decide +kernel
theorem dX4_close_63 : decode cX4_close 63 = .ok (.iconst 3, 1) := by decide +kernel
theorem dX4_close_64 : decode cX4_close 64 = .ok (.iadd, 1) := by decide +kernel
theorem dX4_close_65 : decode cX4_close 65 = .ok (.laload, 1) := by decide +kernel
theorem dX4_close_66 : decode cX4_close 66 = .ok (.lconst 0, 1) := by decide +kernel
theorem dX4_close_67 : decode cX4_close 67 = .ok (.lcmp, 1) := by decide +kernel
theorem dX4_close_68 : decode cX4_close 68 = .ok (.ifCond .ne 16, 3) := by decide +kernel
theorem dX4_close_71 : decode cX4_close 71 = .ok (.aload_n 0, 1) := by decide +kernel
theorem dX4_close_72 : decode cX4_close 72 = .ok (.getfield 19, 3) := by decide +kernel
theorem dX4_close_75 : decode cX4_close 75 = .ok (.iload_n 2, 1) := by decide +kernel
theorem dX4_close_76 : decode cX4_close 76 = .ok (.iconst 4, 1) := by decide +kernel
theorem dX4_close_77 : decode cX4_close 77 = .ok (.iadd, 1) := by decide +kernel
theorem dX4_close_78 : decode cX4_close 78 = .ok (.laload, 1) := by decide +kernel
theorem dX4_close_79 : decode cX4_close 79 = .ok (.lconst 0, 1) := by decide +kernel
theorem dX4_close_80 : decode cX4_close 80 = .ok (.lcmp, 1) := by decide +kernel
theorem dX4_close_81 : decode cX4_close 81 = .ok (.ifCond .lt 5, 3) := by decide +kernel
theorem dX4_close_84 : decode cX4_close 84 = .ok (.iconst (-1), 1) := by decide +kernel
theorem dX4_close_85 : decode cX4_close 85 = .ok (.ireturn, 1) := by decide +kernel
theorem dX4_close_86 : decode cX4_close 86 = .ok (.aload_n 0, 1) := by decide +kernel
theorem dX4_close_87 : decode cX4_close 87 = .ok (.dup, 1) := by decide +kernel
theorem dX4_close_88 : decode cX4_close 88 = .ok (.getfield 67, 3) := by decide +kernel
theorem dX4_close_91 : decode cX4_close 91 = .ok (.iconst 1, 1) := by decide +kernel
theorem dX4_close_92 : decode cX4_close 92 = .ok (.iadd, 1) := by decide +kernel
theorem dX4_close_93 : decode cX4_close 93 = .ok (.putfield 67, 3) := by decide +kernel
theorem dX4_close_96 : decode cX4_close 96 = .ok (.aload_n 0, 1) := by decide +kernel
theorem dX4_close_97 : decode cX4_close 97 = .ok (.getfield 61, 3) := by decide +kernel
theorem dX4_close_100 : decode cX4_close 100 = .ok (.ifCond .le 44, 3) := by decide +kernel
theorem dX4_close_103 : decode cX4_close 103 = .ok (.aload_n 0, 1) := by decide +kernel
theorem dX4_close_104 : decode cX4_close 104 = .ok (.getfield 29, 3) := by decide +kernel
theorem dX4_close_107 : decode cX4_close 107 = .ok (.aload_n 0, 1) := by decide +kernel
theorem dX4_close_108 : decode cX4_close 108 = .ok (.getfield 61, 3) := by decide +kernel
theorem dX4_close_111 : decode cX4_close 111 = .ok (.iconst 1, 1) := by decide +kernel
theorem dX4_close_112 : decode cX4_close 112 = .ok (.isub, 1) := by decide +kernel
theorem dX4_close_113 : decode cX4_close 113 = .ok (.iaload, 1) := by decide +kernel
theorem dX4_close_114 : decode cX4_close 114 = .ok (.iconst 2, 1) := by decide +kernel
theorem dX4_close_115 : decode cX4_close 115 = .ok (.if_icmp .ne 29, 3) := by decide +kernel
theorem dX4_close_118 : decode cX4_close 118 = .ok (.aload_n 0, 1) := by decide +kernel
theorem dX4_close_119 : decode cX4_close 119 = .ok (.dup, 1) := by decide +kernel
theorem dX4_close_120 : decode cX4_close 120 = .ok (.getfield 61, 3) := by decide +kernel
theorem dX4_close_123 : decode cX4_close 123 = .ok (.iconst 1, 1) := by decide +kernel
theorem dX4_close_124 : decode cX4_close 124 = .ok (.isub, 1) := by decide +kernel
theorem dX4_close_125 : decode cX4_close 125 = .ok (.putfield 61, 3) := by decide +kernel
theorem dX4_close_128 : decode cX4_close 128 = .ok (.aload_n 0, 1) := by decide +kernel
theorem dX4_close_129 : decode cX4_close 129 = .ok (.aload_n 0, 1) := by decide +kernel
theorem dX4_close_130 : decode cX4_close 130 = .ok (.getfield 32, 3) := by decide +kernel
theorem dX4_close_133 : decode cX4_close 133 = .ok (.aload_n 0, 1) := by decide +kernel
theorem dX4_close_134 : decode cX4_close 134 = .ok (.getfield 61, 3) := by decide +kernel
theorem dX4_close_137 : decode cX4_close 137 = .ok (.iaload, 1) := by decide +kernel
theorem dX4_close_138 : decode cX4_close 138 = .ok (.putfield 58, 3) := by decide +kernel
theorem dX4_close_141 : decode cX4_close 141 = .ok (.goto (-45), 3) := by decide +kernel
theorem dX4_close_144 : decode cX4_close 144 = .ok (.aload_n 0, 1) := by decide +kernel
theorem dX4_close_145 : decode cX4_close 145 = .ok (.getfield 61, 3) := by decide +kernel
theorem dX4_close_148 : decode cX4_close 148 = .ok (.ifCond .ne 11, 3) := by decide +kernel
theorem dX4_close_151 : decode cX4_close 151 = .ok (.aload_n 0, 1) := by decide +kernel
theorem dX4_close_152 : decode cX4_close 152 = .ok (.iconst 1, 1) := by decide +kernel
theorem dX4_close_153 : decode cX4_close 153 = .ok (.putfield 64, 3) := by decide +kernel
theorem dX4_close_156 : decode cX4_close 156 = .ok (.goto 51, 3) := by decide +kernel
theorem dX4_close_159 : decode cX4_close 159 = .ok (.aload_n 0, 1) := by decide +kernel
theorem dX4_close_160 : decode cX4_close 160 = .ok (.getfield 61, 3) := by decide +kernel
theorem dX4_close_163 : decode cX4_close 163 = .ok (.iconst 1, 1) := by decide +kernel
theorem dX4_close_164 : decode cX4_close 164 = .ok (.isub, 1) := by decide +kernel
theorem dX4_close_165 : decode cX4_close 165 = .ok (.istore_n 3, 1) := by decide +kernel
theorem dX4_close_166 : decode cX4_close 166 = .ok (.aload_n 0, 1) := by decide +kernel
theorem dX4_close_167 : decode cX4_close 167 = .ok (.aload_n 0, 1) := by decide +kernel
theorem dX4_close_168 : decode cX4_close 168 = .ok (.getfield 32, 3) := by decide +kernel
theorem dX4_close_171 : decode cX4_close 171 = .ok (.iload_n 3, 1) := by decide +kernel
theorem dX4_close_172 : decode cX4_close 172 = .ok (.iaload, 1) := by decide +kernel
theorem dX4_close_173 : decode cX4_close 173 = .ok (.putfield 58, 3) := by decide +kernel
theorem dX4_close_176 : decode cX4_close 176 = .ok (.aload_n 0, 1) := by decide +kernel
theorem dX4_close_177 : decode cX4_close 177 = .ok (.getfield 29, 3) := by decide +kernel
theorem dX4_close_180 : decode cX4_close 180 = .ok (.iload_n 3, 1) := by decide +kernel
theorem dX4_close_181 : decode cX4_close 181 = .ok (.iconst 2, 1) := by decide +kernel
theorem dX4_close_182 : decode cX4_close 182 = .ok (.iastore, 1) := by decide +kernel
theorem dX4_close_183 : decode cX4_close 183 = .ok (.aload_n 0, 1) := by decide +kernel
theorem dX4_close_184 : decode cX4_close 184 = .ok (.aload_n 0, 1) := by decide +kernel
theorem dX4_close_185 : decode cX4_close 185 = .ok (.getfield 23, 3) := by decide +kernel
theorem dX4_close_188 : decode cX4_close 188 = .ok (.iload_n 3, 1) := by decide +kernel
theorem dX4_close_189 : decode cX4_close 189 = .ok (.iaload, 1) := by decide +kernel
theorem dX4_close_190 : decode cX4_close 190 = .ok (.ldc2_w 109, 3) := by decide +kernel
theorem dX4_close_193 : decode cX4_close 193 = .ok (.aload_n 0, 1) := by decide +kernel
theorem dX4_close_194 : decode cX4_close 194 = .ok (.getfield 26, 3) := by decide +kernel
theorem dX4_close_197 : decode cX4_close 197 = .ok (.iload_n 3, 1) := by decide +kernel
theorem dX4_close_198 : decode cX4_close 198 = .ok (.iaload, 1) := by decide +kernel
theorem dX4_close_199 : decode cX4_close 199 = .ok (.ineg, 1) := by decide +kernel
theorem dX4_close_200 : decode cX4_close 200 = .ok (.i2l, 1) := by decide +kernel
theorem dX4_close_201 : decode cX4_close 201 = .ok (.lconst 1, 1) := by decide +kernel
theorem dX4_close_202 : decode cX4_close 202 = .ok (.lsub, 1) := by decide +kernel
theorem dX4_close_203 : decode cX4_close 203 = .ok (.invokevirtual 113, 3) := by decide +kernel
theorem dX4_close_206 : decode cX4_close 206 = .ok (.pop, 1) := by decide +kernel
theorem dX4_close_207 : decode cX4_close 207 = .ok (.aload_n 0, 1) := by decide +kernel
theorem dX4_close_208 : decode cX4_close 208 = .ok (.getfield 61, 3) := by decide +kernel
theorem dX4_close_211 : decode cX4_close 211 = .ok (.ireturn, 1) := by decide +kernel
theorem dX4_isInCase_0 : decode cX4_isInCase 0 = .ok (.aload_n 0, 1) := by decide +kernel
theorem dX4_isInCase_1 : decode cX4_isInCase 1 = .ok (.getfield 44, 3) := by decide +kernel
theorem dX4_isInCase_4 : decode cX4_isInCase 4 = .ok (.aload_n 0, 1) := by decide +kernel
theorem dX4_isInCase_5 : decode cX4_isInCase 5 = .ok (.getfield 23, 3) := by decide +kernel
theorem dX4_isInCase_8 : decode cX4_isInCase 8 = .ok (.iload_n 1, 1) := by decide +kernel
theorem dX4_isInCase_9 : decode cX4_isInCase 9 = .ok (.iaload, 1) := by decide +kernel
theorem dX4_isInCase_10 : decode cX4_isInCase 10 = .ok (.iaload, 1) := by decide +kernel
theorem dX4_isInCase_11 : decode cX4_isInCase 11 = .ok (.aload_n 0, 1) := by decide +kernel
theorem dX4_isInCase_12 : decode cX4_isInCase 12 = .ok (.getfield 26, 3) := by decide +kernel
theorem dX4_isInCase_15 : decode cX4_isInCase 15 = .ok (.iload_n 1, 1) := by decide +kernel
theorem dX4_isInCase_16 : decode cX4_isInCase 16 = .ok (.iaload, 1) := by decide +kernel
theorem dX4_isInCase_17 : decode cX4_isInCase 17 = .ok (.if_icmp .gt 7, 3) := by decide +kernel
theorem dX4_isInCase_20 : decode cX4_isInCase 20 = .ok (.iconst 1, 1) := by decide +kernel
theorem dX4_isInCase_21 : decode cX4_isInCase 21 = .ok (.goto 4, 3) := by decide +kernel
theorem dX4_isInCase_24 : decode cX4_isInCase 24 = .ok (.iconst 0, 1) := by decide +kernel
theorem dX4_isInCase_25 : decode cX4_isInCase 25 = .ok (.istore_n 3, 1) := by decide +kernel
theorem dX4_isInCase_26 : decode cX4_isInCase 26 = .ok (.iload_n 3, 1) := by decide +kernel
theorem dX4_isInCase_27 : decode cX4_isInCase 27 = .ok (.iload_n 2, 1) := by decide +kernel
theorem dX4_isInCase_28 : decode cX4_isInCase 28 = .ok (.iconst 1, 1) := by decide +kernel
theorem dX4_isInCase_29 : decode cX4_isInCase 29 = .ok (.if_icmp .ne 7, 3) := by decide +kernel
theorem dX4_isInCase_32 : decode cX4_isInCase 32 = .ok (.iconst 1, 1) := by decide +kernel
theorem dX4_isInCase_33 : decode cX4_isInCase 33 = .ok (.goto 4, 3) := by decide +kernel
theorem dX4_isInCase_36 : decode cX4_isInCase 36 = .ok (.iconst 0, 1) := by decide +kernel
theorem dX4_isInCase_37 : decode cX4_isInCase 37 = .ok (.if_icmp .ne 7, 3) := by decide +kernel
theorem dX4_isInCase_40 : decode cX4_isInCase 40 = .ok (.iconst 1, 1) := by decide +kernel
theorem dX4_isInCase_41 : decode cX4_isInCase 41 = .ok (.goto 4, 3) := by decide +kernel
theorem dX4_isInCase_44 : decode cX4_isInCase 44 = .ok (.iconst 0, 1) := by decide +kernel
theorem dX4_isInCase_45 : decode cX4_isInCase 45 = .ok (.ireturn, 1) := by decide +kernel
set_option maxRecDepth 20000 in
theorem ggX4_isOpen_X4_isInCase : GoodIn wsX4_isOpen wsX4_isInCase := goodIn_r _ [7, 8, 9, 10, 11, 12, 13, 14, 15, 16, 17, 18, 19, 20, 21, 22, 23, 24, 25, 26, 27, 28, 29, 30, 31] (by decide +kernel) (by decide +kernel)
set_option maxRecDepth 20000 in
theorem gX4_isOpen_X4_isInCase : GoodIn wsX4_isOpen (wsV RX4 125 RX4 yX4_isInCase wsX4_isInCase) := goodIn_app (goodIn_of _ (by decide +kernel)) ggX4_isOpen_X4_isInCase
theorem dX4_isOpen_0 : decode cX4_isOpen 0 = .ok (.iconst 0, 1) := by decide +kernel
theorem dX4_isOpen_1 : decode cX4_isOpen 1 = .ok (.istore_n 1, 1) := by decide +kernel
theorem dX4_isOpen_2 : decode cX4_isOpen 2 = .ok (.iload_n 1, 1) := by decide +kernel
theorem dX4_isOpen_3 : decode cX4_isOpen 3 = .ok (.aload_n 0, 1) := by decide +kernel
theorem dX4_isOpen_4 : decode cX4_isOpen 4 = .ok (.getfield 61, 3) := by decide +kernel
theorem dX4_isOpen_7 : decode cX4_isOpen 7 = .ok (.if_icmp .ge 39, 3) := by decide +kernel
theorem dX4_isOpen_10 : decode cX4_isOpen 10 = .ok (.aload_n 0, 1) := by decide +kernel
theorem dX4_isOpen_11 : decode cX4_isOpen 11 = .ok (.iload_n 1, 1) := by decide +kernel
theorem dX4_isOpen_12 : decode cX4_isOpen 12 = .ok (.aload_n 0, 1) := by decide +kernel
theorem dX4_isOpen_13 : decode cX4_isOpen 13 = .ok (.getfield 29, 3) := by decide +kernel
theorem dX4_isOpen_16 : decode cX4_isOpen 16 = .ok (.iload_n 1, 1) := by decide +kernel
theorem dX4_isOpen_17 : decode cX4_isOpen 17 = .ok (.iaload, 1) := by decide +kernel
theorem dX4_isOpen_18 : decode cX4_isOpen 18 = .ok (.invokevirtual 125, 3) := by decide +kernel
theorem dX4_isOpen_21 : decode cX4_isOpen 21 = .ok (.ifCond .ne 19, 3) := by decide +kernel
theorem dX4_isOpen_24 : decode cX4_isOpen 24 = .ok (.aload_n 0, 1) := by decide +kernel
theorem dX4_isOpen_25 : decode cX4_isOpen 25 = .ok (.getfield 29, 3) := by decide +kernel
theorem dX4_isOpen_28 : decode cX4_isOpen 28 = .ok (.iload_n 1, 1) := by decide +kernel
theorem dX4_isOpen_29 : decode cX4_isOpen 29 = .ok (.iaload, 1) := by decide +kernel
theorem dX4_isOpen_30 : decode cX4_isOpen 30 = .ok (.iconst 1, 1) := by decide +kernel
theorem dX4_isOpen_31 : decode cX4_isOpen 31 = .ok (.if_icmp .ne 7, 3) := by decide +kernel
theorem dX4_isOpen_34 : decode cX4_isOpen 34 = .ok (.iconst 1, 1) := by decide +kernel
theorem dX4_isOpen_35 : decode cX4_isOpen 35 = .ok (.goto 4, 3) := by decide +kernel
theorem dX4_isOpen_38 : decode cX4_isOpen 38 = .ok (.iconst 0, 1) := by decide +kernel
theorem dX4_isOpen_39 : decode cX4_isOpen 39 = .ok (.ireturn, 1) := by decide +kernel
theorem dX4_isOpen_40 : decode cX4_isOpen 40 = .ok (.iinc 1 1, 3) := by decide +kernel
theorem dX4_isOpen_43 : decode cX4_isOpen 43 = .ok (.goto (-41), 3) := by decide +kernel
theorem dX4_isOpen_46 : decode cX4_isOpen 46 = .ok (.iconst 1, 1) := by decide +kernel
theorem dX4_isOpen_47 : decode cX4_isOpen 47 = .ok (.ireturn, 1) := by decide +kernel
set_option maxRecDepth 20000 in
theorem ggX4_finish_X4_addUp : GoodIn wsX4_finish wsX4_addUp := goodIn_r _ [10, 11, 12, 13, 2, 30, 31, 32, 33, 34, 35, 36, 37, 38, 39, 40, 41, 42, 43, 44, 45, 46, 47, 48, 49, 50] (by decide +kernel) (by decide +kernel)
set_option maxRecDepth 20000 in
theorem gX4_finish_X4_addUp : GoodIn wsX4_finish (wsV RX4 88 RX4 yX4_addUp wsX4_addUp) := goodIn_app (goodIn_of _ (by decide +kernel)) ggX4_finish_X4_addUp
set_option maxRecDepth 20000 in
theorem ggX4_finish_X4_holds : GoodIn wsX4_finish wsX4_holds := goodIn_r _ [17, 11, 12, 13, 18, 30, 31, 32, 33, 34, 35, 36, 37, 38, 39, 40, 41, 42, 43, 44, 45, 46, 47, 48, 49, 50] (by decide +kernel) (by decide +kernel)
set_option maxRecDepth 20000 in
theorem gX4_finish_X4_holds : GoodIn wsX4_finish (wsV RX4 91 RX4 yX4_holds wsX4_holds) := goodIn_app (goodIn_of _ (by decide +kernel)) ggX4_finish_X4_holds
set_option maxRecDepth 20000 in
theorem ggX4_finish_X4_isOpen : GoodIn wsX4_finish wsX4_isOpen := goodIn_r _ [22, 3, 23, 24, 25, 26, 9, 27, 2, 28, 29, 30, 31, 32, 33, 34, 35, 36, 37, 38, 39, 40, 41, 42, 43, 44, 45, 46, 47, 48, 49, 50] (by decide +kernel) (by decide +kernel)
set_option maxRecDepth 20000 in
theorem gX4_finish_X4_isOpen : GoodIn wsX4_finish (wsV RX4 129 RX4 yX4_isOpen wsX4_isOpen) := goodIn_app (goodIn_of _ (by decide +kernel)) ggX4_finish_X4_isOpen
theorem dX4_finish_0 : decode cX4_finish 0 = .ok (.aload_n 0, 1) := by decide +kernel
theorem dX4_finish_1 : decode cX4_finish 1 = .ok (.getfield 64, 3) := by decide +kernel
theorem dX4_finish_4 : decode cX4_finish 4 = .ok (.ifCond .eq 5, 3) := by decide +kernel
theorem dX4_finish_7 : decode cX4_finish 7 = .ok (.iconst (-1), 1) := by decide +kernel
theorem dX4_finish_8 : decode cX4_finish 8 = .ok (.ireturn, 1) := by decide +kernel
theorem dX4_finish_9 : decode cX4_finish 9 = .ok (.bipush (-15), 2) := by decide +kernel
theorem dX4_finish_11 : decode cX4_finish 11 = .ok (.istore_n 1, 1) := by decide +kernel
theorem dX4_finish_12 : decode cX4_finish 12 = .ok (.iload_n 1, 1) := by decide +kernel
theorem dX4_finish_13 : decode cX4_finish 13 = .ok (.bipush 15, 2) := by decide +kernel
theorem dX4_finish_15 : decode cX4_finish 15 = .ok (.if_icmp .gt 107, 3) := by decide +kernel
theorem dX4_finish_18 : decode cX4_finish 18 = .ok (.bipush (-15), 2) := by decide +kernel
theorem dX4_finish_20 : decode cX4_finish 20 = .ok (.istore_n 2, 1) := by decide +kernel
theorem dX4_finish_21 : decode cX4_finish 21 = .ok (.iload_n 2, 1) := by decide +kernel
theorem dX4_finish_22 : decode cX4_finish 22 = .ok (.bipush 15, 2) := by decide +kernel
theorem dX4_finish_24 : decode cX4_finish 24 = .ok (.if_icmp .gt 92, 3) := by decide +kernel
theorem dX4_finish_27 : decode cX4_finish 27 = .ok (.bipush (-15), 2) := by decide +kernel
theorem dX4_finish_29 : decode cX4_finish 29 = .ok (.istore_n 3, 1) := by decide +kernel
theorem dX4_finish_30 : decode cX4_finish 30 = .ok (.iload_n 3, 1) := by decide +kernel
theorem dX4_finish_31 : decode cX4_finish 31 = .ok (.bipush 15, 2) := by decide +kernel
theorem dX4_finish_33 : decode cX4_finish 33 = .ok (.if_icmp .gt 77, 3) := by decide +kernel
theorem dX4_finish_36 : decode cX4_finish 36 = .ok (.aload_n 0, 1) := by decide +kernel
theorem dX4_finish_37 : decode cX4_finish 37 = .ok (.getfield 44, 3) := by decide +kernel
theorem dX4_finish_40 : decode cX4_finish 40 = .ok (.iconst 0, 1) := by decide +kernel
theorem dX4_finish_41 : decode cX4_finish 41 = .ok (.iload_n 1, 1) := by decide +kernel
theorem dX4_finish_42 : decode cX4_finish 42 = .ok (.iastore, 1) := by decide +kernel
theorem dX4_finish_43 : decode cX4_finish 43 = .ok (.aload_n 0, 1) := by decide +kernel
theorem dX4_finish_44 : decode cX4_finish 44 = .ok (.getfield 44, 3) := by decide +kernel
theorem dX4_finish_47 : decode cX4_finish 47 = .ok (.iconst 1, 1) := by decide +kernel
theorem dX4_finish_48 : decode cX4_finish 48 = .ok (.iload_n 2, 1) := by decide +kernel
theorem dX4_finish_49 : decode cX4_finish 49 = .ok (.iastore, 1) := by decide +kernel
theorem dX4_finish_50 : decode cX4_finish 50 = .ok (.aload_n 0, 1) := by decide +kernel
theorem dX4_finish_51 : decode cX4_finish 51 = .ok (.getfield 44, 3) := by decide +kernel
theorem dX4_finish_54 : decode cX4_finish 54 = .ok (.iconst 2, 1) := by decide +kernel
theorem dX4_finish_55 : decode cX4_finish 55 = .ok (.iload_n 3, 1) := by decide +kernel
theorem dX4_finish_56 : decode cX4_finish 56 = .ok (.iastore, 1) := by decide +kernel
theorem dX4_finish_57 : decode cX4_finish 57 = .ok (.aload_n 0, 1) := by decide +kernel
theorem dX4_finish_58 : decode cX4_finish 58 = .ok (.invokevirtual 88, 3) := by decide +kernel
theorem dX4_finish_61 : decode cX4_finish 61 = .ok (.bipush (-15), 2) := by decide +kernel
theorem dX4_finish_63 : decode cX4_finish 63 = .ok (.istore 4, 2) := by decide +kernel
theorem dX4_finish_65 : decode cX4_finish 65 = .ok (.iload 4, 2) := by decide +kernel
theorem dX4_finish_67 : decode cX4_finish 67 = .ok (.bipush 15, 2) := by decide +kernel
theorem dX4_finish_69 : decode cX4_finish 69 = .ok (.if_icmp .gt 35, 3) := by decide +kernel
theorem dX4_finish_72 : decode cX4_finish 72 = .ok (.aload_n 0, 1) := by decide +kernel
theorem dX4_finish_73 : decode cX4_finish 73 = .ok (.getfield 44, 3) := by decide +kernel
theorem dX4_finish_76 : decode cX4_finish 76 = .ok (.iconst 3, 1) := by decide +kernel
theorem dX4_finish_77 : decode cX4_finish 77 = .ok (.iload 4, 2) := by decide +kernel
theorem dX4_finish_79 : decode cX4_finish 79 = .ok (.iastore, 1) := by decide +kernel
theorem dX4_finish_80 : decode cX4_finish 80 = .ok (.aload_n 0, 1) := by decide +kernel
theorem dX4_finish_81 : decode cX4_finish 81 = .ok (.iload 4, 2) := by decide +kernel
theorem dX4_finish_83 : decode cX4_finish 83 = .ok (.invokevirtual 91, 3) := by decide +kernel
theorem dX4_finish_86 : decode cX4_finish 86 = .ok (.ifCond .eq 12, 3) := by decide +kernel
theorem dX4_finish_89 : decode cX4_finish 89 = .ok (.aload_n 0, 1) := by decide +kernel
theorem dX4_finish_90 : decode cX4_finish 90 = .ok (.invokevirtual 129, 3) := by decide +kernel
theorem dX4_finish_93 : decode cX4_finish 93 = .ok (.ifCond .eq 5, 3) := by decide +kernel
theorem dX4_finish_96 : decode cX4_finish 96 = .ok (.iconst 0, 1) := by decide +kernel
theorem dX4_finish_97 : decode cX4_finish 97 = .ok (.ireturn, 1) := by decide +kernel
theorem dX4_finish_98 : decode cX4_finish 98 = .ok (.iinc 4 1, 3) := by decide +kernel
theorem dX4_finish_101 : decode cX4_finish 101 = .ok (.goto (-36), 3) := by decide +kernel
theorem dX4_finish_104 : decode cX4_finish 104 = .ok (.iinc 3 1, 3) := by decide +kernel
theorem dX4_finish_107 : decode cX4_finish 107 = .ok (.goto (-77), 3) := by decide +kernel
theorem dX4_finish_110 : decode cX4_finish 110 = .ok (.iinc 2 1, 3) := by decide +kernel
theorem dX4_finish_113 : decode cX4_finish 113 = .ok (.goto (-92), 3) := by decide +kernel
theorem dX4_finish_116 : decode cX4_finish 116 = .ok (.iinc 1 1, 3) := by decide +kernel
theorem dX4_finish_119 : decode cX4_finish 119 = .ok (.goto (-107), 3) := by decide +kernel
theorem dX4_finish_122 : decode cX4_finish 122 = .ok (.aload_n 0, 1) := by decide +kernel
theorem dX4_finish_123 : decode cX4_finish 123 = .ok (.aload_n 0, 1) := by decide +kernel
theorem dX4_finish_124 : decode cX4_finish 124 = .ok (.getfield 61, 3) := by decide +kernel
theorem dX4_finish_127 : decode cX4_finish 127 = .ok (.ifCond .le 12, 3) := by decide +kernel
theorem dX4_finish_130 : decode cX4_finish 130 = .ok (.aload_n 0, 1) := by decide +kernel
theorem dX4_finish_131 : decode cX4_finish 131 = .ok (.getfield 32, 3) := by decide +kernel
theorem dX4_finish_134 : decode cX4_finish 134 = .ok (.iconst 0, 1) := by decide +kernel
theorem dX4_finish_135 : decode cX4_finish 135 = .ok (.iaload, 1) := by decide +kernel
theorem dX4_finish_136 : decode cX4_finish 136 = .ok (.goto 7, 3) := by decide +kernel
theorem dX4_finish_139 : decode cX4_finish 139 = .ok (.aload_n 0, 1) := by decide +kernel
theorem dX4_finish_140 : decode cX4_finish 140 = .ok (.getfield 58, 3) := by decide +kernel
theorem dX4_finish_143 : decode cX4_finish 143 = .ok (.putfield 58, 3) := by decide +kernel
theorem dX4_finish_146 : decode cX4_finish 146 = .ok (.aload_n 0, 1) := by decide +kernel
theorem dX4_finish_147 : decode cX4_finish 147 = .ok (.iconst 0, 1) := by decide +kernel
theorem dX4_finish_148 : decode cX4_finish 148 = .ok (.putfield 61, 3) := by decide +kernel
theorem dX4_finish_151 : decode cX4_finish 151 = .ok (.aload_n 0, 1) := by decide +kernel
theorem dX4_finish_152 : decode cX4_finish 152 = .ok (.iconst 1, 1) := by decide +kernel
theorem dX4_finish_153 : decode cX4_finish 153 = .ok (.putfield 64, 3) := by decide +kernel
theorem dX4_finish_156 : decode cX4_finish 156 = .ok (.iconst 1, 1) := by decide +kernel
theorem dX4_finish_157 : decode cX4_finish 157 = .ok (.ireturn, 1) := by decide +kernel
theorem dX4_lines_0 : decode cX4_lines 0 = .ok (.aload_n 0, 1) := by decide +kernel
theorem dX4_lines_1 : decode cX4_lines 1 = .ok (.getfield 58, 3) := by decide +kernel
theorem dX4_lines_4 : decode cX4_lines 4 = .ok (.ireturn, 1) := by decide +kernel
set_option maxRecDepth 20000 in
theorem ggX4_line_X4_isLine : GoodIn wsX4_line wsX4_isLine := goodIn_r _ [7, 8, 9, 10, 11, 12, 13, 14, 15, 16, 17, 18, 19, 20, 21, 22, 23, 24, 25, 26, 27, 28, 29] (by decide +kernel) (by decide +kernel)
set_option maxRecDepth 20000 in
theorem gX4_line_X4_isLine : GoodIn wsX4_line (wsV RX4 117 RX4 yX4_isLine wsX4_isLine) := goodIn_app (goodIn_of _ (by decide +kernel)) ggX4_line_X4_isLine
theorem dX4_line_0 : decode cX4_line 0 = .ok (.aload_n 0, 1) := by decide +kernel
theorem dX4_line_1 : decode cX4_line 1 = .ok (.iload_n 1, 1) := by decide +kernel
theorem dX4_line_2 : decode cX4_line 2 = .ok (.invokevirtual 117, 3) := by decide +kernel
theorem dX4_line_5 : decode cX4_line 5 = .ok (.ifCond .eq 25, 3) := by decide +kernel
theorem dX4_line_8 : decode cX4_line 8 = .ok (.iload_n 2, 1) := by decide +kernel
theorem dX4_line_9 : decode cX4_line 9 = .ok (.ifCond .lt 21, 3) := by decide +kernel
theorem dX4_line_12 : decode cX4_line 12 = .ok (.iload_n 2, 1) := by decide +kernel
theorem dX4_line_13 : decode cX4_line 13 = .ok (.iconst 4, 1) := by decide +kernel
theorem dX4_line_14 : decode cX4_line 14 = .ok (.if_icmp .gt 16, 3) := by decide +kernel
theorem dX4_line_17 : decode cX4_line 17 = .ok (.aload_n 0, 1) := by decide +kernel
theorem dX4_line_18 : decode cX4_line 18 = .ok (.getfield 19, 3) := by decide +kernel
theorem dX4_line_21 : decode cX4_line 21 = .ok (.iconst 5, 1) := by decide +kernel
theorem dX4_line_22 : decode cX4_line 22 = .ok (.iload_n 1, 1) := by decide +kernel
theorem dX4_line_23 : decode cX4_line 23 = .ok (.imul, 1) := by decide +kernel
theorem dX4_line_24 : decode cX4_line 24 = .ok (.iload_n 2, 1) := by decide +kernel
theorem dX4_line_25 : decode cX4_line 25 = .ok (.iadd, 1) := by decide +kernel
theorem dX4_line_26 : decode cX4_line 26 = .ok (.laload, 1) := by decide +kernel
theorem dX4_line_27 : decode cX4_line 27 = .ok (.goto 6, 3) := by decide +kernel
theorem dX4_line_30 : decode cX4_line 30 = .ok (.ldc2_w 132, 3) := by decide +kernel
theorem dX4_line_33 : decode cX4_line 33 = .ok (.lreturn, 1) := by decide +kernel
theorem dX4_ofSplit_0 : decode cX4_ofSplit 0 = .ok (.iload_n 1, 1) := by decide +kernel
theorem dX4_ofSplit_1 : decode cX4_ofSplit 1 = .ok (.ifCond .lt 11, 3) := by decide +kernel
theorem dX4_ofSplit_4 : decode cX4_ofSplit 4 = .ok (.iload_n 1, 1) := by decide +kernel
theorem dX4_ofSplit_5 : decode cX4_ofSplit 5 = .ok (.aload_n 0, 1) := by decide +kernel
theorem dX4_ofSplit_6 : decode cX4_ofSplit 6 = .ok (.getfield 61, 3) := by decide +kernel
theorem dX4_ofSplit_9 : decode cX4_ofSplit 9 = .ok (.if_icmp .lt 6, 3) := by decide +kernel
theorem dX4_ofSplit_12 : decode cX4_ofSplit 12 = .ok (.ldc 84, 2) := by decide +kernel
theorem dX4_ofSplit_14 : decode cX4_ofSplit 14 = .ok (.ireturn, 1) := by decide +kernel
theorem dX4_ofSplit_15 : decode cX4_ofSplit 15 = .ok (.iload_n 2, 1) := by decide +kernel
theorem dX4_ofSplit_16 : decode cX4_ofSplit 16 = .ok (.ifCond .ne 12, 3) := by decide +kernel
theorem dX4_ofSplit_19 : decode cX4_ofSplit 19 = .ok (.aload_n 0, 1) := by decide +kernel
theorem dX4_ofSplit_20 : decode cX4_ofSplit 20 = .ok (.getfield 23, 3) := by decide +kernel
theorem dX4_ofSplit_23 : decode cX4_ofSplit 23 = .ok (.iload_n 1, 1) := by decide +kernel
theorem dX4_ofSplit_24 : decode cX4_ofSplit 24 = .ok (.iaload, 1) := by decide +kernel
theorem dX4_ofSplit_25 : decode cX4_ofSplit 25 = .ok (.goto 47, 3) := by decide +kernel
theorem dX4_ofSplit_28 : decode cX4_ofSplit 28 = .ok (.iload_n 2, 1) := by decide +kernel
theorem dX4_ofSplit_29 : decode cX4_ofSplit 29 = .ok (.iconst 1, 1) := by decide +kernel
theorem dX4_ofSplit_30 : decode cX4_ofSplit 30 = .ok (.if_icmp .ne 12, 3) := by decide +kernel
theorem dX4_ofSplit_33 : decode cX4_ofSplit 33 = .ok (.aload_n 0, 1) := by decide +kernel
theorem dX4_ofSplit_34 : decode cX4_ofSplit 34 = .ok (.getfield 26, 3) := by decide +kernel
theorem dX4_ofSplit_37 : decode cX4_ofSplit 37 = .ok (.iload_n 1, 1) := by decide +kernel
theorem dX4_ofSplit_38 : decode cX4_ofSplit 38 = .ok (.iaload, 1) := by decide +kernel
theorem dX4_ofSplit_39 : decode cX4_ofSplit 39 = .ok (.goto 33, 3) := by decide +kernel
theorem dX4_ofSplit_42 : decode cX4_ofSplit 42 = .ok (.iload_n 2, 1) := by decide +kernel
theorem dX4_ofSplit_43 : decode cX4_ofSplit 43 = .ok (.iconst 2, 1) := by decide +kernel
theorem dX4_ofSplit_44 : decode cX4_ofSplit 44 = .ok (.if_icmp .ne 12, 3) := by decide +kernel
theorem dX4_ofSplit_47 : decode cX4_ofSplit 47 = .ok (.aload_n 0, 1) := by decide +kernel
theorem dX4_ofSplit_48 : decode cX4_ofSplit 48 = .ok (.getfield 29, 3) := by decide +kernel
theorem dX4_ofSplit_51 : decode cX4_ofSplit 51 = .ok (.iload_n 1, 1) := by decide +kernel
theorem dX4_ofSplit_52 : decode cX4_ofSplit 52 = .ok (.iaload, 1) := by decide +kernel
theorem dX4_ofSplit_53 : decode cX4_ofSplit 53 = .ok (.goto 19, 3) := by decide +kernel
theorem dX4_ofSplit_56 : decode cX4_ofSplit 56 = .ok (.iload_n 2, 1) := by decide +kernel
theorem dX4_ofSplit_57 : decode cX4_ofSplit 57 = .ok (.iconst 3, 1) := by decide +kernel
theorem dX4_ofSplit_58 : decode cX4_ofSplit 58 = .ok (.if_icmp .ne 12, 3) := by decide +kernel
theorem dX4_ofSplit_61 : decode cX4_ofSplit 61 = .ok (.aload_n 0, 1) := by decide +kernel
theorem dX4_ofSplit_62 : decode cX4_ofSplit 62 = .ok (.getfield 32, 3) := by decide +kernel
theorem dX4_ofSplit_65 : decode cX4_ofSplit 65 = .ok (.iload_n 1, 1) := by decide +kernel
theorem dX4_ofSplit_66 : decode cX4_ofSplit 66 = .ok (.iaload, 1) := by decide +kernel
theorem dX4_ofSplit_67 : decode cX4_ofSplit 67 = .ok (.goto 5, 3) := by decide +kernel
theorem dX4_ofSplit_70 : decode cX4_ofSplit 70 = .ok (.ldc 84, 2) := by decide +kernel
theorem dX4_ofSplit_72 : decode cX4_ofSplit 72 = .ok (.ireturn, 1) := by decide +kernel
theorem dX4_count_0 : decode cX4_count 0 = .ok (.iload_n 1, 1) := by decide +kernel
theorem dX4_count_1 : decode cX4_count 1 = .ok (.tableswitch 68 0 4 #[35, 40, 45, 58, 63], 35) := by decide +kernel
theorem dX4_count_36 : decode cX4_count 36 = .ok (.aload_n 0, 1) := by decide +kernel
theorem dX4_count_37 : decode cX4_count 37 = .ok (.getfield 50, 3) := by decide +kernel
theorem dX4_count_40 : decode cX4_count 40 = .ok (.ireturn, 1) := by decide +kernel
theorem dX4_count_41 : decode cX4_count 41 = .ok (.aload_n 0, 1) := by decide +kernel
theorem dX4_count_42 : decode cX4_count 42 = .ok (.getfield 81, 3) := by decide +kernel
theorem dX4_count_45 : decode cX4_count 45 = .ok (.ireturn, 1) := by decide +kernel
theorem dX4_count_46 : decode cX4_count 46 = .ok (.aload_n 0, 1) := by decide +kernel
theorem dX4_count_47 : decode cX4_count 47 = .ok (.getfield 64, 3) := by decide +kernel
theorem dX4_count_50 : decode cX4_count 50 = .ok (.ifCond .eq 7, 3) := by decide +kernel
theorem dX4_count_53 : decode cX4_count 53 = .ok (.iconst 1, 1) := by decide +kernel
theorem dX4_count_54 : decode cX4_count 54 = .ok (.goto 4, 3) := by decide +kernel
theorem dX4_count_57 : decode cX4_count 57 = .ok (.iconst 0, 1) := by decide +kernel
theorem dX4_count_58 : decode cX4_count 58 = .ok (.ireturn, 1) := by decide +kernel
theorem dX4_count_59 : decode cX4_count 59 = .ok (.aload_n 0, 1) := by decide +kernel
theorem dX4_count_60 : decode cX4_count 60 = .ok (.getfield 61, 3) := by decide +kernel
theorem dX4_count_63 : decode cX4_count 63 = .ok (.ireturn, 1) := by decide +kernel
theorem dX4_count_64 : decode cX4_count 64 = .ok (.aload_n 0, 1) := by decide +kernel
theorem dX4_count_65 : decode cX4_count 65 = .ok (.getfield 67, 3) := by decide +kernel
theorem dX4_count_68 : decode cX4_count 68 = .ok (.ireturn, 1) := by decide +kernel
theorem dX4_count_69 : decode cX4_count 69 = .ok (.iconst (-1), 1) := by decide +kernel
theorem dX4_count_70 : decode cX4_count 70 = .ok (.ireturn, 1) := by decide +kernel
