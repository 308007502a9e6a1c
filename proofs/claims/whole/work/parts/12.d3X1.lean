theorem dX1_init_0 : decode cX1_init 0 = .ok (.aload_n 0, 1) := by decide +kernel
theorem dX1_init_1 : decode cX1_init 1 = .ok (.invokespecial 3, 3) := by decide +kernel
theorem dX1_init_4 : decode cX1_init 4 = .ok (.aload_n 0, 1) := by decide +kernel
theorem dX1_init_5 : decode cX1_init 5 = .ok (.bipush 96, 2) := by decide +kernel
theorem dX1_init_7 : decode cX1_init 7 = .ok (.newarray .int, 2) := by decide +kernel
theorem dX1_init_9 : decode cX1_init 9 = .ok (.putfield 11, 3) := by decide +kernel
theorem dX1_init_12 : decode cX1_init 12 = .ok (.aload_n 0, 1) := by decide +kernel
theorem dX1_init_13 : decode cX1_init 13 = .ok (.bipush 8, 2) := by decide +kernel
theorem dX1_init_15 : decode cX1_init 15 = .ok (.newarray .int, 2) := by decide +kernel
theorem dX1_init_17 : decode cX1_init 17 = .ok (.putfield 15, 3) := by decide +kernel
theorem dX1_init_20 : decode cX1_init 20 = .ok (.aload_n 0, 1) := by decide +kernel
theorem dX1_init_21 : decode cX1_init 21 = .ok (.iconst 0, 1) := by decide +kernel
theorem dX1_init_22 : decode cX1_init 22 = .ok (.putfield 18, 3) := by decide +kernel
theorem dX1_init_25 : decode cX1_init 25 = .ok (.aload_n 0, 1) := by decide +kernel
theorem dX1_init_26 : decode cX1_init 26 = .ok (.iconst 0, 1) := by decide +kernel
theorem dX1_init_27 : decode cX1_init 27 = .ok (.putfield 22, 3) := by decide +kernel
theorem dX1_init_30 : decode cX1_init 30 = .ok (.return_, 1) := by decide +kernel
set_option maxRecDepth 20000 in
theorem ggX1_append_X1_isFactor : GoodIn wsX1_append wsX1_isFactor := goodIn_r _ [6] (by decide +kernel) (by decide +kernel)
set_option maxRecDepth 20000 in
theorem gX1_append_X1_isFactor : GoodIn wsX1_append (va_wsS RX1 25 yX1_isFactor wsX1_isFactor) := goodIn_app (goodIn_of _ (by decide +kernel)) ggX1_append_X1_isFactor
theorem dX1_append_0 : decode cX1_append 0 = .ok (.iload_n 1, 1) := by decide +kernel
theorem dX1_append_1 : decode cX1_append 1 = .ok (.ifCond .lt 33, 3) := by decide +kernel
theorem dX1_append_4 : decode cX1_append 4 = .ok (.iload_n 1, 1) := by decide +kernel
theorem dX1_append_5 : decode cX1_append 5 = .ok (.iconst 1, 1) := by decide +kernel
theorem dX1_append_6 : decode cX1_append 6 = .ok (.if_icmp .gt 28, 3) := by decide +kernel
theorem dX1_append_9 : decode cX1_append 9 = .ok (.iload 6, 2) := by decide +kernel
theorem dX1_append_11 : decode cX1_append 11 = .ok (.sipush (-9999), 3) := by decide +kernel
theorem dX1_append_14 : decode cX1_append 14 = .ok (.if_icmp .lt 20, 3) := by decide +kernel
theorem dX1_append_17 : decode cX1_append 17 = .ok (.iload 6, 2) := by decide +kernel
theorem dX1_append_19 : decode cX1_append 19 = .ok (.sipush 9999, 3) := by decide +kernel
theorem dX1_append_22 : decode cX1_append 22 = .ok (.if_icmp .gt 12, 3) := by decide +kernel
theorem dX1_append_25 : decode cX1_append 25 = .ok (.aload_n 0, 1) := by decide +kernel
theorem dX1_append_26 : decode cX1_append 26 = .ok (.getfield 18, 3) := by decide +kernel
theorem dX1_append_29 : decode cX1_append 29 = .ok (.bipush 16, 2) := by decide +kernel
theorem dX1_append_31 : decode cX1_append 31 = .ok (.if_icmp .lt 5, 3) := by decide +kernel
theorem dX1_append_34 : decode cX1_append 34 = .ok (.iconst (-1), 1) := by decide +kernel
theorem dX1_append_35 : decode cX1_append 35 = .ok (.ireturn, 1) := by decide +kernel
theorem dX1_append_36 : decode cX1_append 36 = .ok (.iload_n 2, 1) := by decide +kernel
theorem dX1_append_37 : decode cX1_append 37 = .ok (.invokestatic 25, 3) := by decide +kernel
theorem dX1_append_40 : decode cX1_append 40 = .ok (.ifCond .eq 26, 3) := by decide +kernel
theorem dX1_append_43 : decode cX1_append 43 = .ok (.iload_n 3, 1) := by decide +kernel
theorem dX1_append_44 : decode cX1_append 44 = .ok (.invokestatic 25, 3) := by decide +kernel
theorem dX1_append_47 : decode cX1_append 47 = .ok (.ifCond .eq 19, 3) := by decide +kernel
theorem dX1_append_50 : decode cX1_append 50 = .ok (.iload 4, 2) := by decide +kernel
theorem dX1_append_52 : decode cX1_append 52 = .ok (.invokestatic 25, 3) := by decide +kernel
theorem dX1_append_55 : decode cX1_append 55 = .ok (.ifCond .eq 11, 3) := by decide +kernel
theorem dX1_append_58 : decode cX1_append 58 = .ok (.iload 5, 2) := by decide +kernel
theorem dX1_append_60 : decode cX1_append 60 = .ok (.invokestatic 25, 3) := by decide +kernel
theorem dX1_append_63 : decode cX1_append 63 = .ok (.ifCond .ne 5, 3) := by decide +kernel
theorem dX1_append_66 : decode cX1_append 66 = .ok (.iconst (-1), 1) := by decide +kernel
theorem dX1_append_67 : decode cX1_append 67 = .ok (.ireturn, 1) := by decide +kernel
theorem dX1_append_68 : decode cX1_append 68 = .ok (.aload_n 0, 1) := by decide +kernel
theorem dX1_append_69 : decode cX1_append 69 = .ok (.getfield 18, 3) := by decide +kernel
theorem dX1_append_72 : decode cX1_append 72 = .ok (.bipush 6, 2) := by decide +kernel
theorem dX1_append_74 : decode cX1_append 74 = .ok (.imul, 1) := by decide +kernel
theorem dX1_append_75 : decode cX1_append 75 = .ok (.istore 7, 2) := by decide +kernel
theorem dX1_append_77 : decode cX1_append 77 = .ok (.aload_n 0, 1) := by decide +kernel
theorem dX1_append_78 : decode cX1_append 78 = .ok (.getfield 11, 3) := by decide +kernel
theorem dX1_append_81 : decode cX1_append 81 = .ok (.iload 7, 2) := by decide +kernel
theorem dX1_append_83 : decode cX1_append 83 = .ok (.iconst 0, 1) := by decide +kernel
theorem dX1_append_84 : decode cX1_append 84 = .ok (.iadd, 1) := by decide +kernel
theorem dX1_append_85 : decode cX1_append 85 = .ok (.iload_n 1, 1) := by decide +kernel
theorem dX1_append_86 : decode cX1_append 86 = .ok (.iastore, 1) := by decide +kernel
theorem dX1_append_87 : decode cX1_append 87 = .ok (.aload_n 0, 1) := by decide +kernel
theorem dX1_append_88 : decode cX1_append 88 = .ok (.getfield 11, 3) := by decide +kernel
theorem dX1_append_91 : decode cX1_append 91 = .ok (.iload 7, 2) := by decide +kernel
theorem dX1_append_93 : decode cX1_append 93 = .ok (.iconst 1, 1) := by decide +kernel
theorem dX1_append_94 : decode cX1_append 94 = .ok (.iadd, 1) := by decide +kernel
theorem dX1_append_95 : decode cX1_append 95 = .ok (.iload_n 2, 1) := by decide +kernel
theorem dX1_append_96 : decode cX1_append 96 = .ok (.iastore, 1) := by decide +kernel
theorem dX1_append_97 : decode cX1_append 97 = .ok (.aload_n 0, 1) := by decide +kernel
theorem dX1_append_98 : decode cX1_append 98 = .ok (.getfield 11, 3) := by decide +kernel
theorem dX1_append_101 : decode cX1_append 101 = .ok (.iload 7, 2) := by decide +kernel
theorem dX1_append_103 : decode cX1_append 103 = .ok (.iconst 1, 1) := by decide +kernel
theorem dX1_append_104 : decode cX1_append 104 = .ok (.iadd, 1) := by decide +kernel
theorem dX1_append_105 : decode cX1_append 105 = .ok (.iconst 1, 1) := by decide +kernel
theorem dX1_append_106 : decode cX1_append 106 = .ok (.iadd, 1) := by decide +kernel
theorem dX1_append_107 : decode cX1_append 107 = .ok (.iload_n 3, 1) := by decide +kernel
theorem dX1_append_108 : decode cX1_append 108 = .ok (.iastore, 1) := by decide +kernel
theorem dX1_append_109 : decode cX1_append 109 = .ok (.aload_n 0, 1) := by decide +kernel
theorem dX1_append_110 : decode cX1_append 110 = .ok (.getfield 11, 3) := by decide +kernel
theorem dX1_append_113 : decode cX1_append 113 = .ok (.iload 7, 2) := by decide +kernel
theorem dX1_append_115 : decode cX1_append 115 = .ok (.iconst 1, 1) := by decide +kernel
theorem dX1_append_116 : decode cX1_append 116 = .ok (.iadd, 1) := by decide +kernel
theorem dX1_append_117 : decode cX1_append 117 = .ok (.iconst 2, 1) := by decide +kernel
theorem dX1_append_118 : decode cX1_append 118 = .ok (.iadd, 1) := by decide +kernel
theorem dX1_append_119 : decode cX1_append 119 = .ok (.iload 4, 2) := by decide +kernel
theorem dX1_append_121 : decode cX1_append 121 = .ok (.iastore, 1) := by decide +kernel
theorem dX1_append_122 : decode cX1_append 122 = .ok (.aload_n 0, 1) := by decide +kernel
theorem dX1_append_123 : decode cX1_append 123 = .ok (.getfield 11, 3) := by decide +kernel
theorem dX1_append_126 : decode cX1_append 126 = .ok (.iload 7, 2) := by decide +kernel
theorem dX1_append_128 : decode cX1_append 128 = .ok (.iconst 1, 1) := by decide +kernel
theorem dX1_append_129 : decode cX1_append 129 = .ok (.iadd, 1) := by decide +kernel
theorem dX1_append_130 : decode cX1_append 130 = .ok (.iconst 3, 1) := by decide +kernel
theorem dX1_append_131 : decode cX1_append 131 = .ok (.iadd, 1) := by decide +kernel
theorem dX1_append_132 : decode cX1_append 132 = .ok (.iload 5, 2) := by decide +kernel
theorem dX1_append_134 : decode cX1_append 134 = .ok (.iastore, 1) := by decide +kernel
theorem dX1_append_135 : decode cX1_append 135 = .ok (.aload_n 0, 1) := by decide +kernel
theorem dX1_append_136 : decode cX1_append 136 = .ok (.getfield 11, 3) := by decide +kernel
theorem dX1_append_139 : decode cX1_append 139 = .ok (.iload 7, 2) := by decide +kernel
theorem dX1_append_141 : decode cX1_append 141 = .ok (.iconst 5, 1) := by decide +kernel
theorem dX1_append_142 : decode cX1_append 142 = .ok (.iadd, 1) := by decide +kernel
theorem dX1_append_143 : decode cX1_append 143 = .ok (.iload 6, 2) := by decide +kernel
theorem dX1_append_145 : decode cX1_append 145 = .ok (.iastore, 1) := by decide +kernel
theorem dX1_append_146 : decode cX1_append 146 = .ok (.aload_n 0, 1) := by decide +kernel
theorem dX1_append_147 : decode cX1_append 147 = .ok (.dup, 1) := by decide +kernel
theorem dX1_append_148 : decode cX1_append 148 = .ok (.getfield 18, 3) := by decide +kernel
theorem dX1_append_151 : decode cX1_append 151 = .ok (.iconst 1, 1) := by decide +kernel
theorem dX1_append_152 : decode cX1_append 152 = .ok (.iadd, 1) := by decide +kernel
theorem dX1_append_153 : decode cX1_append 153 = .ok (.putfield 18, 3) := by decide +kernel
theorem dX1_append_156 : decode cX1_append 156 = .ok (.aload_n 0, 1) := by decide +kernel
theorem dX1_append_157 : decode cX1_append 157 = .ok (.getfield 18, 3) := by decide +kernel
theorem dX1_append_160 : decode cX1_append 160 = .ok (.iconst 1, 1) := by decide +kernel
theorem dX1_append_161 : decode cX1_append 161 = .ok (.isub, 1) := by decide +kernel
theorem dX1_append_162 : decode cX1_append 162 = .ok (.ireturn, 1) := by decide +kernel
theorem dX1_beginLayer_0 : decode cX1_beginLayer 0 = .ok (.aload_n 0, 1) := by decide +kernel
theorem dX1_beginLayer_1 : decode cX1_beginLayer 1 = .ok (.getfield 22, 3) := by decide +kernel
theorem dX1_beginLayer_4 : decode cX1_beginLayer 4 = .ok (.bipush 8, 2) := by decide +kernel
theorem dX1_beginLayer_6 : decode cX1_beginLayer 6 = .ok (.if_icmp .lt 5, 3) := by decide +kernel
theorem dX1_beginLayer_9 : decode cX1_beginLayer 9 = .ok (.iconst (-1), 1) := by decide +kernel
theorem dX1_beginLayer_10 : decode cX1_beginLayer 10 = .ok (.ireturn, 1) := by decide +kernel
theorem dX1_beginLayer_11 : decode cX1_beginLayer 11 = .ok (.aload_n 0, 1) := by decide +kernel
theorem dX1_beginLayer_12 : decode cX1_beginLayer 12 = .ok (.getfield 15, 3) := by decide +kernel
theorem dX1_beginLayer_15 : decode cX1_beginLayer 15 = .ok (.aload_n 0, 1) := by decide +kernel
theorem dX1_beginLayer_16 : decode cX1_beginLayer 16 = .ok (.getfield 22, 3) := by decide +kernel
theorem dX1_beginLayer_19 : decode cX1_beginLayer 19 = .ok (.aload_n 0, 1) := by decide +kernel
theorem dX1_beginLayer_20 : decode cX1_beginLayer 20 = .ok (.getfield 18, 3) := by decide +kernel
theorem dX1_beginLayer_23 : decode cX1_beginLayer 23 = .ok (.iastore, 1) := by decide +kernel
theorem dX1_beginLayer_24 : decode cX1_beginLayer 24 = .ok (.aload_n 0, 1) := by decide +kernel
theorem dX1_beginLayer_25 : decode cX1_beginLayer 25 = .ok (.dup, 1) := by decide +kernel
theorem dX1_beginLayer_26 : decode cX1_beginLayer 26 = .ok (.getfield 22, 3) := by decide +kernel
theorem dX1_beginLayer_29 : decode cX1_beginLayer 29 = .ok (.iconst 1, 1) := by decide +kernel
theorem dX1_beginLayer_30 : decode cX1_beginLayer 30 = .ok (.iadd, 1) := by decide +kernel
theorem dX1_beginLayer_31 : decode cX1_beginLayer 31 = .ok (.putfield 22, 3) := by decide +kernel
theorem dX1_beginLayer_34 : decode cX1_beginLayer 34 = .ok (.aload_n 0, 1) := by decide +kernel
theorem dX1_beginLayer_35 : decode cX1_beginLayer 35 = .ok (.getfield 22, 3) := by decide +kernel
theorem dX1_beginLayer_38 : decode cX1_beginLayer 38 = .ok (.ireturn, 1) := by decide +kernel
theorem dX1_dropLayer_0 : decode cX1_dropLayer 0 = .ok (.aload_n 0, 1) := by decide +kernel
theorem dX1_dropLayer_1 : decode cX1_dropLayer 1 = .ok (.getfield 22, 3) := by decide +kernel
theorem dX1_dropLayer_4 : decode cX1_dropLayer 4 = .ok (.ifCond .gt 5, 3) := by decide +kernel
theorem dX1_dropLayer_7 : decode cX1_dropLayer 7 = .ok (.iconst (-1), 1) := by decide +kernel
theorem dX1_dropLayer_8 : decode cX1_dropLayer 8 = .ok (.ireturn, 1) := by decide +kernel
theorem dX1_dropLayer_9 : decode cX1_dropLayer 9 = .ok (.aload_n 0, 1) := by decide +kernel
theorem dX1_dropLayer_10 : decode cX1_dropLayer 10 = .ok (.dup, 1) := by decide +kernel
theorem dX1_dropLayer_11 : decode cX1_dropLayer 11 = .ok (.getfield 22, 3) := by decide +kernel
theorem dX1_dropLayer_14 : decode cX1_dropLayer 14 = .ok (.iconst 1, 1) := by decide +kernel
theorem dX1_dropLayer_15 : decode cX1_dropLayer 15 = .ok (.isub, 1) := by decide +kernel
theorem dX1_dropLayer_16 : decode cX1_dropLayer 16 = .ok (.putfield 22, 3) := by decide +kernel
theorem dX1_dropLayer_19 : decode cX1_dropLayer 19 = .ok (.aload_n 0, 1) := by decide +kernel
theorem dX1_dropLayer_20 : decode cX1_dropLayer 20 = .ok (.getfield 18, 3) := by decide +kernel
theorem dX1_dropLayer_23 : decode cX1_dropLayer 23 = .ok (.aload_n 0, 1) := by decide +kernel
theorem dX1_dropLayer_24 : decode cX1_dropLayer 24 = .ok (.getfield 15, 3) := by decide +kernel
theorem dX1_dropLayer_27 : decode cX1_dropLayer 27 = .ok (.aload_n 0, 1) := by decide +kernel
theorem dX1_dropLayer_28 : decode cX1_dropLayer 28 = .ok (.getfield 22, 3) := by decide +kernel
theorem dX1_dropLayer_31 : decode cX1_dropLayer 31 = .ok (.iaload, 1) := by decide +kernel
theorem dX1_dropLayer_32 : decode cX1_dropLayer 32 = .ok (.isub, 1) := by decide +kernel
theorem dX1_dropLayer_33 : decode cX1_dropLayer 33 = .ok (.istore_n 1, 1) := by decide +kernel
theorem dX1_dropLayer_34 : decode cX1_dropLayer 34 = .ok (.aload_n 0, 1) := by decide +kernel
theorem dX1_dropLayer_35 : decode cX1_dropLayer 35 = .ok (.aload_n 0, 1) := by decide +kernel
theorem dX1_dropLayer_36 : decode cX1_dropLayer 36 = .ok (.getfield 15, 3) := by decide +kernel
theorem dX1_dropLayer_39 : decode cX1_dropLayer 39 = .ok (.aload_n 0, 1) := by decide +kernel
theorem dX1_dropLayer_40 : decode cX1_dropLayer 40 = .ok (.getfield 22, 3) := by decide +kernel
theorem dX1_dropLayer_43 : decode cX1_dropLayer 43 = .ok (.iaload, 1) := by decide +kernel
theorem dX1_dropLayer_44 : decode cX1_dropLayer 44 = .ok (.putfield 18, 3) := by decide +kernel
theorem dX1_dropLayer_47 : decode cX1_dropLayer 47 = .ok (.iload_n 1, 1) := by decide +kernel
theorem dX1_dropLayer_48 : decode cX1_dropLayer 48 = .ok (.ireturn, 1) := by decide +kernel
theorem dX1_size_0 : decode cX1_size 0 = .ok (.aload_n 0, 1) := by decide +kernel
theorem dX1_size_1 : decode cX1_size 1 = .ok (.getfield 18, 3) := by decide +kernel
theorem dX1_size_4 : decode cX1_size 4 = .ok (.ireturn, 1) := by decide +kernel
theorem dX1_layerCount_0 : decode cX1_layerCount 0 = .ok (.aload_n 0, 1) := by decide +kernel
theorem dX1_layerCount_1 : decode cX1_layerCount 1 = .ok (.getfield 22, 3) := by decide +kernel
theorem dX1_layerCount_4 : decode cX1_layerCount 4 = .ok (.ireturn, 1) := by decide +kernel
theorem dX1_has_0 : decode cX1_has 0 = .ok (.iload_n 1, 1) := by decide +kernel
theorem dX1_has_1 : decode cX1_has 1 = .ok (.ifCond .lt 15, 3) := by decide +kernel
theorem dX1_has_4 : decode cX1_has 4 = .ok (.iload_n 1, 1) := by decide +kernel
theorem dX1_has_5 : decode cX1_has 5 = .ok (.aload_n 0, 1) := by decide +kernel
theorem dX1_has_6 : decode cX1_has 6 = .ok (.getfield 18, 3) := by decide +kernel
theorem dX1_has_9 : decode cX1_has 9 = .ok (.if_icmp .ge 7, 3) := by decide +kernel
theorem dX1_has_12 : decode cX1_has 12 = .ok (.iconst 1, 1) := by decide +kernel
theorem dX1_has_13 : decode cX1_has 13 = .ok (.goto 4, 3) := by decide +kernel
theorem dX1_has_16 : decode cX1_has 16 = .ok (.iconst 0, 1) := by decide +kernel
theorem dX1_has_17 : decode cX1_has 17 = .ok (.ireturn, 1) := by decide +kernel
theorem dX1_cell_0 : decode cX1_cell 0 = .ok (.aload_n 0, 1) := by decide +kernel
theorem dX1_cell_1 : decode cX1_cell 1 = .ok (.getfield 11, 3) := by decide +kernel
theorem dX1_cell_4 : decode cX1_cell 4 = .ok (.iload_n 1, 1) := by decide +kernel
theorem dX1_cell_5 : decode cX1_cell 5 = .ok (.bipush 6, 2) := by decide +kernel
theorem dX1_cell_7 : decode cX1_cell 7 = .ok (.imul, 1) := by decide +kernel
theorem dX1_cell_8 : decode cX1_cell 8 = .ok (.iload_n 2, 1) := by decide +kernel
theorem dX1_cell_9 : decode cX1_cell 9 = .ok (.iadd, 1) := by decide +kernel
theorem dX1_cell_10 : decode cX1_cell 10 = .ok (.iaload, 1) := by decide +kernel
theorem dX1_cell_11 : decode cX1_cell 11 = .ok (.ireturn, 1) := by decide +kernel
theorem dX1_isEquality_0 : decode cX1_isEquality 0 = .ok (.aload_n 0, 1) := by decide +kernel
theorem dX1_isEquality_1 : decode cX1_isEquality 1 = .ok (.getfield 11, 3) := by decide +kernel
theorem dX1_isEquality_4 : decode cX1_isEquality 4 = .ok (.iload_n 1, 1) := by decide +kernel
theorem dX1_isEquality_5 : decode cX1_isEquality 5 = .ok (.bipush 6, 2) := by decide +kernel
theorem dX1_isEquality_7 : decode cX1_isEquality 7 = .ok (.imul, 1) := by decide +kernel
theorem dX1_isEquality_8 : decode cX1_isEquality 8 = .ok (.iconst 0, 1) := by decide +kernel
theorem dX1_isEquality_9 : decode cX1_isEquality 9 = .ok (.iadd, 1) := by decide +kernel
theorem dX1_isEquality_10 : decode cX1_isEquality 10 = .ok (.iaload, 1) := by decide +kernel
theorem dX1_isEquality_11 : decode cX1_isEquality 11 = .ok (.ifCond .ne 7, 3) := by decide +kernel
theorem dX1_isEquality_14 : decode cX1_isEquality 14 = .ok (.iconst 1, 1) := by decide +kernel
theorem dX1_isEquality_15 : decode cX1_isEquality 15 = .ok (.goto 4, 3) := by decide +kernel
theorem dX1_isEquality_18 : decode cX1_isEquality 18 = .ok (.iconst 0, 1) := by decide +kernel
theorem dX1_isEquality_19 : decode cX1_isEquality 19 = .ok (.ireturn, 1) := by decide +kernel
theorem dX1_factor_0 : decode cX1_factor 0 = .ok (.aload_n 0, 1) := by decide +kernel
theorem dX1_factor_1 : decode cX1_factor 1 = .ok (.getfield 11, 3) := by decide +kernel
theorem dX1_factor_4 : decode cX1_factor 4 = .ok (.iload_n 1, 1) := by decide +kernel
theorem dX1_factor_5 : decode cX1_factor 5 = .ok (.bipush 6, 2) := by decide +kernel
theorem dX1_factor_7 : decode cX1_factor 7 = .ok (.imul, 1) := by decide +kernel
theorem dX1_factor_8 : decode cX1_factor 8 = .ok (.iconst 1, 1) := by decide +kernel
theorem dX1_factor_9 : decode cX1_factor 9 = .ok (.iadd, 1) := by decide +kernel
theorem dX1_factor_10 : decode cX1_factor 10 = .ok (.iload_n 2, 1) := by decide +kernel
theorem dX1_factor_11 : decode cX1_factor 11 = .ok (.iadd, 1) := by decide +kernel
theorem dX1_factor_12 : decode cX1_factor 12 = .ok (.iaload, 1) := by decide +kernel
theorem dX1_factor_13 : decode cX1_factor 13 = .ok (.ireturn, 1) := by decide +kernel
theorem dX1_limit_0 : decode cX1_limit 0 = .ok (.aload_n 0, 1) := by decide +kernel
theorem dX1_limit_1 : decode cX1_limit 1 = .ok (.getfield 11, 3) := by decide +kernel
theorem dX1_limit_4 : decode cX1_limit 4 = .ok (.iload_n 1, 1) := by decide +kernel
theorem dX1_limit_5 : decode cX1_limit 5 = .ok (.bipush 6, 2) := by decide +kernel
theorem dX1_limit_7 : decode cX1_limit 7 = .ok (.imul, 1) := by decide +kernel
theorem dX1_limit_8 : decode cX1_limit 8 = .ok (.iconst 5, 1) := by decide +kernel
theorem dX1_limit_9 : decode cX1_limit 9 = .ok (.iadd, 1) := by decide +kernel
theorem dX1_limit_10 : decode cX1_limit 10 = .ok (.iaload, 1) := by decide +kernel
theorem dX1_limit_11 : decode cX1_limit 11 = .ok (.ireturn, 1) := by decide +kernel
theorem dX1_isFactor_0 : decode cX1_isFactor 0 = .ok (.iload_n 0, 1) := by decide +kernel
theorem dX1_isFactor_1 : decode cX1_isFactor 1 = .ok (.bipush (-99), 2) := by decide +kernel
theorem dX1_isFactor_3 : decode cX1_isFactor 3 = .ok (.if_icmp .lt 13, 3) := by decide +kernel
theorem dX1_isFactor_6 : decode cX1_isFactor 6 = .ok (.iload_n 0, 1) := by decide +kernel
theorem dX1_isFactor_7 : decode cX1_isFactor 7 = .ok (.bipush 99, 2) := by decide +kernel
theorem dX1_isFactor_9 : decode cX1_isFactor 9 = .ok (.if_icmp .gt 7, 3) := by decide +kernel
theorem dX1_isFactor_12 : decode cX1_isFactor 12 = .ok (.iconst 1, 1) := by decide +kernel
theorem dX1_isFactor_13 : decode cX1_isFactor 13 = .ok (.goto 4, 3) := by decide +kernel
theorem dX1_isFactor_16 : decode cX1_isFactor 16 = .ok (.iconst 0, 1) := by decide +kernel
theorem dX1_isFactor_17 : decode cX1_isFactor 17 = .ok (.ireturn, 1) := by decide +kernel
