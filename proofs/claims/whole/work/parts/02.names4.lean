theorem dX5_partsOf_117 : decode cX5_partsOf 117 = .ok (.iload_n 1, 1) := by decide +kernel
theorem dX5_partsOf_118 : decode cX5_partsOf 118 = .ok (.iaload, 1) := by decide +kernel
theorem dX5_partsOf_119 : decode cX5_partsOf 119 = .ok (.iconst (-1), 1) := by decide +kernel
theorem dX5_partsOf_120 : decode cX5_partsOf 120 = .ok (.ixor, 1) := by decide +kernel
theorem dX5_partsOf_121 : decode cX5_partsOf 121 = .ok (.iand, 1) := by decide +kernel
theorem dX5_partsOf_122 : decode cX5_partsOf 122 = .ok (.ifCond .ne 7, 3) := by decide +kernel
theorem dX5_partsOf_125 : decode cX5_partsOf 125 = .ok (.iload 6, 2) := by decide +kernel
theorem dX5_partsOf_127 : decode cX5_partsOf 127 = .ok (.istore 5, 2) := by decide +kernel
theorem dX5_partsOf_129 : decode cX5_partsOf 129 = .ok (.iinc 6 1, 3) := by decide +kernel
theorem dX5_partsOf_132 : decode cX5_partsOf 132 = .ok (.goto (-48), 3) := by decide +kernel
theorem dX5_partsOf_135 : decode cX5_partsOf 135 = .ok (.aload_n 0, 1) := by decide +kernel
theorem dX5_partsOf_136 : decode cX5_partsOf 136 = .ok (.getfield 39, 3) := by decide +kernel
theorem dX5_partsOf_139 : decode cX5_partsOf 139 = .ok (.aload_n 0, 1) := by decide +kernel
theorem dX5_partsOf_140 : decode cX5_partsOf 140 = .ok (.getfield 138, 3) := by decide +kernel
theorem dX5_partsOf_143 : decode cX5_partsOf 143 = .ok (.iload 5, 2) := by decide +kernel
theorem dX5_partsOf_145 : decode cX5_partsOf 145 = .ok (.iastore, 1) := by decide +kernel
theorem dX5_partsOf_146 : decode cX5_partsOf 146 = .ok (.aload_n 0, 1) := by decide +kernel
theorem dX5_partsOf_147 : decode cX5_partsOf 147 = .ok (.dup, 1) := by decide +kernel
theorem dX5_partsOf_148 : decode cX5_partsOf 148 = .ok (.getfield 138, 3) := by decide +kernel
theorem dX5_partsOf_151 : decode cX5_partsOf 151 = .ok (.iconst 1, 1) := by decide +kernel
theorem dX5_partsOf_152 : decode cX5_partsOf 152 = .ok (.iadd, 1) := by decide +kernel
theorem dX5_partsOf_153 : decode cX5_partsOf 153 = .ok (.putfield 138, 3) := by decide +kernel
theorem dX5_partsOf_156 : decode cX5_partsOf 156 = .ok (.iload_n 2, 1) := by decide +kernel
theorem dX5_partsOf_157 : decode cX5_partsOf 157 = .ok (.aload_n 0, 1) := by decide +kernel
theorem dX5_partsOf_158 : decode cX5_partsOf 158 = .ok (.getfield 36, 3) := by decide +kernel
theorem dX5_partsOf_161 : decode cX5_partsOf 161 = .ok (.iload 5, 2) := by decide +kernel
theorem dX5_partsOf_163 : decode cX5_partsOf 163 = .ok (.iaload, 1) := by decide +kernel
theorem dX5_partsOf_164 : decode cX5_partsOf 164 = .ok (.ior, 1) := by decide +kernel
theorem dX5_partsOf_165 : decode cX5_partsOf 165 = .ok (.istore_n 2, 1) := by decide +kernel
theorem dX5_partsOf_166 : decode cX5_partsOf 166 = .ok (.iinc 3 1, 3) := by decide +kernel
theorem dX5_partsOf_169 : decode cX5_partsOf 169 = .ok (.goto (-160), 3) := by decide +kernel
theorem dX5_partsOf_172 : decode cX5_partsOf 172 = .ok (.return_, 1) := by decide +kernel
set_option maxRecDepth 20000 in
theorem ggX5_knot_X5_know : GoodIn wsX5_knot wsX5_know := goodIn_r _ [10, 11, 12, 4, 1, 2, 13, 14, 15, 9, 16, 17, 18, 19, 20, 21, 22, 23, 24, 25, 26, 27, 28, 29, 30, 31, 32, 33, 34, 35, 36, 37, 54, 55, 56, 57, 58, 59, 60, 61, 62, 63, 64, 65, 66, 67, 68, 69, 70] (by decide +kernel) (by decide +kernel)
set_option maxRecDepth 20000 in
theorem gX5_knot_X5_know : GoodIn wsX5_knot (wsV RX5 135 RX5 yX5_know wsX5_know) := goodIn_app (goodIn_of _ (by decide +kernel)) ggX5_knot_X5_know
set_option maxRecDepth 20000 in
theorem ggX5_knot_X5_isIn : GoodIn wsX5_knot wsX5_isIn := goodIn_r _ [40] (by decide +kernel) (by decide +kernel)
set_option maxRecDepth 20000 in
theorem gX5_knot_X5_isIn : GoodIn wsX5_knot (va_wsS RX5 78 yX5_isIn wsX5_isIn) := goodIn_app (goodIn_of _ (by decide +kernel)) ggX5_knot_X5_isIn
set_option maxRecDepth 20000 in
theorem ggX5_knot_X5_refuse : GoodIn wsX5_knot wsX5_refuse := goodIn_r _ [44, 45, 54, 55, 56, 57, 58, 59, 60, 61, 62, 63, 64, 65, 66, 67, 68, 69, 70] (by decide +kernel) (by decide +kernel)
set_option maxRecDepth 20000 in
theorem gX5_knot_X5_refuse : GoodIn wsX5_knot (wsV RX5 74 RX5 yX5_refuse wsX5_refuse) := goodIn_app (goodIn_of _ (by decide +kernel)) ggX5_knot_X5_refuse
set_option maxRecDepth 20000 in
theorem ggX5_knot_X5_partsOf : GoodIn wsX5_knot wsX5_partsOf := goodIn_r _ [49, 3, 12, 2, 18, 5, 31, 32, 9, 33, 27, 28, 29, 30, 50, 51, 52, 53, 1, 54, 55, 56, 57, 58, 59, 60, 61, 62, 63, 64, 65, 66, 67, 68, 69, 70] (by decide +kernel) (by decide +kernel)
set_option maxRecDepth 20000 in
theorem gX5_knot_X5_partsOf : GoodIn wsX5_knot (wsV RX5 145 RX5 yX5_partsOf wsX5_partsOf) := goodIn_app (goodIn_of _ (by decide +kernel)) ggX5_knot_X5_partsOf
set_option maxRecDepth 20000 in
theorem ggX5_knot_X5_above : GoodIn wsX5_knot wsX5_above := goodIn_r _ [53, 1, 2, 54, 55, 56, 57, 58, 59, 60, 61, 62, 63, 64, 65, 66, 67, 68, 69, 70] (by decide +kernel) (by decide +kernel)
set_option maxRecDepth 20000 in
theorem gX5_knot_X5_above : GoodIn wsX5_knot (wsV RX5 141 RX5 yX5_above wsX5_above) := goodIn_app (goodIn_of _ (by decide +kernel)) ggX5_knot_X5_above
theorem dX5_knot_0 : decode cX5_knot 0 = .ok (.aload_n 0, 1) := by decide +kernel
theorem dX5_knot_1 : decode cX5_knot 1 = .ok (.invokevirtual 135, 3) := by decide +kernel
theorem dX5_knot_4 : decode cX5_knot 4 = .ok (.iload_n 1, 1) := by decide +kernel
theorem dX5_knot_5 : decode cX5_knot 5 = .ok (.aload_n 0, 1) := by decide +kernel
theorem dX5_knot_6 : decode cX5_knot 6 = .ok (.getfield 129, 3) := by decide +kernel
theorem dX5_knot_9 : decode cX5_knot 9 = .ok (.invokestatic 78, 3) := by decide +kernel
theorem dX5_knot_12 : decode cX5_knot 12 = .ok (.ifCond .ne 9, 3) := by decide +kernel
theorem dX5_knot_15 : decode cX5_knot 15 = .ok (.aload_n 0, 1) := by decide +kernel
theorem dX5_knot_16 : decode cX5_knot 16 = .ok (.iconst (-1), 1) := by decide +kernel
theorem dX5_knot_17 : decode cX5_knot 17 = .ok (.invokevirtual 74, 3) := by decide +kernel
theorem dX5_knot_20 : decode cX5_knot 20 = .ok (.ireturn, 1) := by decide +kernel
theorem dX5_knot_21 : decode cX5_knot 21 = .ok (.aload_n 0, 1) := by decide +kernel
theorem dX5_knot_22 : decode cX5_knot 22 = .ok (.iload_n 1, 1) := by decide +kernel
theorem dX5_knot_23 : decode cX5_knot 23 = .ok (.invokevirtual 145, 3) := by decide +kernel
theorem dX5_knot_26 : decode cX5_knot 26 = .ok (.iload_n 2, 1) := by decide +kernel
theorem dX5_knot_27 : decode cX5_knot 27 = .ok (.tableswitch 107 0 3 #[29, 36, 90, 95], 29) := by decide +kernel
theorem dX5_knot_56 : decode cX5_knot 56 = .ok (.aload_n 0, 1) := by decide +kernel
theorem dX5_knot_57 : decode cX5_knot 57 = .ok (.getfield 36, 3) := by decide +kernel
theorem dX5_knot_60 : decode cX5_knot 60 = .ok (.iload_n 1, 1) := by decide +kernel
theorem dX5_knot_61 : decode cX5_knot 61 = .ok (.iaload, 1) := by decide +kernel
theorem dX5_knot_62 : decode cX5_knot 62 = .ok (.ireturn, 1) := by decide +kernel
theorem dX5_knot_63 : decode cX5_knot 63 = .ok (.aload_n 0, 1) := by decide +kernel
theorem dX5_knot_64 : decode cX5_knot 64 = .ok (.getfield 138, 3) := by decide +kernel
theorem dX5_knot_67 : decode cX5_knot 67 = .ok (.iconst 3, 1) := by decide +kernel
theorem dX5_knot_68 : decode cX5_knot 68 = .ok (.if_icmp .ge 12, 3) := by decide +kernel
theorem dX5_knot_71 : decode cX5_knot 71 = .ok (.aload_n 0, 1) := by decide +kernel
theorem dX5_knot_72 : decode cX5_knot 72 = .ok (.getfield 138, 3) := by decide +kernel
theorem dX5_knot_75 : decode cX5_knot 75 = .ok (.iconst 2, 1) := by decide +kernel
theorem dX5_knot_76 : decode cX5_knot 76 = .ok (.idiv, 1) := by decide +kernel
theorem dX5_knot_77 : decode cX5_knot 77 = .ok (.goto 39, 3) := by decide +kernel
theorem dX5_knot_80 : decode cX5_knot 80 = .ok (.aload_n 0, 1) := by decide +kernel
theorem dX5_knot_81 : decode cX5_knot 81 = .ok (.getfield 32, 3) := by decide +kernel
theorem dX5_knot_84 : decode cX5_knot 84 = .ok (.aload_n 0, 1) := by decide +kernel
theorem dX5_knot_85 : decode cX5_knot 85 = .ok (.getfield 36, 3) := by decide +kernel
theorem dX5_knot_88 : decode cX5_knot 88 = .ok (.aload_n 0, 1) := by decide +kernel
theorem dX5_knot_89 : decode cX5_knot 89 = .ok (.getfield 39, 3) := by decide +kernel
theorem dX5_knot_92 : decode cX5_knot 92 = .ok (.iconst 0, 1) := by decide +kernel
theorem dX5_knot_93 : decode cX5_knot 93 = .ok (.iaload, 1) := by decide +kernel
theorem dX5_knot_94 : decode cX5_knot 94 = .ok (.iaload, 1) := by decide +kernel
theorem dX5_knot_95 : decode cX5_knot 95 = .ok (.aload_n 0, 1) := by decide +kernel
theorem dX5_knot_96 : decode cX5_knot 96 = .ok (.getfield 36, 3) := by decide +kernel
theorem dX5_knot_99 : decode cX5_knot 99 = .ok (.aload_n 0, 1) := by decide +kernel
theorem dX5_knot_100 : decode cX5_knot 100 = .ok (.getfield 39, 3) := by decide +kernel
theorem dX5_knot_103 : decode cX5_knot 103 = .ok (.iconst 1, 1) := by decide +kernel
theorem dX5_knot_104 : decode cX5_knot 104 = .ok (.iaload, 1) := by decide +kernel
theorem dX5_knot_105 : decode cX5_knot 105 = .ok (.iaload, 1) := by decide +kernel
theorem dX5_knot_106 : decode cX5_knot 106 = .ok (.ior, 1) := by decide +kernel
theorem dX5_knot_107 : decode cX5_knot 107 = .ok (.baload, 1) := by decide +kernel
theorem dX5_knot_108 : decode cX5_knot 108 = .ok (.ifCond .eq 7, 3) := by decide +kernel
theorem dX5_knot_111 : decode cX5_knot 111 = .ok (.iconst 3, 1) := by decide +kernel
theorem dX5_knot_112 : decode cX5_knot 112 = .ok (.goto 4, 3) := by decide +kernel
theorem dX5_knot_115 : decode cX5_knot 115 = .ok (.iconst 2, 1) := by decide +kernel
theorem dX5_knot_116 : decode cX5_knot 116 = .ok (.ireturn, 1) := by decide +kernel
theorem dX5_knot_117 : decode cX5_knot 117 = .ok (.aload_n 0, 1) := by decide +kernel
theorem dX5_knot_118 : decode cX5_knot 118 = .ok (.getfield 138, 3) := by decide +kernel
theorem dX5_knot_121 : decode cX5_knot 121 = .ok (.ireturn, 1) := by decide +kernel
theorem dX5_knot_122 : decode cX5_knot 122 = .ok (.aload_n 0, 1) := by decide +kernel
theorem dX5_knot_123 : decode cX5_knot 123 = .ok (.aload_n 0, 1) := by decide +kernel
theorem dX5_knot_124 : decode cX5_knot 124 = .ok (.getfield 36, 3) := by decide +kernel
theorem dX5_knot_127 : decode cX5_knot 127 = .ok (.iload_n 1, 1) := by decide +kernel
theorem dX5_knot_128 : decode cX5_knot 128 = .ok (.iaload, 1) := by decide +kernel
theorem dX5_knot_129 : decode cX5_knot 129 = .ok (.iconst 1, 1) := by decide +kernel
theorem dX5_knot_130 : decode cX5_knot 130 = .ok (.invokevirtual 141, 3) := by decide +kernel
theorem dX5_knot_133 : decode cX5_knot 133 = .ok (.ireturn, 1) := by decide +kernel
theorem dX5_knot_134 : decode cX5_knot 134 = .ok (.iload_n 2, 1) := by decide +kernel
theorem dX5_knot_135 : decode cX5_knot 135 = .ok (.iconst 3, 1) := by decide +kernel
theorem dX5_knot_136 : decode cX5_knot 136 = .ok (.if_icmp .le 24, 3) := by decide +kernel
theorem dX5_knot_139 : decode cX5_knot 139 = .ok (.iload_n 2, 1) := by decide +kernel
theorem dX5_knot_140 : decode cX5_knot 140 = .ok (.iconst 4, 1) := by decide +kernel
theorem dX5_knot_141 : decode cX5_knot 141 = .ok (.isub, 1) := by decide +kernel
theorem dX5_knot_142 : decode cX5_knot 142 = .ok (.aload_n 0, 1) := by decide +kernel
theorem dX5_knot_143 : decode cX5_knot 143 = .ok (.getfield 138, 3) := by decide +kernel
theorem dX5_knot_146 : decode cX5_knot 146 = .ok (.if_icmp .ge 14, 3) := by decide +kernel
theorem dX5_knot_149 : decode cX5_knot 149 = .ok (.aload_n 0, 1) := by decide +kernel
theorem dX5_knot_150 : decode cX5_knot 150 = .ok (.getfield 39, 3) := by decide +kernel
theorem dX5_knot_153 : decode cX5_knot 153 = .ok (.iload_n 2, 1) := by decide +kernel
theorem dX5_knot_154 : decode cX5_knot 154 = .ok (.iconst 4, 1) := by decide +kernel
theorem dX5_knot_155 : decode cX5_knot 155 = .ok (.isub, 1) := by decide +kernel
theorem dX5_knot_156 : decode cX5_knot 156 = .ok (.iaload, 1) := by decide +kernel
theorem dX5_knot_157 : decode cX5_knot 157 = .ok (.goto 9, 3) := by decide +kernel
theorem dX5_knot_160 : decode cX5_knot 160 = .ok (.aload_n 0, 1) := by decide +kernel
theorem dX5_knot_161 : decode cX5_knot 161 = .ok (.bipush (-2), 2) := by decide +kernel
theorem dX5_knot_163 : decode cX5_knot 163 = .ok (.invokevirtual 74, 3) := by decide +kernel
theorem dX5_knot_166 : decode cX5_knot 166 = .ok (.ireturn, 1) := by decide +kernel
set_option maxRecDepth 20000 in
theorem ggX5_join_X5_isColumn : GoodIn wsX5_join wsX5_isColumn := goodIn_r _ [5, 6, 7, 8, 4, 9, 52, 53, 54, 55, 56, 57, 58, 59, 60, 61, 62, 63, 64, 65, 66, 67, 68] (by decide +kernel) (by decide +kernel)
set_option maxRecDepth 20000 in
theorem gX5_join_X5_isColumn : GoodIn wsX5_join (wsV RX5 112 RX5 yX5_isColumn wsX5_isColumn) := goodIn_app (goodIn_of _ (by decide +kernel)) ggX5_join_X5_isColumn
set_option maxRecDepth 20000 in
theorem ggX5_join_X5_refuse : GoodIn wsX5_join wsX5_refuse := goodIn_r _ [13, 14, 52, 53, 54, 55, 56, 57, 58, 59, 60, 61, 62, 63, 64, 65, 66, 67, 68] (by decide +kernel) (by decide +kernel)
set_option maxRecDepth 20000 in
theorem gX5_join_X5_refuse : GoodIn wsX5_join (wsV RX5 74 RX5 yX5_refuse wsX5_refuse) := goodIn_app (goodIn_of _ (by decide +kernel)) ggX5_join_X5_refuse
set_option maxRecDepth 20000 in
theorem ggX5_join_X5_know : GoodIn wsX5_join wsX5_know := goodIn_r _ [18, 19, 6, 20, 21, 22, 23, 24, 25, 4, 26, 27, 28, 29, 30, 31, 32, 33, 34, 35, 36, 37, 38, 39, 40, 41, 42, 43, 44, 45, 46, 47, 52, 53, 54, 55, 56, 57, 58, 59, 60, 61, 62, 63, 64, 65, 66, 67, 68] (by decide +kernel) (by decide +kernel)
set_option maxRecDepth 20000 in
theorem gX5_join_X5_know : GoodIn wsX5_join (wsV RX5 135 RX5 yX5_know wsX5_know) := goodIn_app (goodIn_of _ (by decide +kernel)) ggX5_join_X5_know
set_option maxRecDepth 20000 in
theorem ggX5_join_X5_above : GoodIn wsX5_join wsX5_above := goodIn_r _ [51, 21, 22, 52, 53, 54, 55, 56, 57, 58, 59, 60, 61, 62, 63, 64, 65, 66, 67, 68] (by decide +kernel) (by decide +kernel)
set_option maxRecDepth 20000 in
theorem gX5_join_X5_above : GoodIn wsX5_join (wsV RX5 141 RX5 yX5_above wsX5_above) := goodIn_app (goodIn_of _ (by decide +kernel)) ggX5_join_X5_above
theorem dX5_join_0 : decode cX5_join 0 = .ok (.aload_n 0, 1) := by decide +kernel
theorem dX5_join_1 : decode cX5_join 1 = .ok (.iload_n 1, 1) := by decide +kernel
theorem dX5_join_2 : decode cX5_join 2 = .ok (.invokevirtual 112, 3) := by decide +kernel
theorem dX5_join_5 : decode cX5_join 5 = .ok (.ifCond .eq 11, 3) := by decide +kernel
theorem dX5_join_8 : decode cX5_join 8 = .ok (.aload_n 0, 1) := by decide +kernel
theorem dX5_join_9 : decode cX5_join 9 = .ok (.iload_n 2, 1) := by decide +kernel
theorem dX5_join_10 : decode cX5_join 10 = .ok (.invokevirtual 112, 3) := by decide +kernel
theorem dX5_join_13 : decode cX5_join 13 = .ok (.ifCond .ne 9, 3) := by decide +kernel
theorem dX5_join_16 : decode cX5_join 16 = .ok (.aload_n 0, 1) := by decide +kernel
theorem dX5_join_17 : decode cX5_join 17 = .ok (.iconst (-1), 1) := by decide +kernel
theorem dX5_join_18 : decode cX5_join 18 = .ok (.invokevirtual 74, 3) := by decide +kernel
theorem dX5_join_21 : decode cX5_join 21 = .ok (.ireturn, 1) := by decide +kernel
theorem dX5_join_22 : decode cX5_join 22 = .ok (.aload_n 0, 1) := by decide +kernel
theorem dX5_join_23 : decode cX5_join 23 = .ok (.invokevirtual 135, 3) := by decide +kernel
theorem dX5_join_26 : decode cX5_join 26 = .ok (.aload_n 0, 1) := by decide +kernel
theorem dX5_join_27 : decode cX5_join 27 = .ok (.iconst 1, 1) := by decide +kernel
theorem dX5_join_28 : decode cX5_join 28 = .ok (.iload_n 1, 1) := by decide +kernel
theorem dX5_join_29 : decode cX5_join 29 = .ok (.ishl, 1) := by decide +kernel
theorem dX5_join_30 : decode cX5_join 30 = .ok (.iconst 1, 1) := by decide +kernel
theorem dX5_join_31 : decode cX5_join 31 = .ok (.iload_n 2, 1) := by decide +kernel
theorem dX5_join_32 : decode cX5_join 32 = .ok (.ishl, 1) := by decide +kernel
theorem dX5_join_33 : decode cX5_join 33 = .ok (.ior, 1) := by decide +kernel
theorem dX5_join_34 : decode cX5_join 34 = .ok (.iconst 0, 1) := by decide +kernel
theorem dX5_join_35 : decode cX5_join 35 = .ok (.invokevirtual 141, 3) := by decide +kernel
theorem dX5_join_38 : decode cX5_join 38 = .ok (.ireturn, 1) := by decide +kernel
set_option maxRecDepth 20000 in
theorem ggX5_gapsOf_X5_runs : GoodIn wsX5_gapsOf wsX5_runs := goodIn_r _ [9, 10, 11, 12, 13, 8, 14, 15, 16, 17, 18, 19, 20, 21, 22, 23, 24, 25, 26, 27, 28, 29, 30, 31] (by decide +kernel) (by decide +kernel)
set_option maxRecDepth 20000 in
theorem gX5_gapsOf_X5_runs : GoodIn wsX5_gapsOf (wsV RX5 71 RX5 yX5_runs wsX5_runs) := goodIn_app (goodIn_of _ (by decide +kernel)) ggX5_gapsOf_X5_runs
theorem dX5_gapsOf_0 : decode cX5_gapsOf 0 = .ok (.iconst 0, 1) := by decide +kernel
theorem dX5_gapsOf_1 : decode cX5_gapsOf 1 = .ok (.istore_n 2, 1) := by decide +kernel
theorem dX5_gapsOf_2 : decode cX5_gapsOf 2 = .ok (.iconst 0, 1) := by decide +kernel
theorem dX5_gapsOf_3 : decode cX5_gapsOf 3 = .ok (.istore_n 3, 1) := by decide +kernel
theorem dX5_gapsOf_4 : decode cX5_gapsOf 4 = .ok (.iload_n 3, 1) := by decide +kernel
theorem dX5_gapsOf_5 : decode cX5_gapsOf 5 = .ok (.aload_n 0, 1) := by decide +kernel
theorem dX5_gapsOf_6 : decode cX5_gapsOf 6 = .ok (.getfield 50, 3) := by decide +kernel
theorem dX5_gapsOf_9 : decode cX5_gapsOf 9 = .ok (.if_icmp .ge 46, 3) := by decide +kernel
theorem dX5_gapsOf_12 : decode cX5_gapsOf 12 = .ok (.iload_n 2, 1) := by decide +kernel
theorem dX5_gapsOf_13 : decode cX5_gapsOf 13 = .ok (.aload_n 0, 1) := by decide +kernel
theorem dX5_gapsOf_14 : decode cX5_gapsOf 14 = .ok (.getfield 16, 3) := by decide +kernel
theorem dX5_gapsOf_17 : decode cX5_gapsOf 17 = .ok (.iload_n 3, 1) := by decide +kernel
theorem dX5_gapsOf_18 : decode cX5_gapsOf 18 = .ok (.iaload, 1) := by decide +kernel
theorem dX5_gapsOf_19 : decode cX5_gapsOf 19 = .ok (.iconst 1, 1) := by decide +kernel
theorem dX5_gapsOf_20 : decode cX5_gapsOf 20 = .ok (.if_icmp .ne 26, 3) := by decide +kernel
theorem dX5_gapsOf_23 : decode cX5_gapsOf 23 = .ok (.aload_n 0, 1) := by decide +kernel
theorem dX5_gapsOf_24 : decode cX5_gapsOf 24 = .ok (.getfield 19, 3) := by decide +kernel
theorem dX5_gapsOf_27 : decode cX5_gapsOf 27 = .ok (.iload_n 3, 1) := by decide +kernel
theorem dX5_gapsOf_28 : decode cX5_gapsOf 28 = .ok (.iaload, 1) := by decide +kernel
theorem dX5_gapsOf_29 : decode cX5_gapsOf 29 = .ok (.aload_n 0, 1) := by decide +kernel
theorem dX5_gapsOf_30 : decode cX5_gapsOf 30 = .ok (.iload_n 1, 1) := by decide +kernel
theorem dX5_gapsOf_31 : decode cX5_gapsOf 31 = .ok (.aload_n 0, 1) := by decide +kernel
theorem dX5_gapsOf_32 : decode cX5_gapsOf 32 = .ok (.getfield 13, 3) := by decide +kernel
theorem dX5_gapsOf_35 : decode cX5_gapsOf 35 = .ok (.iload_n 3, 1) := by decide +kernel
theorem dX5_gapsOf_36 : decode cX5_gapsOf 36 = .ok (.iaload, 1) := by decide +kernel
theorem dX5_gapsOf_37 : decode cX5_gapsOf 37 = .ok (.invokevirtual 71, 3) := by decide +kernel
theorem dX5_gapsOf_40 : decode cX5_gapsOf 40 = .ok (.iconst 1, 1) := by decide +kernel
theorem dX5_gapsOf_41 : decode cX5_gapsOf 41 = .ok (.isub, 1) := by decide +kernel
theorem dX5_gapsOf_42 : decode cX5_gapsOf 42 = .ok (.imul, 1) := by decide +kernel
theorem dX5_gapsOf_43 : decode cX5_gapsOf 43 = .ok (.goto 4, 3) := by decide +kernel
theorem dX5_gapsOf_46 : decode cX5_gapsOf 46 = .ok (.iconst 0, 1) := by decide +kernel
theorem dX5_gapsOf_47 : decode cX5_gapsOf 47 = .ok (.iadd, 1) := by decide +kernel
theorem dX5_gapsOf_48 : decode cX5_gapsOf 48 = .ok (.istore_n 2, 1) := by decide +kernel
theorem dX5_gapsOf_49 : decode cX5_gapsOf 49 = .ok (.iinc 3 1, 3) := by decide +kernel
theorem dX5_gapsOf_52 : decode cX5_gapsOf 52 = .ok (.goto (-48), 3) := by decide +kernel
theorem dX5_gapsOf_55 : decode cX5_gapsOf 55 = .ok (.iload_n 2, 1) := by decide +kernel
theorem dX5_gapsOf_56 : decode cX5_gapsOf 56 = .ok (.ireturn, 1) := by decide +kernel
set_option maxRecDepth 20000 in
theorem ggX5_gaps_X5_isIn : GoodIn wsX5_gaps wsX5_isIn := goodIn_r _ [6] (by decide +kernel) (by decide +kernel)
set_option maxRecDepth 20000 in
theorem gX5_gaps_X5_isIn : GoodIn wsX5_gaps (va_wsS RX5 78 yX5_isIn wsX5_isIn) := goodIn_app (goodIn_of _ (by decide +kernel)) ggX5_gaps_X5_isIn
set_option maxRecDepth 20000 in
theorem ggX5_gaps_X5_gapsOf : GoodIn wsX5_gaps wsX5_gapsOf := goodIn_r _ [10, 11, 12, 13, 14, 15, 16, 17, 5, 18, 19, 20, 21, 22, 23, 29, 30, 31, 32, 33, 34, 35, 36, 37, 38, 39, 40, 41, 42, 43, 44, 45] (by decide +kernel) (by decide +kernel)
set_option maxRecDepth 20000 in
theorem gX5_gaps_X5_gapsOf : GoodIn wsX5_gaps (wsV RX5 148 RX5 yX5_gapsOf wsX5_gapsOf) := goodIn_app (goodIn_of _ (by decide +kernel)) ggX5_gaps_X5_gapsOf
set_option maxRecDepth 20000 in
theorem ggX5_gaps_X5_refuse : GoodIn wsX5_gaps wsX5_refuse := goodIn_r _ [27, 28, 29, 30, 31, 32, 33, 34, 35, 36, 37, 38, 39, 40, 41, 42, 43, 44, 45] (by decide +kernel) (by decide +kernel)
set_option maxRecDepth 20000 in
theorem gX5_gaps_X5_refuse : GoodIn wsX5_gaps (wsV RX5 74 RX5 yX5_refuse wsX5_refuse) := goodIn_app (goodIn_of _ (by decide +kernel)) ggX5_gaps_X5_refuse
theorem dX5_gaps_0 : decode cX5_gaps 0 = .ok (.iload_n 1, 1) := by decide +kernel
theorem dX5_gaps_1 : decode cX5_gaps 1 = .ok (.aload_n 0, 1) := by decide +kernel
theorem dX5_gaps_2 : decode cX5_gaps 2 = .ok (.getfield 60, 3) := by decide +kernel
theorem dX5_gaps_5 : decode cX5_gaps 5 = .ok (.invokestatic 78, 3) := by decide +kernel
theorem dX5_gaps_8 : decode cX5_gaps 8 = .ok (.ifCond .eq 16, 3) := by decide +kernel
theorem dX5_gaps_11 : decode cX5_gaps 11 = .ok (.aload_n 0, 1) := by decide +kernel
theorem dX5_gaps_12 : decode cX5_gaps 12 = .ok (.aload_n 0, 1) := by decide +kernel
theorem dX5_gaps_13 : decode cX5_gaps 13 = .ok (.getfield 26, 3) := by decide +kernel
theorem dX5_gaps_16 : decode cX5_gaps 16 = .ok (.iload_n 1, 1) := by decide +kernel
theorem dX5_gaps_17 : decode cX5_gaps 17 = .ok (.iaload, 1) := by decide +kernel
theorem dX5_gaps_18 : decode cX5_gaps 18 = .ok (.invokevirtual 148, 3) := by decide +kernel
theorem dX5_gaps_21 : decode cX5_gaps 21 = .ok (.goto 8, 3) := by decide +kernel
theorem dX5_gaps_24 : decode cX5_gaps 24 = .ok (.aload_n 0, 1) := by decide +kernel
theorem dX5_gaps_25 : decode cX5_gaps 25 = .ok (.iconst (-1), 1) := by decide +kernel
theorem dX5_gaps_26 : decode cX5_gaps 26 = .ok (.invokevirtual 74, 3) := by decide +kernel
theorem dX5_gaps_29 : decode cX5_gaps 29 = .ok (.ireturn, 1) := by decide +kernel
set_option maxRecDepth 20000 in
theorem ggX5_best_X5_gapsOf : GoodIn wsX5_best wsX5_gapsOf := goodIn_r _ [7, 8, 9, 10, 11, 12, 13, 14, 6, 15, 16, 17, 18, 19, 20, 21, 22, 23, 24, 25, 26, 27, 28, 29, 30, 31, 32, 33, 34, 35, 36, 37] (by decide +kernel) (by decide +kernel)
set_option maxRecDepth 20000 in
theorem gX5_best_X5_gapsOf : GoodIn wsX5_best (wsV RX5 148 RX5 yX5_gapsOf wsX5_gapsOf) := goodIn_app (goodIn_of _ (by decide +kernel)) ggX5_best_X5_gapsOf
theorem dX5_best_0 : decode cX5_best 0 = .ok (.iconst 0, 1) := by decide +kernel
theorem dX5_best_1 : decode cX5_best 1 = .ok (.istore_n 1, 1) := by decide +kernel
theorem dX5_best_2 : decode cX5_best 2 = .ok (.aload_n 0, 1) := by decide +kernel
theorem dX5_best_3 : decode cX5_best 3 = .ok (.aload_n 0, 1) := by decide +kernel
theorem dX5_best_4 : decode cX5_best 4 = .ok (.getfield 26, 3) := by decide +kernel
theorem dX5_best_7 : decode cX5_best 7 = .ok (.iconst 0, 1) := by decide +kernel
theorem dX5_best_8 : decode cX5_best 8 = .ok (.iaload, 1) := by decide +kernel
theorem dX5_best_9 : decode cX5_best 9 = .ok (.invokevirtual 148, 3) := by decide +kernel
theorem dX5_best_12 : decode cX5_best 12 = .ok (.istore_n 2, 1) := by decide +kernel
theorem dX5_best_13 : decode cX5_best 13 = .ok (.iconst 1, 1) := by decide +kernel
theorem dX5_best_14 : decode cX5_best 14 = .ok (.istore_n 3, 1) := by decide +kernel
theorem dX5_best_15 : decode cX5_best 15 = .ok (.iload_n 3, 1) := by decide +kernel
theorem dX5_best_16 : decode cX5_best 16 = .ok (.aload_n 0, 1) := by decide +kernel
theorem dX5_best_17 : decode cX5_best 17 = .ok (.getfield 60, 3) := by decide +kernel
theorem dX5_best_20 : decode cX5_best 20 = .ok (.if_icmp .ge 35, 3) := by decide +kernel
theorem dX5_best_23 : decode cX5_best 23 = .ok (.aload_n 0, 1) := by decide +kernel
theorem dX5_best_24 : decode cX5_best 24 = .ok (.aload_n 0, 1) := by decide +kernel
theorem dX5_best_25 : decode cX5_best 25 = .ok (.getfield 26, 3) := by decide +kernel
theorem dX5_best_28 : decode cX5_best 28 = .ok (.iload_n 3, 1) := by decide +kernel
theorem dX5_best_29 : decode cX5_best 29 = .ok (.iaload, 1) := by decide +kernel
theorem dX5_best_30 : decode cX5_best 30 = .ok (.invokevirtual 148, 3) := by decide +kernel
theorem dX5_best_33 : decode cX5_best 33 = .ok (.istore 4, 2) := by decide +kernel
theorem dX5_best_35 : decode cX5_best 35 = .ok (.iload 4, 2) := by decide +kernel
theorem dX5_best_37 : decode cX5_best 37 = .ok (.iload_n 2, 1) := by decide +kernel
theorem dX5_best_38 : decode cX5_best 38 = .ok (.if_icmp .lt 6, 3) := by decide +kernel
theorem dX5_best_41 : decode cX5_best 41 = .ok (.goto 8, 3) := by decide +kernel
theorem dX5_best_44 : decode cX5_best 44 = .ok (.iload 4, 2) := by decide +kernel
theorem dX5_best_46 : decode cX5_best 46 = .ok (.istore_n 2, 1) := by decide +kernel
theorem dX5_best_47 : decode cX5_best 47 = .ok (.iload_n 3, 1) := by decide +kernel
theorem dX5_best_48 : decode cX5_best 48 = .ok (.istore_n 1, 1) := by decide +kernel
theorem dX5_best_49 : decode cX5_best 49 = .ok (.iinc 3 1, 3) := by decide +kernel
theorem dX5_best_52 : decode cX5_best 52 = .ok (.goto (-37), 3) := by decide +kernel
theorem dX5_best_55 : decode cX5_best 55 = .ok (.iload_n 1, 1) := by decide +kernel
theorem dX5_best_56 : decode cX5_best 56 = .ok (.ireturn, 1) := by decide +kernel
set_option maxRecDepth 20000 in
theorem ggX5_within_X5_gapsOf : GoodIn wsX5_within wsX5_gapsOf := goodIn_r _ [7, 8, 9, 10, 11, 12, 13, 14, 6, 15, 16, 17, 18, 19, 20, 21, 22, 23, 24, 25, 26, 27, 28, 29, 30, 31, 32, 33, 34, 35, 36, 37] (by decide +kernel) (by decide +kernel)
set_option maxRecDepth 20000 in
theorem gX5_within_X5_gapsOf : GoodIn wsX5_within (wsV RX5 148 RX5 yX5_gapsOf wsX5_gapsOf) := goodIn_app (goodIn_of _ (by decide +kernel)) ggX5_within_X5_gapsOf
theorem dX5_within_0 : decode cX5_within 0 = .ok (.iconst 0, 1) := by decide +kernel
theorem dX5_within_1 : decode cX5_within 1 = .ok (.istore_n 2, 1) := by decide +kernel
theorem dX5_within_2 : decode cX5_within 2 = .ok (.iconst 0, 1) := by decide +kernel
theorem dX5_within_3 : decode cX5_within 3 = .ok (.istore_n 3, 1) := by decide +kernel
theorem dX5_within_4 : decode cX5_within 4 = .ok (.iload_n 3, 1) := by decide +kernel
theorem dX5_within_5 : decode cX5_within 5 = .ok (.aload_n 0, 1) := by decide +kernel
theorem dX5_within_6 : decode cX5_within 6 = .ok (.getfield 60, 3) := by decide +kernel
theorem dX5_within_9 : decode cX5_within 9 = .ok (.if_icmp .ge 31, 3) := by decide +kernel
theorem dX5_within_12 : decode cX5_within 12 = .ok (.iload_n 2, 1) := by decide +kernel
theorem dX5_within_13 : decode cX5_within 13 = .ok (.aload_n 0, 1) := by decide +kernel
theorem dX5_within_14 : decode cX5_within 14 = .ok (.aload_n 0, 1) := by decide +kernel
theorem dX5_within_15 : decode cX5_within 15 = .ok (.getfield 26, 3) := by decide +kernel
theorem dX5_within_18 : decode cX5_within 18 = .ok (.iload_n 3, 1) := by decide +kernel
theorem dX5_within_19 : decode cX5_within 19 = .ok (.iaload, 1) := by decide +kernel
theorem dX5_within_20 : decode cX5_within 20 = .ok (.invokevirtual 148, 3) := by decide +kernel
theorem dX5_within_23 : decode cX5_within 23 = .ok (.iload_n 1, 1) := by decide +kernel
theorem dX5_within_24 : decode cX5_within 24 = .ok (.if_icmp .gt 7, 3) := by decide +kernel
theorem dX5_within_27 : decode cX5_within 27 = .ok (.iconst 1, 1) := by decide +kernel
theorem dX5_within_28 : decode cX5_within 28 = .ok (.goto 4, 3) := by decide +kernel
theorem dX5_within_31 : decode cX5_within 31 = .ok (.iconst 0, 1) := by decide +kernel
theorem dX5_within_32 : decode cX5_within 32 = .ok (.iadd, 1) := by decide +kernel
theorem dX5_within_33 : decode cX5_within 33 = .ok (.istore_n 2, 1) := by decide +kernel
theorem dX5_within_34 : decode cX5_within 34 = .ok (.iinc 3 1, 3) := by decide +kernel
theorem dX5_within_37 : decode cX5_within 37 = .ok (.goto (-33), 3) := by decide +kernel
theorem dX5_within_40 : decode cX5_within 40 = .ok (.iload_n 2, 1) := by decide +kernel
theorem dX5_within_41 : decode cX5_within 41 = .ok (.ireturn, 1) := by decide +kernel
set_option maxRecDepth 20000 in
theorem ggX5_spare_X5_isLine : GoodIn wsX5_spare wsX5_isLine := goodIn_r _ [8, 9, 10, 11, 7, 12, 42, 43, 44, 45, 46, 47, 48, 49, 50, 51, 52, 53, 54, 55, 56, 57, 58] (by decide +kernel) (by decide +kernel)
set_option maxRecDepth 20000 in
theorem gX5_spare_X5_isLine : GoodIn wsX5_spare (wsV RX5 99 RX5 yX5_isLine wsX5_isLine) := goodIn_app (goodIn_of _ (by decide +kernel)) ggX5_spare_X5_isLine
set_option maxRecDepth 20000 in
theorem ggX5_spare_X5_refuse : GoodIn wsX5_spare wsX5_refuse := goodIn_r _ [16, 17, 42, 43, 44, 45, 46, 47, 48, 49, 50, 51, 52, 53, 54, 55, 56, 57, 58] (by decide +kernel) (by decide +kernel)
set_option maxRecDepth 20000 in
theorem gX5_spare_X5_refuse : GoodIn wsX5_spare (wsV RX5 74 RX5 yX5_refuse wsX5_refuse) := goodIn_app (goodIn_of _ (by decide +kernel)) ggX5_spare_X5_refuse
set_option maxRecDepth 20000 in
theorem ggX5_spare_X5_goodWithout : GoodIn wsX5_spare wsX5_goodWithout := goodIn_r _ [21, 22, 23, 9, 1, 24, 25, 26, 27, 7, 28, 29, 30, 31, 32, 33, 34, 35, 36, 37, 38, 39, 40, 41, 42, 43, 44, 45, 46, 47, 48, 49, 50, 51, 52, 53, 54, 55, 56, 57, 58] (by decide +kernel) (by decide +kernel)
set_option maxRecDepth 20000 in
theorem gX5_spare_X5_goodWithout : GoodIn wsX5_spare (wsV RX5 102 RX5 yX5_goodWithout wsX5_goodWithout) := goodIn_app (goodIn_of _ (by decide +kernel)) ggX5_spare_X5_goodWithout
theorem dX5_spare_0 : decode cX5_spare 0 = .ok (.aload_n 0, 1) := by decide +kernel
theorem dX5_spare_1 : decode cX5_spare 1 = .ok (.iload_n 1, 1) := by decide +kernel
theorem dX5_spare_2 : decode cX5_spare 2 = .ok (.invokevirtual 99, 3) := by decide +kernel
theorem dX5_spare_5 : decode cX5_spare 5 = .ok (.ifCond .ne 9, 3) := by decide +kernel
theorem dX5_spare_8 : decode cX5_spare 8 = .ok (.aload_n 0, 1) := by decide +kernel
theorem dX5_spare_9 : decode cX5_spare 9 = .ok (.iconst (-1), 1) := by decide +kernel
theorem dX5_spare_10 : decode cX5_spare 10 = .ok (.invokevirtual 74, 3) := by decide +kernel
theorem dX5_spare_13 : decode cX5_spare 13 = .ok (.ireturn, 1) := by decide +kernel
theorem dX5_spare_14 : decode cX5_spare 14 = .ok (.aload_n 0, 1) := by decide +kernel
theorem dX5_spare_15 : decode cX5_spare 15 = .ok (.getfield 16, 3) := by decide +kernel
theorem dX5_spare_18 : decode cX5_spare 18 = .ok (.iload_n 1, 1) := by decide +kernel
theorem dX5_spare_19 : decode cX5_spare 19 = .ok (.iaload, 1) := by decide +kernel
theorem dX5_spare_20 : decode cX5_spare 20 = .ok (.ifCond .eq 10, 3) := by decide +kernel
theorem dX5_spare_23 : decode cX5_spare 23 = .ok (.aload_n 0, 1) := by decide +kernel
theorem dX5_spare_24 : decode cX5_spare 24 = .ok (.bipush (-3), 2) := by decide +kernel
theorem dX5_spare_26 : decode cX5_spare 26 = .ok (.invokevirtual 74, 3) := by decide +kernel
theorem dX5_spare_29 : decode cX5_spare 29 = .ok (.ireturn, 1) := by decide +kernel
theorem dX5_spare_30 : decode cX5_spare 30 = .ok (.aload_n 0, 1) := by decide +kernel
theorem dX5_spare_31 : decode cX5_spare 31 = .ok (.aload_n 0, 1) := by decide +kernel
theorem dX5_spare_32 : decode cX5_spare 32 = .ok (.getfield 29, 3) := by decide +kernel
theorem dX5_spare_35 : decode cX5_spare 35 = .ok (.iload_n 1, 1) := by decide +kernel
theorem dX5_spare_36 : decode cX5_spare 36 = .ok (.invokevirtual 102, 3) := by decide +kernel
theorem dX5_spare_39 : decode cX5_spare 39 = .ok (.aload_n 0, 1) := by decide +kernel
theorem dX5_spare_40 : decode cX5_spare 40 = .ok (.getfield 60, 3) := by decide +kernel
theorem dX5_spare_43 : decode cX5_spare 43 = .ok (.if_icmp .ne 7, 3) := by decide +kernel
theorem dX5_spare_46 : decode cX5_spare 46 = .ok (.iconst 1, 1) := by decide +kernel
theorem dX5_spare_47 : decode cX5_spare 47 = .ok (.goto 4, 3) := by decide +kernel
theorem dX5_spare_50 : decode cX5_spare 50 = .ok (.iconst 0, 1) := by decide +kernel
theorem dX5_spare_51 : decode cX5_spare 51 = .ok (.ireturn, 1) := by decide +kernel
theorem dX5_inState_0 : decode cX5_inState 0 = .ok (.iconst 0, 1) := by decide +kernel
theorem dX5_inState_1 : decode cX5_inState 1 = .ok (.istore_n 2, 1) := by decide +kernel
theorem dX5_inState_2 : decode cX5_inState 2 = .ok (.iconst 0, 1) := by decide +kernel
theorem dX5_inState_3 : decode cX5_inState 3 = .ok (.istore_n 3, 1) := by decide +kernel
theorem dX5_inState_4 : decode cX5_inState 4 = .ok (.iload_n 3, 1) := by decide +kernel
theorem dX5_inState_5 : decode cX5_inState 5 = .ok (.aload_n 0, 1) := by decide +kernel
theorem dX5_inState_6 : decode cX5_inState 6 = .ok (.getfield 50, 3) := by decide +kernel
theorem dX5_inState_9 : decode cX5_inState 9 = .ok (.if_icmp .ge 27, 3) := by decide +kernel
theorem dX5_inState_12 : decode cX5_inState 12 = .ok (.iload_n 2, 1) := by decide +kernel
theorem dX5_inState_13 : decode cX5_inState 13 = .ok (.aload_n 0, 1) := by decide +kernel
theorem dX5_inState_14 : decode cX5_inState 14 = .ok (.getfield 16, 3) := by decide +kernel
theorem dX5_inState_17 : decode cX5_inState 17 = .ok (.iload_n 3, 1) := by decide +kernel
theorem dX5_inState_18 : decode cX5_inState 18 = .ok (.iaload, 1) := by decide +kernel
theorem dX5_inState_19 : decode cX5_inState 19 = .ok (.iload_n 1, 1) := by decide +kernel
theorem dX5_inState_20 : decode cX5_inState 20 = .ok (.if_icmp .ne 7, 3) := by decide +kernel
theorem dX5_inState_23 : decode cX5_inState 23 = .ok (.iconst 1, 1) := by decide +kernel
theorem dX5_inState_24 : decode cX5_inState 24 = .ok (.goto 4, 3) := by decide +kernel
theorem dX5_inState_27 : decode cX5_inState 27 = .ok (.iconst 0, 1) := by decide +kernel
theorem dX5_inState_28 : decode cX5_inState 28 = .ok (.iadd, 1) := by decide +kernel
theorem dX5_inState_29 : decode cX5_inState 29 = .ok (.istore_n 2, 1) := by decide +kernel
theorem dX5_inState_30 : decode cX5_inState 30 = .ok (.iinc 3 1, 3) := by decide +kernel
theorem dX5_inState_33 : decode cX5_inState 33 = .ok (.goto (-29), 3) := by decide +kernel
theorem dX5_inState_36 : decode cX5_inState 36 = .ok (.iload_n 2, 1) := by decide +kernel
theorem dX5_inState_37 : decode cX5_inState 37 = .ok (.ireturn, 1) := by decide +kernel
set_option maxRecDepth 20000 in
theorem ggX5_count_X5_inState : GoodIn wsX5_count wsX5_inState := goodIn_r _ [8, 3, 9, 10, 11, 12, 13, 14, 15, 16, 17, 18, 19, 20, 21, 22, 23, 24, 25, 26] (by decide +kernel) (by decide +kernel)
set_option maxRecDepth 20000 in
theorem gX5_count_X5_inState : GoodIn wsX5_count (wsV RX5 151 RX5 yX5_inState wsX5_inState) := goodIn_app (goodIn_of _ (by decide +kernel)) ggX5_count_X5_inState
theorem dX5_count_0 : decode cX5_count 0 = .ok (.iload_n 1, 1) := by decide +kernel
theorem dX5_count_1 : decode cX5_count 1 = .ok (.bipush 10, 2) := by decide +kernel
theorem dX5_count_3 : decode cX5_count 3 = .ok (.if_icmp .le 19, 3) := by decide +kernel
theorem dX5_count_6 : decode cX5_count 6 = .ok (.iload_n 1, 1) := by decide +kernel
theorem dX5_count_7 : decode cX5_count 7 = .ok (.bipush 17, 2) := by decide +kernel
theorem dX5_count_9 : decode cX5_count 9 = .ok (.if_icmp .ge 13, 3) := by decide +kernel
theorem dX5_count_12 : decode cX5_count 12 = .ok (.aload_n 0, 1) := by decide +kernel
theorem dX5_count_13 : decode cX5_count 13 = .ok (.getfield 7, 3) := by decide +kernel
theorem dX5_count_16 : decode cX5_count 16 = .ok (.iload_n 1, 1) := by decide +kernel
theorem dX5_count_17 : decode cX5_count 17 = .ok (.bipush 10, 2) := by decide +kernel
theorem dX5_count_19 : decode cX5_count 19 = .ok (.isub, 1) := by decide +kernel
theorem dX5_count_20 : decode cX5_count 20 = .ok (.iaload, 1) := by decide +kernel
theorem dX5_count_21 : decode cX5_count 21 = .ok (.ireturn, 1) := by decide +kernel
theorem dX5_count_22 : decode cX5_count 22 = .ok (.iload_n 1, 1) := by decide +kernel
theorem dX5_count_23 : decode cX5_count 23 = .ok (.tableswitch 51 0 4 #[33, 38, 43, 43, 43], 33) := by decide +kernel
theorem dX5_count_56 : decode cX5_count 56 = .ok (.aload_n 0, 1) := by decide +kernel
theorem dX5_count_57 : decode cX5_count 57 = .ok (.getfield 46, 3) := by decide +kernel
theorem dX5_count_60 : decode cX5_count 60 = .ok (.ireturn, 1) := by decide +kernel
theorem dX5_count_61 : decode cX5_count 61 = .ok (.aload_n 0, 1) := by decide +kernel
theorem dX5_count_62 : decode cX5_count 62 = .ok (.getfield 50, 3) := by decide +kernel
theorem dX5_count_65 : decode cX5_count 65 = .ok (.ireturn, 1) := by decide +kernel
theorem dX5_count_66 : decode cX5_count 66 = .ok (.aload_n 0, 1) := by decide +kernel
theorem dX5_count_67 : decode cX5_count 67 = .ok (.iload_n 1, 1) := by decide +kernel
theorem dX5_count_68 : decode cX5_count 68 = .ok (.iconst 2, 1) := by decide +kernel
theorem dX5_count_69 : decode cX5_count 69 = .ok (.isub, 1) := by decide +kernel
theorem dX5_count_70 : decode cX5_count 70 = .ok (.invokevirtual 151, 3) := by decide +kernel
theorem dX5_count_73 : decode cX5_count 73 = .ok (.ireturn, 1) := by decide +kernel
theorem dX5_count_74 : decode cX5_count 74 = .ok (.bipush (-9), 2) := by decide +kernel
theorem dX5_count_76 : decode cX5_count 76 = .ok (.ireturn, 1) := by decide +kernel
theorem dJ6_bitCount_0f7a4_0 : decode cJ6_bitCount_0f7a4 0 = .ok (.iload_n 0, 1) := by decide +kernel
theorem dJ6_bitCount_0f7a4_1 : decode cJ6_bitCount_0f7a4 1 = .ok (.iload_n 0, 1) := by decide +kernel
theorem dJ6_bitCount_0f7a4_2 : decode cJ6_bitCount_0f7a4 2 = .ok (.iconst 1, 1) := by decide +kernel
theorem dJ6_bitCount_0f7a4_3 : decode cJ6_bitCount_0f7a4 3 = .ok (.iushr, 1) := by decide +kernel
theorem dJ6_bitCount_0f7a4_4 : decode cJ6_bitCount_0f7a4 4 = .ok (.ldc_w 265, 3) := by decide +kernel
theorem dJ6_bitCount_0f7a4_7 : decode cJ6_bitCount_0f7a4 7 = .ok (.iand, 1) := by decide +kernel
theorem dJ6_bitCount_0f7a4_8 : decode cJ6_bitCount_0f7a4 8 = .ok (.isub, 1) := by decide +kernel
theorem dJ6_bitCount_0f7a4_9 : decode cJ6_bitCount_0f7a4 9 = .ok (.istore_n 0, 1) := by decide +kernel
theorem dJ6_bitCount_0f7a4_10 : decode cJ6_bitCount_0f7a4 10 = .ok (.iload_n 0, 1) := by decide +kernel
theorem dJ6_bitCount_0f7a4_11 : decode cJ6_bitCount_0f7a4 11 = .ok (.ldc_w 266, 3) := by decide +kernel
theorem dJ6_bitCount_0f7a4_14 : decode cJ6_bitCount_0f7a4 14 = .ok (.iand, 1) := by decide +kernel
theorem dJ6_bitCount_0f7a4_15 : decode cJ6_bitCount_0f7a4 15 = .ok (.iload_n 0, 1) := by decide +kernel
theorem dJ6_bitCount_0f7a4_16 : decode cJ6_bitCount_0f7a4 16 = .ok (.iconst 2, 1) := by decide +kernel
theorem dJ6_bitCount_0f7a4_17 : decode cJ6_bitCount_0f7a4 17 = .ok (.iushr, 1) := by decide +kernel
theorem dJ6_bitCount_0f7a4_18 : decode cJ6_bitCount_0f7a4 18 = .ok (.ldc_w 266, 3) := by decide +kernel
theorem dJ6_bitCount_0f7a4_21 : decode cJ6_bitCount_0f7a4 21 = .ok (.iand, 1) := by decide +kernel
theorem dJ6_bitCount_0f7a4_22 : decode cJ6_bitCount_0f7a4 22 = .ok (.iadd, 1) := by decide +kernel
theorem dJ6_bitCount_0f7a4_23 : decode cJ6_bitCount_0f7a4 23 = .ok (.istore_n 0, 1) := by decide +kernel
theorem dJ6_bitCount_0f7a4_24 : decode cJ6_bitCount_0f7a4 24 = .ok (.iload_n 0, 1) := by decide +kernel
theorem dJ6_bitCount_0f7a4_25 : decode cJ6_bitCount_0f7a4 25 = .ok (.iload_n 0, 1) := by decide +kernel
theorem dJ6_bitCount_0f7a4_26 : decode cJ6_bitCount_0f7a4 26 = .ok (.iconst 4, 1) := by decide +kernel
theorem dJ6_bitCount_0f7a4_27 : decode cJ6_bitCount_0f7a4 27 = .ok (.iushr, 1) := by decide +kernel
theorem dJ6_bitCount_0f7a4_28 : decode cJ6_bitCount_0f7a4 28 = .ok (.iadd, 1) := by decide +kernel
theorem dJ6_bitCount_0f7a4_29 : decode cJ6_bitCount_0f7a4 29 = .ok (.ldc_w 267, 3) := by decide +kernel
theorem dJ6_bitCount_0f7a4_32 : decode cJ6_bitCount_0f7a4 32 = .ok (.iand, 1) := by decide +kernel
theorem dJ6_bitCount_0f7a4_33 : decode cJ6_bitCount_0f7a4 33 = .ok (.istore_n 0, 1) := by decide +kernel
theorem dJ6_bitCount_0f7a4_34 : decode cJ6_bitCount_0f7a4 34 = .ok (.iload_n 0, 1) := by decide +kernel
theorem dJ6_bitCount_0f7a4_35 : decode cJ6_bitCount_0f7a4 35 = .ok (.iload_n 0, 1) := by decide +kernel
theorem dJ6_bitCount_0f7a4_36 : decode cJ6_bitCount_0f7a4 36 = .ok (.bipush 8, 2) := by decide +kernel
theorem dJ6_bitCount_0f7a4_38 : decode cJ6_bitCount_0f7a4 38 = .ok (.iushr, 1) := by decide +kernel
theorem dJ6_bitCount_0f7a4_39 : decode cJ6_bitCount_0f7a4 39 = .ok (.iadd, 1) := by decide +kernel
theorem dJ6_bitCount_0f7a4_40 : decode cJ6_bitCount_0f7a4 40 = .ok (.istore_n 0, 1) := by decide +kernel
theorem dJ6_bitCount_0f7a4_41 : decode cJ6_bitCount_0f7a4 41 = .ok (.iload_n 0, 1) := by decide +kernel
theorem dJ6_bitCount_0f7a4_42 : decode cJ6_bitCount_0f7a4 42 = .ok (.iload_n 0, 1) := by decide +kernel
theorem dJ6_bitCount_0f7a4_43 : decode cJ6_bitCount_0f7a4 43 = .ok (.bipush 16, 2) := by decide +kernel
theorem dJ6_bitCount_0f7a4_45 : decode cJ6_bitCount_0f7a4 45 = .ok (.iushr, 1) := by decide +kernel
theorem dJ6_bitCount_0f7a4_46 : decode cJ6_bitCount_0f7a4 46 = .ok (.iadd, 1) := by decide +kernel
theorem dJ6_bitCount_0f7a4_47 : decode cJ6_bitCount_0f7a4 47 = .ok (.istore_n 0, 1) := by decide +kernel
theorem dJ6_bitCount_0f7a4_48 : decode cJ6_bitCount_0f7a4 48 = .ok (.iload_n 0, 1) := by decide +kernel
theorem dJ6_bitCount_0f7a4_49 : decode cJ6_bitCount_0f7a4 49 = .ok (.bipush 63, 2) := by decide +kernel
theorem dJ6_bitCount_0f7a4_51 : decode cJ6_bitCount_0f7a4 51 = .ok (.iand, 1) := by decide +kernel
theorem dJ6_bitCount_0f7a4_52 : decode cJ6_bitCount_0f7a4 52 = .ok (.ireturn, 1) := by decide +kernel
theorem dJ9_abs_0f7a4_0 : decode cJ9_abs_0f7a4 0 = .ok (.iload_n 0, 1) := by decide +kernel
theorem dJ9_abs_0f7a4_1 : decode cJ9_abs_0f7a4 1 = .ok (.ifCond .ge 8, 3) := by decide +kernel
theorem dJ9_abs_0f7a4_4 : decode cJ9_abs_0f7a4 4 = .ok (.iload_n 0, 1) := by decide +kernel
theorem dJ9_abs_0f7a4_5 : decode cJ9_abs_0f7a4 5 = .ok (.ineg, 1) := by decide +kernel
theorem dJ9_abs_0f7a4_6 : decode cJ9_abs_0f7a4 6 = .ok (.goto 4, 3) := by decide +kernel
theorem dJ9_abs_0f7a4_9 : decode cJ9_abs_0f7a4 9 = .ok (.iload_n 0, 1) := by decide +kernel
theorem dJ9_abs_0f7a4_10 : decode cJ9_abs_0f7a4 10 = .ok (.ireturn, 1) := by decide +kernel
theorem dJ9_max_7cf53_0 : decode cJ9_max_7cf53 0 = .ok (.iload_n 0, 1) := by decide +kernel
theorem dJ9_max_7cf53_1 : decode cJ9_max_7cf53 1 = .ok (.iload_n 1, 1) := by decide +kernel
theorem dJ9_max_7cf53_2 : decode cJ9_max_7cf53 2 = .ok (.if_icmp .lt 7, 3) := by decide +kernel
theorem dJ9_max_7cf53_5 : decode cJ9_max_7cf53 5 = .ok (.iload_n 0, 1) := by decide +kernel
theorem dJ9_max_7cf53_6 : decode cJ9_max_7cf53 6 = .ok (.goto 4, 3) := by decide +kernel
theorem dJ9_max_7cf53_9 : decode cJ9_max_7cf53 9 = .ok (.iload_n 1, 1) := by decide +kernel
theorem dJ9_max_7cf53_10 : decode cJ9_max_7cf53 10 = .ok (.ireturn, 1) := by decide +kernel
theorem dJ9_min_7cf53_0 : decode cJ9_min_7cf53 0 = .ok (.iload_n 0, 1) := by decide +kernel
theorem dJ9_min_7cf53_1 : decode cJ9_min_7cf53 1 = .ok (.iload_n 1, 1) := by decide +kernel
theorem dJ9_min_7cf53_2 : decode cJ9_min_7cf53 2 = .ok (.if_icmp .gt 7, 3) := by decide +kernel
theorem dJ9_min_7cf53_5 : decode cJ9_min_7cf53 5 = .ok (.iload_n 0, 1) := by decide +kernel
theorem dJ9_min_7cf53_6 : decode cJ9_min_7cf53 6 = .ok (.goto 4, 3) := by decide +kernel
theorem dJ9_min_7cf53_9 : decode cJ9_min_7cf53 9 = .ok (.iload_n 1, 1) := by decide +kernel
theorem dJ9_min_7cf53_10 : decode cJ9_min_7cf53 10 = .ok (.ireturn, 1) := by decide +kernel
set_option maxRecDepth 20000 in
theorem ggL_law_X4_init : GoodIn wsL_law wsX4_init := goodIn_r _ [8, 9, 10, 11, 12, 13, 14, 15, 16, 17, 18, 19, 20, 21, 22, 23, 24, 25, 26, 27, 28, 29, 30, 31, 32, 33, 34, 35, 36, 37, 38, 39, 40, 41, 42, 43, 44, 45, 46, 47, 48, 49, 50, 51, 52, 53, 54, 55, 56, 57, 58, 59, 2, 60, 61, 62, 63, 64, 65, 66, 67, 68, 69, 70, 71, 72, 73, 74, 75, 76, 77, 78, 79, 80, 81, 638, 639, 640, 641, 611, 612, 613, 614, 615, 616, 617, 618, 619, 620, 642, 643, 644, 645, 646, 647, 648, 649, 650, 651, 652, 653, 654, 655] (by decide +kernel) (by decide +kernel)
set_option maxRecDepth 20000 in
theorem gL_law_X4_init : GoodIn wsL_law (wsX4_init) := ggL_law_X4_init
set_option maxRecDepth 20000 in
theorem ggL_law_X5_init : GoodIn wsL_law wsX5_init := goodIn_r _ [84, 85, 10, 11, 29, 86, 87, 88, 89, 90, 91, 92, 93, 48, 94, 95, 96, 97, 98, 99, 5, 100, 101, 102, 103, 104, 105, 106, 107, 108, 109, 621, 622, 623, 624, 625, 626, 627, 628, 629, 630, 631, 632, 633, 634, 635, 636, 637] (by decide +kernel) (by decide +kernel)
set_option maxRecDepth 20000 in
theorem gL_law_X5_init : GoodIn wsL_law (wsX5_init) := ggL_law_X5_init
set_option maxRecDepth 20000 in
theorem ggL_law_X4_table : GoodIn wsL_law wsX4_table := goodIn_r _ [113, 114, 115, 116, 2, 117, 31, 57, 58, 59, 60, 61, 15, 19, 62, 63, 64, 18, 65, 66, 67, 41, 68, 69, 70, 71, 42, 72, 73, 74, 75, 76, 77, 78, 79, 80, 81, 611, 612, 613, 614, 615, 616, 617, 618, 619, 620, 638, 639, 640, 641, 642, 643, 644, 645] (by decide +kernel) (by decide +kernel)
set_option maxRecDepth 20000 in
theorem gL_law_X4_table : GoodIn wsL_law (wsV RL 13 RX4 yX4_table wsX4_table) := goodIn_app (goodIn_of _ (by decide +kernel)) ggL_law_X4_table
set_option maxRecDepth 20000 in
theorem ggL_law_X5_table : GoodIn wsL_law wsX5_table := goodIn_r _ [121, 122, 123, 124, 5, 125, 86, 97, 98, 99, 100, 101, 102, 103, 92, 91, 104, 105, 106, 107, 108, 109, 621, 622, 623, 624, 625, 626, 627, 628, 629, 630, 631, 632, 633, 634, 635, 636, 637] (by decide +kernel) (by decide +kernel)
set_option maxRecDepth 20000 in
theorem gL_law_X5_table : GoodIn wsL_law (wsV RL 17 RX5 yX5_table wsX5_table) := goodIn_app (goodIn_of _ (by decide +kernel)) ggL_law_X5_table
set_option maxRecDepth 20000 in
theorem ggL_law_X4_line : GoodIn wsL_law wsX4_line := goodIn_r _ [129, 15, 130, 131, 132, 2, 133, 134, 135, 136, 137, 61, 114, 115, 116, 117, 31, 138, 139, 140, 14, 141, 142, 35, 36, 37, 143, 144, 145, 146, 19, 147, 148, 149, 150, 151, 152, 153, 154, 20, 155, 156, 157, 18, 158, 66, 67, 41, 42, 159, 160, 161, 162, 68, 69, 70, 71, 72, 73, 74, 75, 163, 164, 165, 166, 167, 168, 169, 170, 76, 77, 78, 79, 80, 81, 611, 612, 613, 614, 615, 616, 617, 618, 619, 620, 638, 639, 640, 641, 642, 643, 644, 645] (by decide +kernel) (by decide +kernel)
set_option maxRecDepth 20000 in
theorem gL_law_X4_line : GoodIn wsL_law (wsV RL 18 RX4 yX4_line wsX4_line) := goodIn_app (goodIn_of _ (by decide +kernel)) ggL_law_X4_line
set_option maxRecDepth 20000 in
theorem ggL_law_X5_line : GoodIn wsL_law wsX5_line := goodIn_r _ [174, 102, 87, 89, 175, 176, 177, 5, 178, 101, 122, 123, 124, 125, 86, 179, 180, 181, 182, 88, 92, 104, 105, 183, 184, 185, 186, 187, 188, 189, 190, 191, 192, 193, 194, 195, 196, 197, 198, 199, 200, 201, 202, 621, 622, 623, 624, 625, 626, 627, 628, 629, 630, 631, 632, 633, 634, 635, 636, 637] (by decide +kernel) (by decide +kernel)
set_option maxRecDepth 20000 in
theorem gL_law_X5_line : GoodIn wsL_law (wsV RL 21 RX5 yX5_line wsX5_line) := goodIn_app (goodIn_of _ (by decide +kernel)) ggL_law_X5_line
set_option maxRecDepth 20000 in
theorem ggL_law_X4_drop : GoodIn wsL_law wsX4_drop := goodIn_r _ [206, 15, 19, 207, 208, 209, 14, 210, 142, 114, 115, 116, 2, 117, 31, 211, 212, 213, 214, 61, 62, 63, 64, 18, 65, 66, 67, 41, 159, 160, 161, 162, 68, 69, 70, 71, 42, 72, 73, 74, 75, 163, 164, 165, 166, 167, 168, 169, 170, 76, 77, 78, 79, 80, 81, 611, 612, 613, 614, 615, 616, 617, 618, 619, 620, 638, 639, 640, 641, 642, 643, 644, 645] (by decide +kernel) (by decide +kernel)
set_option maxRecDepth 20000 in
theorem gL_law_X4_drop : GoodIn wsL_law (wsV RL 22 RX4 yX4_drop wsX4_drop) := goodIn_app (goodIn_of _ (by decide +kernel)) ggL_law_X4_drop
set_option maxRecDepth 20000 in
theorem ggL_law_X5_drop : GoodIn wsL_law wsX5_drop := goodIn_r _ [218, 88, 92, 104, 105, 219, 220, 221, 5, 222, 102, 223, 224, 225, 122, 123, 124, 125, 86, 226, 227, 228, 229, 103, 91, 87, 199, 200, 201, 202, 187, 188, 189, 190, 191, 192, 193, 194, 101, 195, 196, 197, 198, 621, 622, 623, 624, 625, 626, 627, 628, 629, 630, 631, 632, 633, 634, 635, 636, 637] (by decide +kernel) (by decide +kernel)
set_option maxRecDepth 20000 in
theorem gL_law_X5_drop : GoodIn wsL_law (wsV RL 25 RX5 yX5_drop wsX5_drop) := goodIn_app (goodIn_of _ (by decide +kernel)) ggL_law_X5_drop
set_option maxRecDepth 20000 in
theorem ggL_law_X4_again : GoodIn wsL_law wsX4_again := goodIn_r _ [233, 15, 207, 208, 209, 14, 210, 142, 114, 115, 116, 2, 117, 31, 143, 144, 145, 146, 19, 147, 148, 149, 150, 151, 152, 153, 154, 20, 155, 156, 157, 18, 158, 66, 67, 41, 42, 159, 160, 161, 162, 68, 69, 70, 71, 72, 73, 74, 75, 163, 164, 165, 166, 167, 168, 169, 170, 76, 77, 78, 79, 80, 81, 611, 612, 613, 614, 615, 616, 617, 618, 619, 620, 638, 639, 640, 641, 642, 643, 644, 645] (by decide +kernel) (by decide +kernel)
set_option maxRecDepth 20000 in
theorem gL_law_X4_again : GoodIn wsL_law (wsV RL 26 RX4 yX4_again wsX4_again) := goodIn_app (goodIn_of _ (by decide +kernel)) ggL_law_X4_again
set_option maxRecDepth 20000 in
theorem ggL_law_X5_again : GoodIn wsL_law wsX5_again := goodIn_r _ [237, 88, 219, 220, 221, 5, 222, 102, 223, 224, 225, 122, 123, 124, 125, 86, 179, 180, 181, 182, 87, 92, 104, 105, 183, 184, 185, 186, 187, 188, 189, 190, 191, 192, 193, 194, 101, 195, 196, 197, 198, 199, 200, 201, 202, 621, 622, 623, 624, 625, 626, 627, 628, 629, 630, 631, 632, 633, 634, 635, 636, 637] (by decide +kernel) (by decide +kernel)
set_option maxRecDepth 20000 in
theorem gL_law_X5_again : GoodIn wsL_law (wsV RL 29 RX5 yX5_again wsX5_again) := goodIn_app (goodIn_of _ (by decide +kernel)) ggL_law_X5_again
set_option maxRecDepth 20000 in
theorem ggL_law_X4_weight : GoodIn wsL_law wsX4_weight := goodIn_r _ [241, 15, 81, 207, 208, 209, 14, 210, 142, 114, 115, 116, 2, 117, 31, 611, 612, 613, 614, 615, 616, 617, 618, 619, 620, 638, 639, 640, 641] (by decide +kernel) (by decide +kernel)
set_option maxRecDepth 20000 in
theorem gL_law_X4_weight : GoodIn wsL_law (wsV RL 30 RX4 yX4_weight wsX4_weight) := goodIn_app (goodIn_of _ (by decide +kernel)) ggL_law_X4_weight
set_option maxRecDepth 20000 in
theorem ggL_law_X5_weight : GoodIn wsL_law wsX5_weight := goodIn_r _ [245, 89, 219, 220, 221, 5, 222, 102, 223, 224, 225, 122, 123, 124, 125, 86, 621, 622, 623, 624, 625, 626, 627, 628, 629, 630, 631, 632, 633, 634, 635, 636, 637] (by decide +kernel) (by decide +kernel)
set_option maxRecDepth 20000 in
theorem gL_law_X5_weight : GoodIn wsL_law (wsV RL 34 RX5 yX5_weight wsX5_weight) := goodIn_app (goodIn_of _ (by decide +kernel)) ggL_law_X5_weight
set_option maxRecDepth 20000 in
theorem ggL_law_X4_lineOf : GoodIn wsL_law wsX4_lineOf := goodIn_r _ [249, 15, 207, 208, 209, 14, 210, 142, 114, 115, 116, 2, 117, 31, 250, 251, 252, 253, 254, 255, 256, 611, 612, 613, 614, 615, 616, 617, 618, 619, 620, 638, 639, 640, 641] (by decide +kernel) (by decide +kernel)
set_option maxRecDepth 20000 in
theorem gL_law_X4_lineOf : GoodIn wsL_law (wsV RL 35 RX4 yX4_lineOf wsX4_lineOf) := goodIn_app (goodIn_of _ (by decide +kernel)) ggL_law_X4_lineOf
set_option maxRecDepth 20000 in
theorem ggL_law_X5_lineOf : GoodIn wsL_law wsX5_lineOf := goodIn_r _ [260, 87, 88, 89, 219, 220, 221, 5, 222, 102, 223, 224, 225, 122, 123, 124, 125, 86, 261, 262, 263, 621, 622, 623, 624, 625, 626, 627, 628, 629, 630, 631, 632, 633, 634, 635, 636, 637] (by decide +kernel) (by decide +kernel)
set_option maxRecDepth 20000 in
theorem gL_law_X5_lineOf : GoodIn wsL_law (wsV RL 38 RX5 yX5_lineOf wsX5_lineOf) := goodIn_app (goodIn_of _ (by decide +kernel)) ggL_law_X5_lineOf
set_option maxRecDepth 20000 in
theorem ggL_law_X4_why : GoodIn wsL_law wsX4_why := goodIn_r _ [267, 15, 20, 61, 207, 208, 209, 14, 210, 142, 114, 115, 116, 2, 117, 31, 62, 63, 64, 18, 65, 66, 67, 41, 159, 160, 161, 162, 68, 69, 70, 71, 42, 72, 73, 74, 75, 611, 612, 613, 614, 615, 616, 617, 618, 619, 620, 638, 639, 640, 641, 642, 643, 644, 645] (by decide +kernel) (by decide +kernel)
set_option maxRecDepth 20000 in
theorem gL_law_X4_why : GoodIn wsL_law (wsV RL 39 RX4 yX4_why wsX4_why) := goodIn_app (goodIn_of _ (by decide +kernel)) ggL_law_X4_why
set_option maxRecDepth 20000 in
theorem ggL_law_X5_why : GoodIn wsL_law wsX5_why := goodIn_r _ [271, 88, 103, 93, 91, 87, 102, 219, 220, 221, 5, 222, 223, 224, 225, 122, 123, 124, 125, 86, 199, 200, 201, 202, 187, 188, 189, 190, 191, 192, 193, 194, 101, 195, 196, 197, 198, 621, 622, 623, 624, 625, 626, 627, 628, 629, 630, 631, 632, 633, 634, 635, 636, 637] (by decide +kernel) (by decide +kernel)
set_option maxRecDepth 20000 in
theorem gL_law_X5_why : GoodIn wsL_law (wsV RL 42 RX5 yX5_why wsX5_why) := goodIn_app (goodIn_of _ (by decide +kernel)) ggL_law_X5_why
set_option maxRecDepth 20000 in
theorem ggL_law_X4_rows : GoodIn wsL_law wsX4_rows := goodIn_r _ [275, 19, 276, 277, 278, 18, 279, 42, 611, 612, 613, 614, 615, 616, 617, 618, 619, 620, 642, 643, 644, 645] (by decide +kernel) (by decide +kernel)
set_option maxRecDepth 20000 in
theorem gL_law_X4_rows : GoodIn wsL_law (wsV RL 43 RX4 yX4_rows wsX4_rows) := goodIn_app (goodIn_of _ (by decide +kernel)) ggL_law_X4_rows
set_option maxRecDepth 20000 in
theorem ggL_law_X5_rows : GoodIn wsL_law wsX5_rows := goodIn_r _ [283, 104, 621, 622, 623, 624, 625, 626, 627, 628, 629, 630, 631, 632, 633, 634, 635, 636, 637] (by decide +kernel) (by decide +kernel)
set_option maxRecDepth 20000 in
theorem gL_law_X5_rows : GoodIn wsL_law (wsV RL 47 RX5 yX5_rows wsX5_rows) := goodIn_app (goodIn_of _ (by decide +kernel)) ggL_law_X5_rows
set_option maxRecDepth 20000 in
theorem ggL_law_X4_row : GoodIn wsL_law wsX4_row := goodIn_r _ [287, 61, 19, 30, 288, 289, 290, 2, 291, 276, 277, 278, 18, 279, 42, 114, 115, 116, 117, 31, 292, 293, 294, 295, 66, 296, 297, 298, 299, 72, 73, 74, 75, 41, 300, 301, 302, 303, 611, 612, 613, 614, 615, 616, 617, 618, 619, 620, 642, 643, 644, 645] (by decide +kernel) (by decide +kernel)
set_option maxRecDepth 20000 in
theorem gL_law_X4_row : GoodIn wsL_law (wsV RL 48 RX4 yX4_row wsX4_row) := goodIn_app (goodIn_of _ (by decide +kernel)) ggL_law_X4_row
set_option maxRecDepth 20000 in
theorem ggL_law_X5_row : GoodIn wsL_law wsX5_row := goodIn_r _ [307, 104, 101, 92, 223, 224, 5, 225, 122, 123, 124, 125, 86, 195, 196, 197, 198, 621, 622, 623, 624, 625, 626, 627, 628, 629, 630, 631, 632, 633, 634, 635, 636, 637] (by decide +kernel) (by decide +kernel)
set_option maxRecDepth 20000 in
theorem gL_law_X5_row : GoodIn wsL_law (wsV RL 51 RX5 yX5_row wsX5_row) := goodIn_app (goodIn_of _ (by decide +kernel)) ggL_law_X5_row
set_option maxRecDepth 20000 in
theorem ggL_law_X4_rank : GoodIn wsL_law wsX4_rank := goodIn_r _ [311, 19, 312, 313, 314, 18, 315, 66, 72, 73, 74, 75, 41, 300, 301, 302, 303, 42, 611, 612, 613, 614, 615, 616, 617, 618, 619, 620, 642, 643, 644, 645] (by decide +kernel) (by decide +kernel)
set_option maxRecDepth 20000 in
theorem gL_law_X4_rank : GoodIn wsL_law (wsV RL 52 RX4 yX4_rank wsX4_rank) := goodIn_app (goodIn_of _ (by decide +kernel)) ggL_law_X4_rank
set_option maxRecDepth 20000 in
theorem ggL_law_X5_rank : GoodIn wsL_law wsX5_rank := goodIn_r _ [319, 104, 92, 621, 622, 623, 624, 625, 626, 627, 628, 629, 630, 631, 632, 633, 634, 635, 636, 637] (by decide +kernel) (by decide +kernel)
set_option maxRecDepth 20000 in
theorem gL_law_X5_rank : GoodIn wsL_law (wsV RL 55 RX5 yX5_rank wsX5_rank) := goodIn_app (goodIn_of _ (by decide +kernel)) ggL_law_X5_rank
set_option maxRecDepth 20000 in
theorem ggL_law_X4_together : GoodIn wsL_law wsX4_together := goodIn_r _ [323, 130, 131, 132, 2, 133, 134, 135, 136, 137, 61, 114, 115, 116, 117, 31, 147, 148, 149, 150, 151, 152, 153, 154, 20, 19, 155, 156, 157, 18, 158, 66, 67, 41, 42, 159, 160, 161, 162, 68, 69, 70, 71, 72, 73, 74, 75, 324, 325, 326, 327, 276, 277, 278, 279, 611, 612, 613, 614, 615, 616, 617, 618, 619, 620, 642, 643, 644, 645] (by decide +kernel) (by decide +kernel)
set_option maxRecDepth 20000 in
theorem gL_law_X4_together : GoodIn wsL_law (wsV RL 56 RX4 yX4_together wsX4_together) := goodIn_app (goodIn_of _ (by decide +kernel)) ggL_law_X4_together
set_option maxRecDepth 20000 in
theorem ggL_law_X5_together : GoodIn wsL_law wsX5_together := goodIn_r _ [331, 104, 92, 175, 176, 177, 5, 178, 101, 122, 123, 124, 125, 86, 187, 188, 189, 190, 191, 192, 193, 194, 195, 196, 197, 198, 332, 333, 334, 335, 621, 622, 623, 624, 625, 626, 627, 628, 629, 630, 631, 632, 633, 634, 635, 636, 637] (by decide +kernel) (by decide +kernel)
set_option maxRecDepth 20000 in
theorem gL_law_X5_together : GoodIn wsL_law (wsV RL 59 RX5 yX5_together wsX5_together) := goodIn_app (goodIn_of _ (by decide +kernel)) ggL_law_X5_together
set_option maxRecDepth 20000 in
theorem ggL_law_X4_round : GoodIn wsL_law wsX4_round := goodIn_r _ [339, 130, 131, 132, 2, 133, 134, 135, 136, 137, 61, 114, 115, 116, 117, 31, 147, 148, 149, 150, 151, 152, 153, 154, 20, 19, 155, 156, 157, 18, 158, 66, 67, 41, 42, 159, 160, 161, 162, 68, 69, 70, 71, 72, 73, 74, 75, 324, 325, 326, 327, 276, 277, 278, 279, 611, 612, 613, 614, 615, 616, 617, 618, 619, 620, 642, 643, 644, 645] (by decide +kernel) (by decide +kernel)
set_option maxRecDepth 20000 in
theorem gL_law_X4_round : GoodIn wsL_law (wsV RL 60 RX4 yX4_round wsX4_round) := goodIn_app (goodIn_of _ (by decide +kernel)) ggL_law_X4_round
set_option maxRecDepth 20000 in
theorem ggL_law_X5_round : GoodIn wsL_law wsX5_round := goodIn_r _ [343, 101, 104, 92, 175, 176, 177, 5, 178, 122, 123, 124, 125, 86, 187, 188, 189, 190, 191, 192, 193, 194, 195, 196, 197, 198, 332, 333, 334, 335, 621, 622, 623, 624, 625, 626, 627, 628, 629, 630, 631, 632, 633, 634, 635, 636, 637] (by decide +kernel) (by decide +kernel)
set_option maxRecDepth 20000 in
theorem gL_law_X5_round : GoodIn wsL_law (wsV RL 63 RX5 yX5_round wsX5_round) := goodIn_app (goodIn_of _ (by decide +kernel)) ggL_law_X5_round
set_option maxRecDepth 20000 in
theorem ggL_law_X4_between : GoodIn wsL_law wsX4_between := goodIn_r _ [347, 20, 19, 348, 349, 350, 2, 351, 352, 353, 354, 355, 61, 114, 115, 116, 117, 31, 155, 156, 157, 18, 158, 66, 67, 41, 42, 356, 357, 358, 359, 68, 69, 70, 71, 72, 73, 74, 75, 324, 325, 326, 327, 276, 277, 278, 279, 611, 612, 613, 614, 615, 616, 617, 618, 619, 620, 642, 643, 644, 645] (by decide +kernel) (by decide +kernel)
set_option maxRecDepth 20000 in
theorem gL_law_X4_between : GoodIn wsL_law (wsV RL 64 RX4 yX4_between wsX4_between) := goodIn_app (goodIn_of _ (by decide +kernel)) ggL_law_X4_between
set_option maxRecDepth 20000 in
theorem ggL_law_X5_between : GoodIn wsL_law wsX5_between := goodIn_r _ [363, 104, 92, 364, 365, 366, 5, 367, 101, 223, 224, 225, 122, 123, 124, 125, 86, 368, 369, 370, 371, 195, 196, 197, 198, 332, 333, 334, 335, 621, 622, 623, 624, 625, 626, 627, 628, 629, 630, 631, 632, 633, 634, 635, 636, 637] (by decide +kernel) (by decide +kernel)
set_option maxRecDepth 20000 in
theorem gL_law_X5_between : GoodIn wsL_law (wsV RL 68 RX5 yX5_between wsX5_between) := goodIn_app (goodIn_of _ (by decide +kernel)) ggL_law_X5_between
set_option maxRecDepth 20000 in
theorem ggL_law_X4_next : GoodIn wsL_law wsX4_next := goodIn_r _ [375, 348, 349, 350, 2, 351, 352, 353, 354, 355, 61, 114, 115, 116, 117, 31, 147, 148, 149, 150, 151, 152, 153, 154, 20, 19, 155, 156, 157, 18, 158, 66, 67, 41, 42, 159, 160, 161, 162, 68, 69, 70, 71, 72, 73, 74, 75, 324, 325, 326, 327, 276, 277, 278, 279, 611, 612, 613, 614, 615, 616, 617, 618, 619, 620, 642, 643, 644, 645] (by decide +kernel) (by decide +kernel)
set_option maxRecDepth 20000 in
theorem gL_law_X4_next : GoodIn wsL_law (wsV RL 69 RX4 yX4_next wsX4_next) := goodIn_app (goodIn_of _ (by decide +kernel)) ggL_law_X4_next
set_option maxRecDepth 20000 in
theorem ggL_law_X5_next : GoodIn wsL_law wsX5_next := goodIn_r _ [379, 364, 365, 366, 5, 367, 101, 223, 224, 225, 122, 123, 124, 125, 86, 380, 329, 330, 331, 104, 92, 175, 176, 177, 178, 187, 188, 189, 190, 191, 192, 193, 194, 195, 196, 197, 198, 332, 333, 334, 335, 621, 622, 623, 624, 625, 626, 627, 628, 629, 630, 631, 632, 633, 634, 635, 636, 637] (by decide +kernel) (by decide +kernel)
set_option maxRecDepth 20000 in
theorem gL_law_X5_next : GoodIn wsL_law (wsV RL 72 RX5 yX5_next wsX5_next) := goodIn_app (goodIn_of _ (by decide +kernel)) ggL_law_X5_next
set_option maxRecDepth 20000 in
theorem ggL_law_X4_ends : GoodIn wsL_law wsX4_ends := goodIn_r _ [384, 20, 19, 352, 353, 354, 2, 355, 61, 114, 115, 116, 117, 31, 155, 156, 157, 18, 158, 66, 67, 41, 42, 385, 386, 387, 388, 68, 69, 70, 71, 72, 73, 74, 75, 324, 325, 326, 327, 276, 277, 278, 279, 611, 612, 613, 614, 615, 616, 617, 618, 619, 620, 642, 643, 644, 645] (by decide +kernel) (by decide +kernel)
set_option maxRecDepth 20000 in
theorem gL_law_X4_ends : GoodIn wsL_law (wsV RL 73 RX4 yX4_ends wsX4_ends) := goodIn_app (goodIn_of _ (by decide +kernel)) ggL_law_X4_ends
set_option maxRecDepth 20000 in
theorem ggL_law_X5_ends : GoodIn wsL_law wsX5_ends := goodIn_r _ [392, 104, 92, 101, 364, 365, 366, 5, 367, 223, 224, 225, 122, 123, 124, 125, 86, 195, 196, 197, 198, 332, 333, 334, 335, 621, 622, 623, 624, 625, 626, 627, 628, 629, 630, 631, 632, 633, 634, 635, 636, 637] (by decide +kernel) (by decide +kernel)
set_option maxRecDepth 20000 in
theorem gL_law_X5_ends : GoodIn wsL_law (wsV RL 76 RX5 yX5_ends wsX5_ends) := goodIn_app (goodIn_of _ (by decide +kernel)) ggL_law_X5_ends
set_option maxRecDepth 20000 in
theorem ggL_law_X4_apart : GoodIn wsL_law wsX4_apart := goodIn_r _ [396, 20, 19, 348, 349, 350, 2, 351, 352, 353, 354, 355, 61, 114, 115, 116, 117, 31, 155, 156, 157, 18, 158, 66, 67, 41, 42, 397, 398, 399, 400, 401, 251, 252, 253, 254, 255, 256, 402, 403, 404, 405, 72, 73, 74, 75, 611, 612, 613, 614, 615, 616, 617, 618, 619, 620, 642, 643, 644, 645] (by decide +kernel) (by decide +kernel)
set_option maxRecDepth 20000 in
theorem gL_law_X4_apart : GoodIn wsL_law (wsV RL 77 RX4 yX4_apart wsX4_apart) := goodIn_app (goodIn_of _ (by decide +kernel)) ggL_law_X4_apart
set_option maxRecDepth 20000 in
theorem ggL_law_X5_apart : GoodIn wsL_law wsX5_apart := goodIn_r _ [409, 104, 92, 410, 411, 412, 413, 364, 365, 366, 5, 367, 101, 223, 224, 225, 122, 123, 124, 125, 86, 368, 369, 370, 371, 195, 196, 197, 198, 621, 622, 623, 624, 625, 626, 627, 628, 629, 630, 631, 632, 633, 634, 635, 636, 637] (by decide +kernel) (by decide +kernel)
set_option maxRecDepth 20000 in
theorem gL_law_X5_apart : GoodIn wsL_law (wsV RL 81 RX5 yX5_apart wsX5_apart) := goodIn_app (goodIn_of _ (by decide +kernel)) ggL_law_X5_apart
set_option maxRecDepth 20000 in
theorem ggL_law_X4_knots : GoodIn wsL_law wsX4_knots := goodIn_r _ [417, 24, 418, 419, 420, 2, 421, 80, 19, 30, 292, 293, 294, 18, 295, 66, 296, 297, 298, 299, 42, 72, 73, 74, 75, 41, 300, 301, 302, 303, 422, 423, 424, 23, 425, 426, 50, 49, 427, 47, 46, 428, 429, 430, 431, 67, 432, 433, 434, 435, 436, 251, 252, 253, 254, 255, 256, 437, 438, 439, 440, 441, 442, 443, 444, 445, 446, 447, 611, 612, 613, 614, 615, 616, 617, 618, 619, 620, 646, 647, 648, 649, 650, 651, 642, 643, 644, 645] (by decide +kernel) (by decide +kernel)
set_option maxRecDepth 20000 in
theorem gL_law_X4_knots : GoodIn wsL_law (wsV RL 82 RX4 yX4_knots wsX4_knots) := goodIn_app (goodIn_of _ (by decide +kernel)) ggL_law_X4_knots
set_option maxRecDepth 20000 in
theorem ggL_law_X5_knots : GoodIn wsL_law wsX5_knots := goodIn_r _ [451, 452, 453, 454, 455, 5, 456, 105, 101, 94, 95, 457, 458, 459, 460, 104, 92, 187, 188, 189, 190, 191, 192, 193, 194, 195, 196, 197, 198, 261, 262, 263, 461, 462, 463, 464, 621, 622, 623, 624, 625, 626, 627, 628, 629, 630, 631, 632, 633, 634, 635, 636, 637] (by decide +kernel) (by decide +kernel)
set_option maxRecDepth 20000 in
theorem gL_law_X5_knots : GoodIn wsL_law (wsV RL 85 RX5 yX5_knots wsX5_knots) := goodIn_app (goodIn_of _ (by decide +kernel)) ggL_law_X5_knots
set_option maxRecDepth 20000 in
theorem ggL_law_X4_knot : GoodIn wsL_law wsX4_knot := goodIn_r _ [468, 24, 418, 419, 420, 2, 421, 80, 19, 30, 292, 293, 294, 18, 295, 66, 296, 297, 298, 299, 42, 72, 73, 74, 75, 41, 300, 301, 302, 303, 422, 423, 424, 23, 425, 426, 50, 49, 427, 47, 46, 428, 429, 430, 431, 67, 432, 433, 434, 435, 436, 251, 252, 253, 254, 255, 256, 437, 438, 439, 440, 441, 442, 443, 444, 445, 446, 447, 114, 115, 116, 117, 31, 469, 470, 471, 472, 473, 474, 475, 476, 477, 478, 479, 480, 481, 482, 483, 484, 485, 486, 611, 612, 613, 614, 615, 616, 617, 618, 619, 620, 646, 647, 648, 649, 650, 651, 642, 643, 644, 645] (by decide +kernel) (by decide +kernel)
set_option maxRecDepth 20000 in
theorem gL_law_X4_knot : GoodIn wsL_law (wsV RL 86 RX4 yX4_knot wsX4_knot) := goodIn_app (goodIn_of _ (by decide +kernel)) ggL_law_X4_knot
set_option maxRecDepth 20000 in
theorem ggL_law_X5_knot : GoodIn wsL_law wsX5_knot := goodIn_r _ [490, 452, 95, 491, 94, 96, 453, 454, 455, 5, 456, 105, 101, 457, 458, 459, 460, 104, 92, 187, 188, 189, 190, 191, 192, 193, 194, 195, 196, 197, 198, 261, 262, 263, 461, 462, 463, 464, 223, 224, 225, 122, 123, 124, 125, 86, 492, 493, 494, 495, 496, 497, 498, 499, 621, 622, 623, 624, 625, 626, 627, 628, 629, 630, 631, 632, 633, 634, 635, 636, 637] (by decide +kernel) (by decide +kernel)
set_option maxRecDepth 20000 in
theorem gL_law_X5_knot : GoodIn wsL_law (wsV RL 89 RX5 yX5_knot wsX5_knot) := goodIn_app (goodIn_of _ (by decide +kernel)) ggL_law_X5_knot
set_option maxRecDepth 20000 in
theorem ggL_law_X4_join : GoodIn wsL_law wsX4_join := goodIn_r _ [503, 24, 352, 353, 354, 2, 355, 61, 114, 115, 116, 117, 31, 418, 419, 420, 421, 80, 19, 30, 292, 293, 294, 18, 295, 66, 296, 297, 298, 299, 42, 72, 73, 74, 75, 41, 300, 301, 302, 303, 422, 423, 424, 23, 425, 426, 50, 49, 427, 47, 46, 428, 429, 430, 431, 67, 432, 433, 434, 435, 436, 251, 252, 253, 254, 255, 256, 437, 438, 439, 440, 441, 442, 443, 444, 445, 446, 447, 504, 611, 612, 613, 614, 615, 616, 617, 618, 619, 620, 642, 643, 644, 645, 646, 647, 648, 649, 650, 651] (by decide +kernel) (by decide +kernel)
set_option maxRecDepth 20000 in
theorem gL_law_X4_join : GoodIn wsL_law (wsV RL 90 RX4 yX4_join wsX4_join) := goodIn_app (goodIn_of _ (by decide +kernel)) ggL_law_X4_join
set_option maxRecDepth 20000 in
theorem ggL_law_X5_join : GoodIn wsL_law wsX5_join := goodIn_r _ [508, 364, 365, 366, 5, 367, 101, 223, 224, 225, 122, 123, 124, 125, 86, 453, 454, 455, 456, 105, 94, 452, 95, 457, 458, 459, 460, 104, 92, 187, 188, 189, 190, 191, 192, 193, 194, 195, 196, 197, 198, 261, 262, 263, 461, 462, 463, 464, 496, 497, 498, 499, 621, 622, 623, 624, 625, 626, 627, 628, 629, 630, 631, 632, 633, 634, 635, 636, 637] (by decide +kernel) (by decide +kernel)
set_option maxRecDepth 20000 in
theorem gL_law_X5_join : GoodIn wsL_law (wsV RL 93 RX5 yX5_join wsX5_join) := goodIn_app (goodIn_of _ (by decide +kernel)) ggL_law_X5_join
set_option maxRecDepth 20000 in
theorem ggL_law_X4_gaps : GoodIn wsL_law wsX4_gaps := goodIn_r _ [512, 19, 30, 28, 61, 288, 289, 290, 2, 291, 276, 277, 278, 18, 279, 42, 114, 115, 116, 117, 31, 513, 514, 515, 516, 81, 15, 517, 518, 519, 27, 520, 521, 54, 522, 523, 524, 525, 526, 251, 252, 253, 254, 255, 256, 527, 528, 529, 530, 531, 532, 533, 534, 55, 535, 536, 412, 537, 56, 538, 539, 540, 541, 73, 74, 75, 41, 292, 293, 294, 295, 66, 296, 297, 298, 299, 72, 300, 301, 302, 303, 542, 543, 544, 545, 611, 612, 613, 614, 615, 616, 617, 618, 619, 620, 642, 643, 644, 645, 652, 653, 654, 655, 638, 639, 640, 641] (by decide +kernel) (by decide +kernel)
set_option maxRecDepth 20000 in
theorem gL_law_X4_gaps : GoodIn wsL_law (wsV RL 94 RX4 yX4_gaps wsX4_gaps) := goodIn_app (goodIn_of _ (by decide +kernel)) ggL_law_X4_gaps
set_option maxRecDepth 20000 in
theorem ggL_law_X5_gaps : GoodIn wsL_law wsX5_gaps := goodIn_r _ [549, 104, 92, 223, 224, 5, 225, 550, 551, 552, 553, 102, 88, 89, 87, 191, 192, 193, 194, 101, 195, 196, 197, 198, 122, 123, 124, 125, 86, 621, 622, 623, 624, 625, 626, 627, 628, 629, 630, 631, 632, 633, 634, 635, 636, 637] (by decide +kernel) (by decide +kernel)
set_option maxRecDepth 20000 in
theorem gL_law_X5_gaps : GoodIn wsL_law (wsV RL 97 RX5 yX5_gaps wsX5_gaps) := goodIn_app (goodIn_of _ (by decide +kernel)) ggL_law_X5_gaps
set_option maxRecDepth 20000 in
theorem ggL_law_X4_best : GoodIn wsL_law wsX4_best := goodIn_r _ [557, 28, 19, 513, 514, 515, 2, 516, 81, 15, 517, 518, 519, 27, 520, 521, 54, 522, 523, 524, 525, 526, 251, 252, 253, 254, 255, 256, 527, 528, 529, 530, 531, 532, 533, 534, 55, 535, 536, 412, 537, 56, 538, 539, 540, 541, 73, 74, 18, 75, 41, 558, 559, 560, 561, 562, 563, 564, 565, 566, 301, 302, 303, 42, 72, 611, 612, 613, 614, 615, 616, 617, 618, 619, 620, 652, 653, 654, 655, 638, 639, 640, 641, 642, 643, 644, 645] (by decide +kernel) (by decide +kernel)
set_option maxRecDepth 20000 in
theorem gL_law_X4_best : GoodIn wsL_law (wsV RL 98 RX4 yX4_best wsX4_best) := goodIn_app (goodIn_of _ (by decide +kernel)) ggL_law_X4_best
set_option maxRecDepth 20000 in
theorem ggL_law_X5_best : GoodIn wsL_law wsX5_best := goodIn_r _ [570, 92, 104, 550, 551, 552, 5, 553, 102, 88, 89, 87, 191, 192, 193, 194, 101, 195, 196, 197, 198, 621, 622, 623, 624, 625, 626, 627, 628, 629, 630, 631, 632, 633, 634, 635, 636, 637] (by decide +kernel) (by decide +kernel)
set_option maxRecDepth 20000 in
theorem gL_law_X5_best : GoodIn wsL_law (wsV RL 101 RX5 yX5_best wsX5_best) := goodIn_app (goodIn_of _ (by decide +kernel)) ggL_law_X5_best
set_option maxRecDepth 20000 in
theorem ggL_law_X4_within : GoodIn wsL_law wsX4_within := goodIn_r _ [574, 28, 19, 513, 514, 515, 2, 516, 81, 15, 517, 518, 519, 27, 520, 521, 54, 522, 523, 524, 525, 526, 251, 252, 253, 254, 255, 256, 527, 528, 529, 530, 531, 532, 533, 534, 55, 535, 536, 412, 537, 56, 538, 539, 540, 541, 73, 74, 18, 75, 41, 575, 576, 577, 578, 579, 277, 278, 279, 42, 580, 581, 582, 611, 612, 613, 614, 615, 616, 617, 618, 619, 620, 652, 653, 654, 655, 638, 639, 640, 641, 642, 643, 644, 645] (by decide +kernel) (by decide +kernel)
set_option maxRecDepth 20000 in
theorem gL_law_X4_within : GoodIn wsL_law (wsV RL 102 RX4 yX4_within wsX4_within) := goodIn_app (goodIn_of _ (by decide +kernel)) ggL_law_X4_within
set_option maxRecDepth 20000 in
theorem ggL_law_X5_within : GoodIn wsL_law wsX5_within := goodIn_r _ [586, 104, 92, 550, 551, 552, 5, 553, 102, 88, 89, 87, 191, 192, 193, 194, 101, 195, 196, 197, 198, 621, 622, 623, 624, 625, 626, 627, 628, 629, 630, 631, 632, 633, 634, 635, 636, 637] (by decide +kernel) (by decide +kernel)
set_option maxRecDepth 20000 in
theorem gL_law_X5_within : GoodIn wsL_law (wsV RL 105 RX5 yX5_within wsX5_within) := goodIn_app (goodIn_of _ (by decide +kernel)) ggL_law_X5_within
set_option maxRecDepth 20000 in
theorem ggL_law_X4_spare : GoodIn wsL_law wsX4_spare := goodIn_r _ [590, 15, 20, 19, 207, 208, 209, 14, 210, 142, 114, 115, 116, 2, 117, 31, 211, 212, 213, 214, 61, 62, 63, 64, 18, 65, 66, 67, 41, 159, 160, 161, 162, 68, 69, 70, 71, 42, 72, 73, 74, 75, 276, 277, 278, 279, 611, 612, 613, 614, 615, 616, 617, 618, 619, 620, 638, 639, 640, 641, 642, 643, 644, 645] (by decide +kernel) (by decide +kernel)
set_option maxRecDepth 20000 in
theorem gL_law_X4_spare : GoodIn wsL_law (wsV RL 106 RX4 yX4_spare wsX4_spare) := goodIn_app (goodIn_of _ (by decide +kernel)) ggL_law_X4_spare
set_option maxRecDepth 20000 in
theorem ggL_law_X5_spare : GoodIn wsL_law wsX5_spare := goodIn_r _ [594, 88, 93, 104, 219, 220, 221, 5, 222, 102, 223, 224, 225, 122, 123, 124, 125, 86, 226, 227, 228, 229, 103, 91, 87, 199, 200, 201, 202, 187, 188, 189, 190, 191, 192, 193, 194, 101, 195, 196, 197, 198, 621, 622, 623, 624, 625, 626, 627, 628, 629, 630, 631, 632, 633, 634, 635, 636, 637] (by decide +kernel) (by decide +kernel)
set_option maxRecDepth 20000 in
theorem gL_law_X5_spare : GoodIn wsL_law (wsV RL 109 RX5 yX5_spare wsX5_spare) := goodIn_app (goodIn_of _ (by decide +kernel)) ggL_law_X5_spare
set_option maxRecDepth 20000 in
theorem ggL_law_X4_count : GoodIn wsL_law wsX4_count := goodIn_r _ [598, 31, 61, 15, 599, 600, 601, 14, 602, 142, 36, 611, 612, 613, 614, 615, 616, 617, 618, 619, 620, 638, 639, 640, 641] (by decide +kernel) (by decide +kernel)
set_option maxRecDepth 20000 in
theorem gL_law_X4_count : GoodIn wsL_law (wsV RL 110 RX4 yX4_count wsX4_count) := goodIn_app (goodIn_of _ (by decide +kernel)) ggL_law_X4_count
set_option maxRecDepth 20000 in
theorem ggL_law_X5_count : GoodIn wsL_law wsX5_count := goodIn_r _ [606, 86, 101, 102, 607, 608, 609, 5, 610, 88, 621, 622, 623, 624, 625, 626, 627, 628, 629, 630, 631, 632, 633, 634, 635, 636, 637] (by decide +kernel) (by decide +kernel)
set_option maxRecDepth 20000 in
theorem gL_law_X5_count : GoodIn wsL_law (wsV RL 113 RX5 yX5_count wsX5_count) := goodIn_app (goodIn_of _ (by decide +kernel)) ggL_law_X5_count
theorem dL_law_0 : decode cL_law 0 = .ok (.new 7, 3) := by decide +kernel
theorem dL_law_3 : decode cL_law 3 = .ok (.dup, 1) := by decide +kernel
theorem dL_law_4 : decode cL_law 4 = .ok (.invokespecial 9, 3) := by decide +kernel
theorem dL_law_7 : decode cL_law 7 = .ok (.astore_n 1, 1) := by decide +kernel
theorem dL_law_8 : decode cL_law 8 = .ok (.new 10, 3) := by decide +kernel
theorem dL_law_11 : decode cL_law 11 = .ok (.dup, 1) := by decide +kernel
theorem dL_law_12 : decode cL_law 12 = .ok (.invokespecial 12, 3) := by decide +kernel
theorem dL_law_15 : decode cL_law 15 = .ok (.astore_n 2, 1) := by decide +kernel
theorem dL_law_16 : decode cL_law 16 = .ok (.iconst 0, 1) := by decide +kernel
theorem dL_law_17 : decode cL_law 17 = .ok (.istore_n 3, 1) := by decide +kernel
theorem dL_law_18 : decode cL_law 18 = .ok (.iload_n 3, 1) := by decide +kernel
theorem dL_law_19 : decode cL_law 19 = .ok (.aload_n 0, 1) := by decide +kernel
theorem dL_law_20 : decode cL_law 20 = .ok (.arraylength, 1) := by decide +kernel
theorem dL_law_21 : decode cL_law 21 = .ok (.iconst 4, 1) := by decide +kernel
theorem dL_law_22 : decode cL_law 22 = .ok (.isub, 1) := by decide +kernel
theorem dL_law_23 : decode cL_law 23 = .ok (.if_icmp .gt 765, 3) := by decide +kernel
theorem dL_law_26 : decode cL_law 26 = .ok (.aload_n 0, 1) := by decide +kernel
theorem dL_law_27 : decode cL_law 27 = .ok (.iload_n 3, 1) := by decide +kernel
theorem dL_law_28 : decode cL_law 28 = .ok (.iaload, 1) := by decide +kernel
theorem dL_law_29 : decode cL_law 29 = .ok (.bipush 31, 2) := by decide +kernel
theorem dL_law_31 : decode cL_law 31 = .ok (.iand, 1) := by decide +kernel
theorem dL_law_32 : decode cL_law 32 = .ok (.tableswitch 750 0 23 #[112, 135, 158, 181, 204, 237, 270, 293, 306, 339, 362, 385, 408, 451, 484, 507, 566, 579, 612, 645, 668, 681, 704, 727], 112) := by decide +kernel
theorem dL_law_144 : decode cL_law 144 = .ok (.aload_n 1, 1) := by decide +kernel
theorem dL_law_145 : decode cL_law 145 = .ok (.aload_n 0, 1) := by decide +kernel
theorem dL_law_146 : decode cL_law 146 = .ok (.iload_n 3, 1) := by decide +kernel
theorem dL_law_147 : decode cL_law 147 = .ok (.iconst 1, 1) := by decide +kernel
theorem dL_law_148 : decode cL_law 148 = .ok (.iadd, 1) := by decide +kernel
theorem dL_law_149 : decode cL_law 149 = .ok (.iaload, 1) := by decide +kernel
theorem dL_law_150 : decode cL_law 150 = .ok (.invokevirtual 13, 3) := by decide +kernel
theorem dL_law_153 : decode cL_law 153 = .ok (.aload_n 2, 1) := by decide +kernel
theorem dL_law_154 : decode cL_law 154 = .ok (.aload_n 0, 1) := by decide +kernel
theorem dL_law_155 : decode cL_law 155 = .ok (.iload_n 3, 1) := by decide +kernel
theorem dL_law_156 : decode cL_law 156 = .ok (.iconst 1, 1) := by decide +kernel
theorem dL_law_157 : decode cL_law 157 = .ok (.iadd, 1) := by decide +kernel
theorem dL_law_158 : decode cL_law 158 = .ok (.iaload, 1) := by decide +kernel
theorem dL_law_159 : decode cL_law 159 = .ok (.invokevirtual 17, 3) := by decide +kernel
theorem dL_law_162 : decode cL_law 162 = .ok (.if_icmp .eq 620, 3) := by decide +kernel
theorem dL_law_165 : decode cL_law 165 = .ok (.iconst 0, 1) := by decide +kernel
theorem dL_law_166 : decode cL_law 166 = .ok (.ireturn, 1) := by decide +kernel
theorem dL_law_167 : decode cL_law 167 = .ok (.aload_n 1, 1) := by decide +kernel
theorem dL_law_168 : decode cL_law 168 = .ok (.aload_n 0, 1) := by decide +kernel
theorem dL_law_169 : decode cL_law 169 = .ok (.iload_n 3, 1) := by decide +kernel
theorem dL_law_170 : decode cL_law 170 = .ok (.iconst 1, 1) := by decide +kernel
theorem dL_law_171 : decode cL_law 171 = .ok (.iadd, 1) := by decide +kernel
theorem dL_law_172 : decode cL_law 172 = .ok (.iaload, 1) := by decide +kernel
theorem dL_law_173 : decode cL_law 173 = .ok (.invokevirtual 18, 3) := by decide +kernel
theorem dL_law_176 : decode cL_law 176 = .ok (.aload_n 2, 1) := by decide +kernel
theorem dL_law_177 : decode cL_law 177 = .ok (.aload_n 0, 1) := by decide +kernel
theorem dL_law_178 : decode cL_law 178 = .ok (.iload_n 3, 1) := by decide +kernel
theorem dL_law_179 : decode cL_law 179 = .ok (.iconst 1, 1) := by decide +kernel
theorem dL_law_180 : decode cL_law 180 = .ok (.iadd, 1) := by decide +kernel
theorem dL_law_181 : decode cL_law 181 = .ok (.iaload, 1) := by decide +kernel
theorem dL_law_182 : decode cL_law 182 = .ok (.invokevirtual 21, 3) := by decide +kernel
theorem dL_law_185 : decode cL_law 185 = .ok (.if_icmp .eq 597, 3) := by decide +kernel
theorem dL_law_188 : decode cL_law 188 = .ok (.iconst 0, 1) := by decide +kernel
theorem dL_law_189 : decode cL_law 189 = .ok (.ireturn, 1) := by decide +kernel
theorem dL_law_190 : decode cL_law 190 = .ok (.aload_n 1, 1) := by decide +kernel
theorem dL_law_191 : decode cL_law 191 = .ok (.aload_n 0, 1) := by decide +kernel
theorem dL_law_192 : decode cL_law 192 = .ok (.iload_n 3, 1) := by decide +kernel
theorem dL_law_193 : decode cL_law 193 = .ok (.iconst 1, 1) := by decide +kernel
theorem dL_law_194 : decode cL_law 194 = .ok (.iadd, 1) := by decide +kernel
theorem dL_law_195 : decode cL_law 195 = .ok (.iaload, 1) := by decide +kernel
theorem dL_law_196 : decode cL_law 196 = .ok (.invokevirtual 22, 3) := by decide +kernel
theorem dL_law_199 : decode cL_law 199 = .ok (.aload_n 2, 1) := by decide +kernel
theorem dL_law_200 : decode cL_law 200 = .ok (.aload_n 0, 1) := by decide +kernel
theorem dL_law_201 : decode cL_law 201 = .ok (.iload_n 3, 1) := by decide +kernel
theorem dL_law_202 : decode cL_law 202 = .ok (.iconst 1, 1) := by decide +kernel
theorem dL_law_203 : decode cL_law 203 = .ok (.iadd, 1) := by decide +kernel
theorem dL_law_204 : decode cL_law 204 = .ok (.iaload, 1) := by decide +kernel
theorem dL_law_205 : decode cL_law 205 = .ok (.invokevirtual 25, 3) := by decide +kernel
theorem dL_law_208 : decode cL_law 208 = .ok (.if_icmp .eq 574, 3) := by decide +kernel
theorem dL_law_211 : decode cL_law 211 = .ok (.iconst 0, 1) := by decide +kernel
theorem dL_law_212 : decode cL_law 212 = .ok (.ireturn, 1) := by decide +kernel
theorem dL_law_213 : decode cL_law 213 = .ok (.aload_n 1, 1) := by decide +kernel
theorem dL_law_214 : decode cL_law 214 = .ok (.aload_n 0, 1) := by decide +kernel
theorem dL_law_215 : decode cL_law 215 = .ok (.iload_n 3, 1) := by decide +kernel
theorem dL_law_216 : decode cL_law 216 = .ok (.iconst 1, 1) := by decide +kernel
theorem dL_law_217 : decode cL_law 217 = .ok (.iadd, 1) := by decide +kernel
theorem dL_law_218 : decode cL_law 218 = .ok (.iaload, 1) := by decide +kernel
theorem dL_law_219 : decode cL_law 219 = .ok (.invokevirtual 26, 3) := by decide +kernel
theorem dL_law_222 : decode cL_law 222 = .ok (.aload_n 2, 1) := by decide +kernel
theorem dL_law_223 : decode cL_law 223 = .ok (.aload_n 0, 1) := by decide +kernel
theorem dL_law_224 : decode cL_law 224 = .ok (.iload_n 3, 1) := by decide +kernel
theorem dL_law_225 : decode cL_law 225 = .ok (.iconst 1, 1) := by decide +kernel
theorem dL_law_226 : decode cL_law 226 = .ok (.iadd, 1) := by decide +kernel
theorem dL_law_227 : decode cL_law 227 = .ok (.iaload, 1) := by decide +kernel
theorem dL_law_228 : decode cL_law 228 = .ok (.invokevirtual 29, 3) := by decide +kernel
theorem dL_law_231 : decode cL_law 231 = .ok (.if_icmp .eq 551, 3) := by decide +kernel
theorem dL_law_234 : decode cL_law 234 = .ok (.iconst 0, 1) := by decide +kernel
theorem dL_law_235 : decode cL_law 235 = .ok (.ireturn, 1) := by decide +kernel
theorem dL_law_236 : decode cL_law 236 = .ok (.aload_n 1, 1) := by decide +kernel
theorem dL_law_237 : decode cL_law 237 = .ok (.aload_n 0, 1) := by decide +kernel
theorem dL_law_238 : decode cL_law 238 = .ok (.iload_n 3, 1) := by decide +kernel
theorem dL_law_239 : decode cL_law 239 = .ok (.iconst 1, 1) := by decide +kernel
theorem dL_law_240 : decode cL_law 240 = .ok (.iadd, 1) := by decide +kernel
theorem dL_law_241 : decode cL_law 241 = .ok (.iaload, 1) := by decide +kernel
theorem dL_law_242 : decode cL_law 242 = .ok (.aload_n 0, 1) := by decide +kernel
theorem dL_law_243 : decode cL_law 243 = .ok (.iload_n 3, 1) := by decide +kernel
theorem dL_law_244 : decode cL_law 244 = .ok (.iconst 2, 1) := by decide +kernel
theorem dL_law_245 : decode cL_law 245 = .ok (.iadd, 1) := by decide +kernel
theorem dL_law_246 : decode cL_law 246 = .ok (.iaload, 1) := by decide +kernel
theorem dL_law_247 : decode cL_law 247 = .ok (.invokevirtual 30, 3) := by decide +kernel
theorem dL_law_250 : decode cL_law 250 = .ok (.aload_n 2, 1) := by decide +kernel
theorem dL_law_251 : decode cL_law 251 = .ok (.aload_n 0, 1) := by decide +kernel
theorem dL_law_252 : decode cL_law 252 = .ok (.iload_n 3, 1) := by decide +kernel
theorem dL_law_253 : decode cL_law 253 = .ok (.iconst 1, 1) := by decide +kernel
theorem dL_law_254 : decode cL_law 254 = .ok (.iadd, 1) := by decide +kernel
theorem dL_law_255 : decode cL_law 255 = .ok (.iaload, 1) := by decide +kernel
theorem dL_law_256 : decode cL_law 256 = .ok (.aload_n 0, 1) := by decide +kernel
theorem dL_law_257 : decode cL_law 257 = .ok (.iload_n 3, 1) := by decide +kernel
theorem dL_law_258 : decode cL_law 258 = .ok (.iconst 2, 1) := by decide +kernel
theorem dL_law_259 : decode cL_law 259 = .ok (.iadd, 1) := by decide +kernel
theorem dL_law_260 : decode cL_law 260 = .ok (.iaload, 1) := by decide +kernel
theorem dL_law_261 : decode cL_law 261 = .ok (.invokevirtual 34, 3) := by decide +kernel
theorem dL_law_264 : decode cL_law 264 = .ok (.if_icmp .eq 518, 3) := by decide +kernel
theorem dL_law_267 : decode cL_law 267 = .ok (.iconst 0, 1) := by decide +kernel
theorem dL_law_268 : decode cL_law 268 = .ok (.ireturn, 1) := by decide +kernel
theorem dL_law_269 : decode cL_law 269 = .ok (.aload_n 1, 1) := by decide +kernel
theorem dL_law_270 : decode cL_law 270 = .ok (.aload_n 0, 1) := by decide +kernel
theorem dL_law_271 : decode cL_law 271 = .ok (.iload_n 3, 1) := by decide +kernel
theorem dL_law_272 : decode cL_law 272 = .ok (.iconst 1, 1) := by decide +kernel
theorem dL_law_273 : decode cL_law 273 = .ok (.iadd, 1) := by decide +kernel
theorem dL_law_274 : decode cL_law 274 = .ok (.iaload, 1) := by decide +kernel
theorem dL_law_275 : decode cL_law 275 = .ok (.aload_n 0, 1) := by decide +kernel
theorem dL_law_276 : decode cL_law 276 = .ok (.iload_n 3, 1) := by decide +kernel
theorem dL_law_277 : decode cL_law 277 = .ok (.iconst 2, 1) := by decide +kernel
theorem dL_law_278 : decode cL_law 278 = .ok (.iadd, 1) := by decide +kernel
theorem dL_law_279 : decode cL_law 279 = .ok (.iaload, 1) := by decide +kernel
theorem dL_law_280 : decode cL_law 280 = .ok (.invokevirtual 35, 3) := by decide +kernel
theorem dL_law_283 : decode cL_law 283 = .ok (.aload_n 2, 1) := by decide +kernel
theorem dL_law_284 : decode cL_law 284 = .ok (.aload_n 0, 1) := by decide +kernel
theorem dL_law_285 : decode cL_law 285 = .ok (.iload_n 3, 1) := by decide +kernel
theorem dL_law_286 : decode cL_law 286 = .ok (.iconst 1, 1) := by decide +kernel
theorem dL_law_287 : decode cL_law 287 = .ok (.iadd, 1) := by decide +kernel
theorem dL_law_288 : decode cL_law 288 = .ok (.iaload, 1) := by decide +kernel
theorem dL_law_289 : decode cL_law 289 = .ok (.aload_n 0, 1) := by decide +kernel
theorem dL_law_290 : decode cL_law 290 = .ok (.iload_n 3, 1) := by decide +kernel
theorem dL_law_291 : decode cL_law 291 = .ok (.iconst 2, 1) := by decide +kernel
theorem dL_law_292 : decode cL_law 292 = .ok (.iadd, 1) := by decide +kernel
theorem dL_law_293 : decode cL_law 293 = .ok (.iaload, 1) := by decide +kernel
theorem dL_law_294 : decode cL_law 294 = .ok (.invokevirtual 38, 3) := by decide +kernel
theorem dL_law_297 : decode cL_law 297 = .ok (.if_icmp .eq 485, 3) := by decide +kernel
theorem dL_law_300 : decode cL_law 300 = .ok (.iconst 0, 1) := by decide +kernel
theorem dL_law_301 : decode cL_law 301 = .ok (.ireturn, 1) := by decide +kernel
theorem dL_law_302 : decode cL_law 302 = .ok (.aload_n 1, 1) := by decide +kernel
theorem dL_law_303 : decode cL_law 303 = .ok (.aload_n 0, 1) := by decide +kernel
theorem dL_law_304 : decode cL_law 304 = .ok (.iload_n 3, 1) := by decide +kernel
theorem dL_law_305 : decode cL_law 305 = .ok (.iconst 1, 1) := by decide +kernel
theorem dL_law_306 : decode cL_law 306 = .ok (.iadd, 1) := by decide +kernel
theorem dL_law_307 : decode cL_law 307 = .ok (.iaload, 1) := by decide +kernel
theorem dL_law_308 : decode cL_law 308 = .ok (.invokevirtual 39, 3) := by decide +kernel
theorem dL_law_311 : decode cL_law 311 = .ok (.aload_n 2, 1) := by decide +kernel
theorem dL_law_312 : decode cL_law 312 = .ok (.aload_n 0, 1) := by decide +kernel
theorem dL_law_313 : decode cL_law 313 = .ok (.iload_n 3, 1) := by decide +kernel
theorem dL_law_314 : decode cL_law 314 = .ok (.iconst 1, 1) := by decide +kernel
theorem dL_law_315 : decode cL_law 315 = .ok (.iadd, 1) := by decide +kernel
theorem dL_law_316 : decode cL_law 316 = .ok (.iaload, 1) := by decide +kernel
theorem dL_law_317 : decode cL_law 317 = .ok (.invokevirtual 42, 3) := by decide +kernel
theorem dL_law_320 : decode cL_law 320 = .ok (.if_icmp .eq 462, 3) := by decide +kernel
theorem dL_law_323 : decode cL_law 323 = .ok (.iconst 0, 1) := by decide +kernel
theorem dL_law_324 : decode cL_law 324 = .ok (.ireturn, 1) := by decide +kernel
theorem dL_law_325 : decode cL_law 325 = .ok (.aload_n 1, 1) := by decide +kernel
theorem dL_law_326 : decode cL_law 326 = .ok (.invokevirtual 43, 3) := by decide +kernel
theorem dL_law_329 : decode cL_law 329 = .ok (.aload_n 2, 1) := by decide +kernel
theorem dL_law_330 : decode cL_law 330 = .ok (.invokevirtual 47, 3) := by decide +kernel
theorem dL_law_333 : decode cL_law 333 = .ok (.if_icmp .eq 449, 3) := by decide +kernel
theorem dL_law_336 : decode cL_law 336 = .ok (.iconst 0, 1) := by decide +kernel
theorem dL_law_337 : decode cL_law 337 = .ok (.ireturn, 1) := by decide +kernel
theorem dL_law_338 : decode cL_law 338 = .ok (.aload_n 1, 1) := by decide +kernel
theorem dL_law_339 : decode cL_law 339 = .ok (.aload_n 0, 1) := by decide +kernel
theorem dL_law_340 : decode cL_law 340 = .ok (.iload_n 3, 1) := by decide +kernel
theorem dL_law_341 : decode cL_law 341 = .ok (.iconst 1, 1) := by decide +kernel
theorem dL_law_342 : decode cL_law 342 = .ok (.iadd, 1) := by decide +kernel
theorem dL_law_343 : decode cL_law 343 = .ok (.iaload, 1) := by decide +kernel
theorem dL_law_344 : decode cL_law 344 = .ok (.aload_n 0, 1) := by decide +kernel
theorem dL_law_345 : decode cL_law 345 = .ok (.iload_n 3, 1) := by decide +kernel
theorem dL_law_346 : decode cL_law 346 = .ok (.iconst 2, 1) := by decide +kernel
theorem dL_law_347 : decode cL_law 347 = .ok (.iadd, 1) := by decide +kernel
theorem dL_law_348 : decode cL_law 348 = .ok (.iaload, 1) := by decide +kernel
theorem dL_law_349 : decode cL_law 349 = .ok (.invokevirtual 48, 3) := by decide +kernel
theorem dL_law_352 : decode cL_law 352 = .ok (.aload_n 2, 1) := by decide +kernel
theorem dL_law_353 : decode cL_law 353 = .ok (.aload_n 0, 1) := by decide +kernel
theorem dL_law_354 : decode cL_law 354 = .ok (.iload_n 3, 1) := by decide +kernel
theorem dL_law_355 : decode cL_law 355 = .ok (.iconst 1, 1) := by decide +kernel
theorem dL_law_356 : decode cL_law 356 = .ok (.iadd, 1) := by decide +kernel
theorem dL_law_357 : decode cL_law 357 = .ok (.iaload, 1) := by decide +kernel
theorem dL_law_358 : decode cL_law 358 = .ok (.aload_n 0, 1) := by decide +kernel
theorem dL_law_359 : decode cL_law 359 = .ok (.iload_n 3, 1) := by decide +kernel
theorem dL_law_360 : decode cL_law 360 = .ok (.iconst 2, 1) := by decide +kernel
theorem dL_law_361 : decode cL_law 361 = .ok (.iadd, 1) := by decide +kernel
theorem dL_law_362 : decode cL_law 362 = .ok (.iaload, 1) := by decide +kernel
theorem dL_law_363 : decode cL_law 363 = .ok (.invokevirtual 51, 3) := by decide +kernel
theorem dL_law_366 : decode cL_law 366 = .ok (.if_icmp .eq 416, 3) := by decide +kernel
theorem dL_law_369 : decode cL_law 369 = .ok (.iconst 0, 1) := by decide +kernel
theorem dL_law_370 : decode cL_law 370 = .ok (.ireturn, 1) := by decide +kernel
theorem dL_law_371 : decode cL_law 371 = .ok (.aload_n 1, 1) := by decide +kernel
theorem dL_law_372 : decode cL_law 372 = .ok (.aload_n 0, 1) := by decide +kernel
theorem dL_law_373 : decode cL_law 373 = .ok (.iload_n 3, 1) := by decide +kernel
theorem dL_law_374 : decode cL_law 374 = .ok (.iconst 1, 1) := by decide +kernel
theorem dL_law_375 : decode cL_law 375 = .ok (.iadd, 1) := by decide +kernel
theorem dL_law_376 : decode cL_law 376 = .ok (.iaload, 1) := by decide +kernel
theorem dL_law_377 : decode cL_law 377 = .ok (.invokevirtual 52, 3) := by decide +kernel
theorem dL_law_380 : decode cL_law 380 = .ok (.aload_n 2, 1) := by decide +kernel
theorem dL_law_381 : decode cL_law 381 = .ok (.aload_n 0, 1) := by decide +kernel
theorem dL_law_382 : decode cL_law 382 = .ok (.iload_n 3, 1) := by decide +kernel
theorem dL_law_383 : decode cL_law 383 = .ok (.iconst 1, 1) := by decide +kernel
theorem dL_law_384 : decode cL_law 384 = .ok (.iadd, 1) := by decide +kernel
theorem dL_law_385 : decode cL_law 385 = .ok (.iaload, 1) := by decide +kernel
theorem dL_law_386 : decode cL_law 386 = .ok (.invokevirtual 55, 3) := by decide +kernel
theorem dL_law_389 : decode cL_law 389 = .ok (.if_icmp .eq 393, 3) := by decide +kernel
theorem dL_law_392 : decode cL_law 392 = .ok (.iconst 0, 1) := by decide +kernel
theorem dL_law_393 : decode cL_law 393 = .ok (.ireturn, 1) := by decide +kernel
theorem dL_law_394 : decode cL_law 394 = .ok (.aload_n 1, 1) := by decide +kernel
theorem dL_law_395 : decode cL_law 395 = .ok (.aload_n 0, 1) := by decide +kernel
theorem dL_law_396 : decode cL_law 396 = .ok (.iload_n 3, 1) := by decide +kernel
theorem dL_law_397 : decode cL_law 397 = .ok (.iconst 1, 1) := by decide +kernel
theorem dL_law_398 : decode cL_law 398 = .ok (.iadd, 1) := by decide +kernel
theorem dL_law_399 : decode cL_law 399 = .ok (.iaload, 1) := by decide +kernel
theorem dL_law_400 : decode cL_law 400 = .ok (.invokevirtual 56, 3) := by decide +kernel
theorem dL_law_403 : decode cL_law 403 = .ok (.aload_n 2, 1) := by decide +kernel
theorem dL_law_404 : decode cL_law 404 = .ok (.aload_n 0, 1) := by decide +kernel
theorem dL_law_405 : decode cL_law 405 = .ok (.iload_n 3, 1) := by decide +kernel
theorem dL_law_406 : decode cL_law 406 = .ok (.iconst 1, 1) := by decide +kernel
theorem dL_law_407 : decode cL_law 407 = .ok (.iadd, 1) := by decide +kernel
theorem dL_law_408 : decode cL_law 408 = .ok (.iaload, 1) := by decide +kernel
theorem dL_law_409 : decode cL_law 409 = .ok (.invokevirtual 59, 3) := by decide +kernel
theorem dL_law_412 : decode cL_law 412 = .ok (.if_icmp .eq 370, 3) := by decide +kernel
theorem dL_law_415 : decode cL_law 415 = .ok (.iconst 0, 1) := by decide +kernel
theorem dL_law_416 : decode cL_law 416 = .ok (.ireturn, 1) := by decide +kernel
theorem dL_law_417 : decode cL_law 417 = .ok (.aload_n 1, 1) := by decide +kernel
theorem dL_law_418 : decode cL_law 418 = .ok (.aload_n 0, 1) := by decide +kernel
theorem dL_law_419 : decode cL_law 419 = .ok (.iload_n 3, 1) := by decide +kernel
theorem dL_law_420 : decode cL_law 420 = .ok (.iconst 1, 1) := by decide +kernel
theorem dL_law_421 : decode cL_law 421 = .ok (.iadd, 1) := by decide +kernel
theorem dL_law_422 : decode cL_law 422 = .ok (.iaload, 1) := by decide +kernel
theorem dL_law_423 : decode cL_law 423 = .ok (.invokevirtual 60, 3) := by decide +kernel
theorem dL_law_426 : decode cL_law 426 = .ok (.aload_n 2, 1) := by decide +kernel
theorem dL_law_427 : decode cL_law 427 = .ok (.aload_n 0, 1) := by decide +kernel
theorem dL_law_428 : decode cL_law 428 = .ok (.iload_n 3, 1) := by decide +kernel
theorem dL_law_429 : decode cL_law 429 = .ok (.iconst 1, 1) := by decide +kernel
theorem dL_law_430 : decode cL_law 430 = .ok (.iadd, 1) := by decide +kernel
theorem dL_law_431 : decode cL_law 431 = .ok (.iaload, 1) := by decide +kernel
theorem dL_law_432 : decode cL_law 432 = .ok (.invokevirtual 63, 3) := by decide +kernel
theorem dL_law_435 : decode cL_law 435 = .ok (.if_icmp .eq 347, 3) := by decide +kernel
theorem dL_law_438 : decode cL_law 438 = .ok (.iconst 0, 1) := by decide +kernel
theorem dL_law_439 : decode cL_law 439 = .ok (.ireturn, 1) := by decide +kernel
theorem dL_law_440 : decode cL_law 440 = .ok (.aload_n 1, 1) := by decide +kernel
theorem dL_law_441 : decode cL_law 441 = .ok (.aload_n 0, 1) := by decide +kernel
theorem dL_law_442 : decode cL_law 442 = .ok (.iload_n 3, 1) := by decide +kernel
theorem dL_law_443 : decode cL_law 443 = .ok (.iconst 1, 1) := by decide +kernel
theorem dL_law_444 : decode cL_law 444 = .ok (.iadd, 1) := by decide +kernel
theorem dL_law_445 : decode cL_law 445 = .ok (.iaload, 1) := by decide +kernel
theorem dL_law_446 : decode cL_law 446 = .ok (.aload_n 0, 1) := by decide +kernel
theorem dL_law_447 : decode cL_law 447 = .ok (.iload_n 3, 1) := by decide +kernel
theorem dL_law_448 : decode cL_law 448 = .ok (.iconst 2, 1) := by decide +kernel
theorem dL_law_449 : decode cL_law 449 = .ok (.iadd, 1) := by decide +kernel
theorem dL_law_450 : decode cL_law 450 = .ok (.iaload, 1) := by decide +kernel
theorem dL_law_451 : decode cL_law 451 = .ok (.aload_n 0, 1) := by decide +kernel
theorem dL_law_452 : decode cL_law 452 = .ok (.iload_n 3, 1) := by decide +kernel
theorem dL_law_453 : decode cL_law 453 = .ok (.iconst 3, 1) := by decide +kernel
theorem dL_law_454 : decode cL_law 454 = .ok (.iadd, 1) := by decide +kernel
theorem dL_law_455 : decode cL_law 455 = .ok (.iaload, 1) := by decide +kernel
theorem dL_law_456 : decode cL_law 456 = .ok (.invokevirtual 64, 3) := by decide +kernel
theorem dL_law_459 : decode cL_law 459 = .ok (.aload_n 2, 1) := by decide +kernel
theorem dL_law_460 : decode cL_law 460 = .ok (.aload_n 0, 1) := by decide +kernel
theorem dL_law_461 : decode cL_law 461 = .ok (.iload_n 3, 1) := by decide +kernel
theorem dL_law_462 : decode cL_law 462 = .ok (.iconst 1, 1) := by decide +kernel
theorem dL_law_463 : decode cL_law 463 = .ok (.iadd, 1) := by decide +kernel
theorem dL_law_464 : decode cL_law 464 = .ok (.iaload, 1) := by decide +kernel
theorem dL_law_465 : decode cL_law 465 = .ok (.aload_n 0, 1) := by decide +kernel
theorem dL_law_466 : decode cL_law 466 = .ok (.iload_n 3, 1) := by decide +kernel
theorem dL_law_467 : decode cL_law 467 = .ok (.iconst 2, 1) := by decide +kernel
theorem dL_law_468 : decode cL_law 468 = .ok (.iadd, 1) := by decide +kernel
theorem dL_law_469 : decode cL_law 469 = .ok (.iaload, 1) := by decide +kernel
theorem dL_law_470 : decode cL_law 470 = .ok (.aload_n 0, 1) := by decide +kernel
theorem dL_law_471 : decode cL_law 471 = .ok (.iload_n 3, 1) := by decide +kernel
theorem dL_law_472 : decode cL_law 472 = .ok (.iconst 3, 1) := by decide +kernel
theorem dL_law_473 : decode cL_law 473 = .ok (.iadd, 1) := by decide +kernel
theorem dL_law_474 : decode cL_law 474 = .ok (.iaload, 1) := by decide +kernel
theorem dL_law_475 : decode cL_law 475 = .ok (.invokevirtual 68, 3) := by decide +kernel
theorem dL_law_478 : decode cL_law 478 = .ok (.if_icmp .eq 304, 3) := by decide +kernel
theorem dL_law_481 : decode cL_law 481 = .ok (.iconst 0, 1) := by decide +kernel
theorem dL_law_482 : decode cL_law 482 = .ok (.ireturn, 1) := by decide +kernel
theorem dL_law_483 : decode cL_law 483 = .ok (.aload_n 1, 1) := by decide +kernel
theorem dL_law_484 : decode cL_law 484 = .ok (.aload_n 0, 1) := by decide +kernel
theorem dL_law_485 : decode cL_law 485 = .ok (.iload_n 3, 1) := by decide +kernel
theorem dL_law_486 : decode cL_law 486 = .ok (.iconst 1, 1) := by decide +kernel
theorem dL_law_487 : decode cL_law 487 = .ok (.iadd, 1) := by decide +kernel
theorem dL_law_488 : decode cL_law 488 = .ok (.iaload, 1) := by decide +kernel
theorem dL_law_489 : decode cL_law 489 = .ok (.aload_n 0, 1) := by decide +kernel
theorem dL_law_490 : decode cL_law 490 = .ok (.iload_n 3, 1) := by decide +kernel
theorem dL_law_491 : decode cL_law 491 = .ok (.iconst 2, 1) := by decide +kernel
theorem dL_law_492 : decode cL_law 492 = .ok (.iadd, 1) := by decide +kernel
theorem dL_law_493 : decode cL_law 493 = .ok (.iaload, 1) := by decide +kernel
theorem dL_law_494 : decode cL_law 494 = .ok (.invokevirtual 69, 3) := by decide +kernel
theorem dL_law_497 : decode cL_law 497 = .ok (.aload_n 2, 1) := by decide +kernel
theorem dL_law_498 : decode cL_law 498 = .ok (.aload_n 0, 1) := by decide +kernel
theorem dL_law_499 : decode cL_law 499 = .ok (.iload_n 3, 1) := by decide +kernel
theorem dL_law_500 : decode cL_law 500 = .ok (.iconst 1, 1) := by decide +kernel
theorem dL_law_501 : decode cL_law 501 = .ok (.iadd, 1) := by decide +kernel
theorem dL_law_502 : decode cL_law 502 = .ok (.iaload, 1) := by decide +kernel
theorem dL_law_503 : decode cL_law 503 = .ok (.aload_n 0, 1) := by decide +kernel
theorem dL_law_504 : decode cL_law 504 = .ok (.iload_n 3, 1) := by decide +kernel
theorem dL_law_505 : decode cL_law 505 = .ok (.iconst 2, 1) := by decide +kernel
theorem dL_law_506 : decode cL_law 506 = .ok (.iadd, 1) := by decide +kernel
theorem dL_law_507 : decode cL_law 507 = .ok (.iaload, 1) := by decide +kernel
theorem dL_law_508 : decode cL_law 508 = .ok (.invokevirtual 72, 3) := by decide +kernel
theorem dL_law_511 : decode cL_law 511 = .ok (.if_icmp .eq 271, 3) := by decide +kernel
theorem dL_law_514 : decode cL_law 514 = .ok (.iconst 0, 1) := by decide +kernel
theorem dL_law_515 : decode cL_law 515 = .ok (.ireturn, 1) := by decide +kernel
theorem dL_law_516 : decode cL_law 516 = .ok (.aload_n 1, 1) := by decide +kernel
theorem dL_law_517 : decode cL_law 517 = .ok (.aload_n 0, 1) := by decide +kernel
theorem dL_law_518 : decode cL_law 518 = .ok (.iload_n 3, 1) := by decide +kernel
theorem dL_law_519 : decode cL_law 519 = .ok (.iconst 1, 1) := by decide +kernel
theorem dL_law_520 : decode cL_law 520 = .ok (.iadd, 1) := by decide +kernel
theorem dL_law_521 : decode cL_law 521 = .ok (.iaload, 1) := by decide +kernel
theorem dL_law_522 : decode cL_law 522 = .ok (.invokevirtual 73, 3) := by decide +kernel
theorem dL_law_525 : decode cL_law 525 = .ok (.aload_n 2, 1) := by decide +kernel
theorem dL_law_526 : decode cL_law 526 = .ok (.aload_n 0, 1) := by decide +kernel
theorem dL_law_527 : decode cL_law 527 = .ok (.iload_n 3, 1) := by decide +kernel
theorem dL_law_528 : decode cL_law 528 = .ok (.iconst 1, 1) := by decide +kernel
theorem dL_law_529 : decode cL_law 529 = .ok (.iadd, 1) := by decide +kernel
theorem dL_law_530 : decode cL_law 530 = .ok (.iaload, 1) := by decide +kernel
theorem dL_law_531 : decode cL_law 531 = .ok (.invokevirtual 76, 3) := by decide +kernel
theorem dL_law_534 : decode cL_law 534 = .ok (.if_icmp .eq 248, 3) := by decide +kernel
theorem dL_law_537 : decode cL_law 537 = .ok (.iconst 0, 1) := by decide +kernel
theorem dL_law_538 : decode cL_law 538 = .ok (.ireturn, 1) := by decide +kernel
theorem dL_law_539 : decode cL_law 539 = .ok (.aload_n 1, 1) := by decide +kernel
theorem dL_law_540 : decode cL_law 540 = .ok (.aload_n 0, 1) := by decide +kernel
theorem dL_law_541 : decode cL_law 541 = .ok (.iload_n 3, 1) := by decide +kernel
theorem dL_law_542 : decode cL_law 542 = .ok (.iconst 1, 1) := by decide +kernel
theorem dL_law_543 : decode cL_law 543 = .ok (.iadd, 1) := by decide +kernel
theorem dL_law_544 : decode cL_law 544 = .ok (.iaload, 1) := by decide +kernel
theorem dL_law_545 : decode cL_law 545 = .ok (.aload_n 0, 1) := by decide +kernel
theorem dL_law_546 : decode cL_law 546 = .ok (.iload_n 3, 1) := by decide +kernel
theorem dL_law_547 : decode cL_law 547 = .ok (.iconst 2, 1) := by decide +kernel
theorem dL_law_548 : decode cL_law 548 = .ok (.iadd, 1) := by decide +kernel
theorem dL_law_549 : decode cL_law 549 = .ok (.iaload, 1) := by decide +kernel
theorem dL_law_550 : decode cL_law 550 = .ok (.aload_n 0, 1) := by decide +kernel
theorem dL_law_551 : decode cL_law 551 = .ok (.iload_n 3, 1) := by decide +kernel
theorem dL_law_552 : decode cL_law 552 = .ok (.iconst 3, 1) := by decide +kernel
theorem dL_law_553 : decode cL_law 553 = .ok (.iadd, 1) := by decide +kernel
theorem dL_law_554 : decode cL_law 554 = .ok (.iaload, 1) := by decide +kernel
theorem dL_law_555 : decode cL_law 555 = .ok (.ifCond .eq 7, 3) := by decide +kernel
theorem dL_law_558 : decode cL_law 558 = .ok (.iconst 1, 1) := by decide +kernel
theorem dL_law_559 : decode cL_law 559 = .ok (.goto 4, 3) := by decide +kernel
theorem dL_law_562 : decode cL_law 562 = .ok (.iconst 0, 1) := by decide +kernel
theorem dL_law_563 : decode cL_law 563 = .ok (.invokevirtual 77, 3) := by decide +kernel
theorem dL_law_566 : decode cL_law 566 = .ok (.aload_n 2, 1) := by decide +kernel
theorem dL_law_567 : decode cL_law 567 = .ok (.aload_n 0, 1) := by decide +kernel
theorem dL_law_568 : decode cL_law 568 = .ok (.iload_n 3, 1) := by decide +kernel
theorem dL_law_569 : decode cL_law 569 = .ok (.iconst 1, 1) := by decide +kernel
theorem dL_law_570 : decode cL_law 570 = .ok (.iadd, 1) := by decide +kernel
theorem dL_law_571 : decode cL_law 571 = .ok (.iaload, 1) := by decide +kernel
theorem dL_law_572 : decode cL_law 572 = .ok (.aload_n 0, 1) := by decide +kernel
theorem dL_law_573 : decode cL_law 573 = .ok (.iload_n 3, 1) := by decide +kernel
theorem dL_law_574 : decode cL_law 574 = .ok (.iconst 2, 1) := by decide +kernel
theorem dL_law_575 : decode cL_law 575 = .ok (.iadd, 1) := by decide +kernel
theorem dL_law_576 : decode cL_law 576 = .ok (.iaload, 1) := by decide +kernel
theorem dL_law_577 : decode cL_law 577 = .ok (.aload_n 0, 1) := by decide +kernel
theorem dL_law_578 : decode cL_law 578 = .ok (.iload_n 3, 1) := by decide +kernel
theorem dL_law_579 : decode cL_law 579 = .ok (.iconst 3, 1) := by decide +kernel
theorem dL_law_580 : decode cL_law 580 = .ok (.iadd, 1) := by decide +kernel
theorem dL_law_581 : decode cL_law 581 = .ok (.iaload, 1) := by decide +kernel
theorem dL_law_582 : decode cL_law 582 = .ok (.ifCond .eq 7, 3) := by decide +kernel
theorem dL_law_585 : decode cL_law 585 = .ok (.iconst 1, 1) := by decide +kernel
theorem dL_law_586 : decode cL_law 586 = .ok (.goto 4, 3) := by decide +kernel
theorem dL_law_589 : decode cL_law 589 = .ok (.iconst 0, 1) := by decide +kernel
theorem dL_law_590 : decode cL_law 590 = .ok (.invokevirtual 81, 3) := by decide +kernel
theorem dL_law_593 : decode cL_law 593 = .ok (.if_icmp .eq 189, 3) := by decide +kernel
theorem dL_law_596 : decode cL_law 596 = .ok (.iconst 0, 1) := by decide +kernel
theorem dL_law_597 : decode cL_law 597 = .ok (.ireturn, 1) := by decide +kernel
theorem dL_law_598 : decode cL_law 598 = .ok (.aload_n 1, 1) := by decide +kernel
theorem dL_law_599 : decode cL_law 599 = .ok (.invokevirtual 82, 3) := by decide +kernel
theorem dL_law_602 : decode cL_law 602 = .ok (.aload_n 2, 1) := by decide +kernel
theorem dL_law_603 : decode cL_law 603 = .ok (.invokevirtual 85, 3) := by decide +kernel
theorem dL_law_606 : decode cL_law 606 = .ok (.if_icmp .eq 176, 3) := by decide +kernel
theorem dL_law_609 : decode cL_law 609 = .ok (.iconst 0, 1) := by decide +kernel
theorem dL_law_610 : decode cL_law 610 = .ok (.ireturn, 1) := by decide +kernel
theorem dL_law_611 : decode cL_law 611 = .ok (.aload_n 1, 1) := by decide +kernel
theorem dL_law_612 : decode cL_law 612 = .ok (.aload_n 0, 1) := by decide +kernel
theorem dL_law_613 : decode cL_law 613 = .ok (.iload_n 3, 1) := by decide +kernel
theorem dL_law_614 : decode cL_law 614 = .ok (.iconst 1, 1) := by decide +kernel
theorem dL_law_615 : decode cL_law 615 = .ok (.iadd, 1) := by decide +kernel
theorem dL_law_616 : decode cL_law 616 = .ok (.iaload, 1) := by decide +kernel
theorem dL_law_617 : decode cL_law 617 = .ok (.aload_n 0, 1) := by decide +kernel
theorem dL_law_618 : decode cL_law 618 = .ok (.iload_n 3, 1) := by decide +kernel
theorem dL_law_619 : decode cL_law 619 = .ok (.iconst 2, 1) := by decide +kernel
theorem dL_law_620 : decode cL_law 620 = .ok (.iadd, 1) := by decide +kernel
theorem dL_law_621 : decode cL_law 621 = .ok (.iaload, 1) := by decide +kernel
theorem dL_law_622 : decode cL_law 622 = .ok (.invokevirtual 86, 3) := by decide +kernel
theorem dL_law_625 : decode cL_law 625 = .ok (.aload_n 2, 1) := by decide +kernel
theorem dL_law_626 : decode cL_law 626 = .ok (.aload_n 0, 1) := by decide +kernel
theorem dL_law_627 : decode cL_law 627 = .ok (.iload_n 3, 1) := by decide +kernel
theorem dL_law_628 : decode cL_law 628 = .ok (.iconst 1, 1) := by decide +kernel
theorem dL_law_629 : decode cL_law 629 = .ok (.iadd, 1) := by decide +kernel
theorem dL_law_630 : decode cL_law 630 = .ok (.iaload, 1) := by decide +kernel
theorem dL_law_631 : decode cL_law 631 = .ok (.aload_n 0, 1) := by decide +kernel
theorem dL_law_632 : decode cL_law 632 = .ok (.iload_n 3, 1) := by decide +kernel
theorem dL_law_633 : decode cL_law 633 = .ok (.iconst 2, 1) := by decide +kernel
theorem dL_law_634 : decode cL_law 634 = .ok (.iadd, 1) := by decide +kernel
theorem dL_law_635 : decode cL_law 635 = .ok (.iaload, 1) := by decide +kernel
theorem dL_law_636 : decode cL_law 636 = .ok (.invokevirtual 89, 3) := by decide +kernel
theorem dL_law_639 : decode cL_law 639 = .ok (.if_icmp .eq 143, 3) := by decide +kernel
theorem dL_law_642 : decode cL_law 642 = .ok (.iconst 0, 1) := by decide +kernel
theorem dL_law_643 : decode cL_law 643 = .ok (.ireturn, 1) := by decide +kernel
theorem dL_law_644 : decode cL_law 644 = .ok (.aload_n 1, 1) := by decide +kernel
theorem dL_law_645 : decode cL_law 645 = .ok (.aload_n 0, 1) := by decide +kernel
theorem dL_law_646 : decode cL_law 646 = .ok (.iload_n 3, 1) := by decide +kernel
theorem dL_law_647 : decode cL_law 647 = .ok (.iconst 1, 1) := by decide +kernel
theorem dL_law_648 : decode cL_law 648 = .ok (.iadd, 1) := by decide +kernel
theorem dL_law_649 : decode cL_law 649 = .ok (.iaload, 1) := by decide +kernel
theorem dL_law_650 : decode cL_law 650 = .ok (.aload_n 0, 1) := by decide +kernel
theorem dL_law_651 : decode cL_law 651 = .ok (.iload_n 3, 1) := by decide +kernel
theorem dL_law_652 : decode cL_law 652 = .ok (.iconst 2, 1) := by decide +kernel
theorem dL_law_653 : decode cL_law 653 = .ok (.iadd, 1) := by decide +kernel
theorem dL_law_654 : decode cL_law 654 = .ok (.iaload, 1) := by decide +kernel
theorem dL_law_655 : decode cL_law 655 = .ok (.invokevirtual 90, 3) := by decide +kernel
theorem dL_law_658 : decode cL_law 658 = .ok (.aload_n 2, 1) := by decide +kernel
theorem dL_law_659 : decode cL_law 659 = .ok (.aload_n 0, 1) := by decide +kernel
theorem dL_law_660 : decode cL_law 660 = .ok (.iload_n 3, 1) := by decide +kernel
theorem dL_law_661 : decode cL_law 661 = .ok (.iconst 1, 1) := by decide +kernel
theorem dL_law_662 : decode cL_law 662 = .ok (.iadd, 1) := by decide +kernel
theorem dL_law_663 : decode cL_law 663 = .ok (.iaload, 1) := by decide +kernel
theorem dL_law_664 : decode cL_law 664 = .ok (.aload_n 0, 1) := by decide +kernel
theorem dL_law_665 : decode cL_law 665 = .ok (.iload_n 3, 1) := by decide +kernel
theorem dL_law_666 : decode cL_law 666 = .ok (.iconst 2, 1) := by decide +kernel
theorem dL_law_667 : decode cL_law 667 = .ok (.iadd, 1) := by decide +kernel
theorem dL_law_668 : decode cL_law 668 = .ok (.iaload, 1) := by decide +kernel
theorem dL_law_669 : decode cL_law 669 = .ok (.invokevirtual 93, 3) := by decide +kernel
theorem dL_law_672 : decode cL_law 672 = .ok (.if_icmp .eq 110, 3) := by decide +kernel
theorem dL_law_675 : decode cL_law 675 = .ok (.iconst 0, 1) := by decide +kernel
theorem dL_law_676 : decode cL_law 676 = .ok (.ireturn, 1) := by decide +kernel
theorem dL_law_677 : decode cL_law 677 = .ok (.aload_n 1, 1) := by decide +kernel
theorem dL_law_678 : decode cL_law 678 = .ok (.aload_n 0, 1) := by decide +kernel
theorem dL_law_679 : decode cL_law 679 = .ok (.iload_n 3, 1) := by decide +kernel
theorem dL_law_680 : decode cL_law 680 = .ok (.iconst 1, 1) := by decide +kernel
theorem dL_law_681 : decode cL_law 681 = .ok (.iadd, 1) := by decide +kernel
theorem dL_law_682 : decode cL_law 682 = .ok (.iaload, 1) := by decide +kernel
theorem dL_law_683 : decode cL_law 683 = .ok (.invokevirtual 94, 3) := by decide +kernel
theorem dL_law_686 : decode cL_law 686 = .ok (.aload_n 2, 1) := by decide +kernel
theorem dL_law_687 : decode cL_law 687 = .ok (.aload_n 0, 1) := by decide +kernel
theorem dL_law_688 : decode cL_law 688 = .ok (.iload_n 3, 1) := by decide +kernel
theorem dL_law_689 : decode cL_law 689 = .ok (.iconst 1, 1) := by decide +kernel
theorem dL_law_690 : decode cL_law 690 = .ok (.iadd, 1) := by decide +kernel
theorem dL_law_691 : decode cL_law 691 = .ok (.iaload, 1) := by decide +kernel
theorem dL_law_692 : decode cL_law 692 = .ok (.invokevirtual 97, 3) := by decide +kernel
theorem dL_law_695 : decode cL_law 695 = .ok (.if_icmp .eq 87, 3) := by decide +kernel
theorem dL_law_698 : decode cL_law 698 = .ok (.iconst 0, 1) := by decide +kernel
theorem dL_law_699 : decode cL_law 699 = .ok (.ireturn, 1) := by decide +kernel
theorem dL_law_700 : decode cL_law 700 = .ok (.aload_n 1, 1) := by decide +kernel
theorem dL_law_701 : decode cL_law 701 = .ok (.invokevirtual 98, 3) := by decide +kernel
theorem dL_law_704 : decode cL_law 704 = .ok (.aload_n 2, 1) := by decide +kernel
theorem dL_law_705 : decode cL_law 705 = .ok (.invokevirtual 101, 3) := by decide +kernel
theorem dL_law_708 : decode cL_law 708 = .ok (.if_icmp .eq 74, 3) := by decide +kernel
theorem dL_law_711 : decode cL_law 711 = .ok (.iconst 0, 1) := by decide +kernel
theorem dL_law_712 : decode cL_law 712 = .ok (.ireturn, 1) := by decide +kernel
theorem dL_law_713 : decode cL_law 713 = .ok (.aload_n 1, 1) := by decide +kernel
theorem dL_law_714 : decode cL_law 714 = .ok (.aload_n 0, 1) := by decide +kernel
theorem dL_law_715 : decode cL_law 715 = .ok (.iload_n 3, 1) := by decide +kernel
theorem dL_law_716 : decode cL_law 716 = .ok (.iconst 1, 1) := by decide +kernel
theorem dL_law_717 : decode cL_law 717 = .ok (.iadd, 1) := by decide +kernel
theorem dL_law_718 : decode cL_law 718 = .ok (.iaload, 1) := by decide +kernel
theorem dL_law_719 : decode cL_law 719 = .ok (.invokevirtual 102, 3) := by decide +kernel
theorem dL_law_722 : decode cL_law 722 = .ok (.aload_n 2, 1) := by decide +kernel
theorem dL_law_723 : decode cL_law 723 = .ok (.aload_n 0, 1) := by decide +kernel
theorem dL_law_724 : decode cL_law 724 = .ok (.iload_n 3, 1) := by decide +kernel
theorem dL_law_725 : decode cL_law 725 = .ok (.iconst 1, 1) := by decide +kernel
theorem dL_law_726 : decode cL_law 726 = .ok (.iadd, 1) := by decide +kernel
theorem dL_law_727 : decode cL_law 727 = .ok (.iaload, 1) := by decide +kernel
theorem dL_law_728 : decode cL_law 728 = .ok (.invokevirtual 105, 3) := by decide +kernel
theorem dL_law_731 : decode cL_law 731 = .ok (.if_icmp .eq 51, 3) := by decide +kernel
theorem dL_law_734 : decode cL_law 734 = .ok (.iconst 0, 1) := by decide +kernel
theorem dL_law_735 : decode cL_law 735 = .ok (.ireturn, 1) := by decide +kernel
theorem dL_law_736 : decode cL_law 736 = .ok (.aload_n 1, 1) := by decide +kernel
theorem dL_law_737 : decode cL_law 737 = .ok (.aload_n 0, 1) := by decide +kernel
theorem dL_law_738 : decode cL_law 738 = .ok (.iload_n 3, 1) := by decide +kernel
theorem dL_law_739 : decode cL_law 739 = .ok (.iconst 1, 1) := by decide +kernel
theorem dL_law_740 : decode cL_law 740 = .ok (.iadd, 1) := by decide +kernel
theorem dL_law_741 : decode cL_law 741 = .ok (.iaload, 1) := by decide +kernel
theorem dL_law_742 : decode cL_law 742 = .ok (.invokevirtual 106, 3) := by decide +kernel
theorem dL_law_745 : decode cL_law 745 = .ok (.aload_n 2, 1) := by decide +kernel
theorem dL_law_746 : decode cL_law 746 = .ok (.aload_n 0, 1) := by decide +kernel
theorem dL_law_747 : decode cL_law 747 = .ok (.iload_n 3, 1) := by decide +kernel
theorem dL_law_748 : decode cL_law 748 = .ok (.iconst 1, 1) := by decide +kernel
theorem dL_law_749 : decode cL_law 749 = .ok (.iadd, 1) := by decide +kernel
theorem dL_law_750 : decode cL_law 750 = .ok (.iaload, 1) := by decide +kernel
theorem dL_law_751 : decode cL_law 751 = .ok (.invokevirtual 109, 3) := by decide +kernel
theorem dL_law_754 : decode cL_law 754 = .ok (.if_icmp .eq 28, 3) := by decide +kernel
theorem dL_law_757 : decode cL_law 757 = .ok (.iconst 0, 1) := by decide +kernel
theorem dL_law_758 : decode cL_law 758 = .ok (.ireturn, 1) := by decide +kernel
theorem dL_law_759 : decode cL_law 759 = .ok (.aload_n 1, 1) := by decide +kernel
theorem dL_law_760 : decode cL_law 760 = .ok (.aload_n 0, 1) := by decide +kernel
theorem dL_law_761 : decode cL_law 761 = .ok (.iload_n 3, 1) := by decide +kernel
theorem dL_law_762 : decode cL_law 762 = .ok (.iconst 1, 1) := by decide +kernel
theorem dL_law_763 : decode cL_law 763 = .ok (.iadd, 1) := by decide +kernel
theorem dL_law_764 : decode cL_law 764 = .ok (.iaload, 1) := by decide +kernel
theorem dL_law_765 : decode cL_law 765 = .ok (.invokevirtual 110, 3) := by decide +kernel
theorem dL_law_768 : decode cL_law 768 = .ok (.aload_n 2, 1) := by decide +kernel
theorem dL_law_769 : decode cL_law 769 = .ok (.aload_n 0, 1) := by decide +kernel
theorem dL_law_770 : decode cL_law 770 = .ok (.iload_n 3, 1) := by decide +kernel
theorem dL_law_771 : decode cL_law 771 = .ok (.iconst 1, 1) := by decide +kernel
theorem dL_law_772 : decode cL_law 772 = .ok (.iadd, 1) := by decide +kernel
theorem dL_law_773 : decode cL_law 773 = .ok (.iaload, 1) := by decide +kernel
theorem dL_law_774 : decode cL_law 774 = .ok (.invokevirtual 113, 3) := by decide +kernel
theorem dL_law_777 : decode cL_law 777 = .ok (.if_icmp .eq 5, 3) := by decide +kernel
theorem dL_law_780 : decode cL_law 780 = .ok (.iconst 0, 1) := by decide +kernel
theorem dL_law_781 : decode cL_law 781 = .ok (.ireturn, 1) := by decide +kernel
theorem dL_law_782 : decode cL_law 782 = .ok (.iinc 3 4, 3) := by decide +kernel
theorem dL_law_785 : decode cL_law 785 = .ok (.goto (-767), 3) := by decide +kernel
theorem dL_law_788 : decode cL_law 788 = .ok (.iconst 1, 1) := by decide +kernel
theorem dL_law_789 : decode cL_law 789 = .ok (.ireturn, 1) := by decide +kernel
abbrev vwCl : List vw_C := [(RX0, TX0, 4), (RX1, TX1, 4), (RX2, TX2, 4), (RX3, TX3, 6), (RX4, TX4, 10), (RX5, TX5, 17)]
