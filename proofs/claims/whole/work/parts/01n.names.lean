theorem dX6_makes_124 : decode cX6_makes 124 = .ok (.ifCond .le 7, 3) := by decide +kernel
theorem dX6_makes_127 : decode cX6_makes 127 = .ok (.iconst (-1), 1) := by decide +kernel
theorem dX6_makes_128 : decode cX6_makes 128 = .ok (.goto 9, 3) := by decide +kernel
theorem dX6_makes_131 : decode cX6_makes 131 = .ok (.aload_n 0, 1) := by decide +kernel
theorem dX6_makes_132 : decode cX6_makes 132 = .ok (.getfield 53, 3) := by decide +kernel
theorem dX6_makes_135 : decode cX6_makes 135 = .ok (.iload_n 3, 1) := by decide +kernel
theorem dX6_makes_136 : decode cX6_makes 136 = .ok (.iaload, 1) := by decide +kernel
theorem dX6_makes_137 : decode cX6_makes 137 = .ok (.iastore, 1) := by decide +kernel
theorem dX6_makes_138 : decode cX6_makes 138 = .ok (.aload_n 0, 1) := by decide +kernel
theorem dX6_makes_139 : decode cX6_makes 139 = .ok (.getfield 38, 3) := by decide +kernel
theorem dX6_makes_142 : decode cX6_makes 142 = .ok (.iload 6, 2) := by decide +kernel
theorem dX6_makes_144 : decode cX6_makes 144 = .ok (.iconst 1, 1) := by decide +kernel
theorem dX6_makes_145 : decode cX6_makes 145 = .ok (.iadd, 1) := by decide +kernel
theorem dX6_makes_146 : decode cX6_makes 146 = .ok (.iload 4, 2) := by decide +kernel
theorem dX6_makes_148 : decode cX6_makes 148 = .ok (.iastore, 1) := by decide +kernel
theorem dX6_makes_149 : decode cX6_makes 149 = .ok (.aload_n 0, 1) := by decide +kernel
theorem dX6_makes_150 : decode cX6_makes 150 = .ok (.getfield 38, 3) := by decide +kernel
theorem dX6_makes_153 : decode cX6_makes 153 = .ok (.iload 6, 2) := by decide +kernel
theorem dX6_makes_155 : decode cX6_makes 155 = .ok (.iconst 2, 1) := by decide +kernel
theorem dX6_makes_156 : decode cX6_makes 156 = .ok (.iadd, 1) := by decide +kernel
theorem dX6_makes_157 : decode cX6_makes 157 = .ok (.iload 4, 2) := by decide +kernel
theorem dX6_makes_159 : decode cX6_makes 159 = .ok (.ifCond .le 8, 3) := by decide +kernel
theorem dX6_makes_162 : decode cX6_makes 162 = .ok (.iload 5, 2) := by decide +kernel
theorem dX6_makes_164 : decode cX6_makes 164 = .ok (.goto 4, 3) := by decide +kernel
theorem dX6_makes_167 : decode cX6_makes 167 = .ok (.iconst 1, 1) := by decide +kernel
theorem dX6_makes_168 : decode cX6_makes 168 = .ok (.iastore, 1) := by decide +kernel
theorem dX6_makes_169 : decode cX6_makes 169 = .ok (.iload_n 3, 1) := by decide +kernel
theorem dX6_makes_170 : decode cX6_makes 170 = .ok (.aload_n 0, 1) := by decide +kernel
theorem dX6_makes_171 : decode cX6_makes 171 = .ok (.getfield 38, 3) := by decide +kernel
theorem dX6_makes_174 : decode cX6_makes 174 = .ok (.iload 6, 2) := by decide +kernel
theorem dX6_makes_176 : decode cX6_makes 176 = .ok (.iconst 2, 1) := by decide +kernel
theorem dX6_makes_177 : decode cX6_makes 177 = .ok (.iadd, 1) := by decide +kernel
theorem dX6_makes_178 : decode cX6_makes 178 = .ok (.iaload, 1) := by decide +kernel
theorem dX6_makes_179 : decode cX6_makes 179 = .ok (.iadd, 1) := by decide +kernel
theorem dX6_makes_180 : decode cX6_makes 180 = .ok (.istore_n 3, 1) := by decide +kernel
theorem dX6_makes_181 : decode cX6_makes 181 = .ok (.iinc 2 1, 3) := by decide +kernel
theorem dX6_makes_184 : decode cX6_makes 184 = .ok (.goto (-175), 3) := by decide +kernel
theorem dX6_makes_187 : decode cX6_makes 187 = .ok (.aload_n 0, 1) := by decide +kernel
theorem dX6_makes_188 : decode cX6_makes 188 = .ok (.getfield 34, 3) := by decide +kernel
theorem dX6_makes_191 : decode cX6_makes 191 = .ok (.iload_n 1, 1) := by decide +kernel
theorem dX6_makes_192 : decode cX6_makes 192 = .ok (.iload_n 2, 1) := by decide +kernel
theorem dX6_makes_193 : decode cX6_makes 193 = .ok (.iastore, 1) := by decide +kernel
theorem dX6_makes_194 : decode cX6_makes 194 = .ok (.return_, 1) := by decide +kernel
theorem dX6_placeInOrder_0 : decode cX6_placeInOrder 0 = .ok (.iconst 0, 1) := by decide +kernel
theorem dX6_placeInOrder_1 : decode cX6_placeInOrder 1 = .ok (.istore_n 2, 1) := by decide +kernel
theorem dX6_placeInOrder_2 : decode cX6_placeInOrder 2 = .ok (.iload_n 2, 1) := by decide +kernel
theorem dX6_placeInOrder_3 : decode cX6_placeInOrder 3 = .ok (.aload_n 0, 1) := by decide +kernel
theorem dX6_placeInOrder_4 : decode cX6_placeInOrder 4 = .ok (.getfield 104, 3) := by decide +kernel
theorem dX6_placeInOrder_7 : decode cX6_placeInOrder 7 = .ok (.if_icmp .ge 21, 3) := by decide +kernel
theorem dX6_placeInOrder_10 : decode cX6_placeInOrder 10 = .ok (.aload_n 0, 1) := by decide +kernel
theorem dX6_placeInOrder_11 : decode cX6_placeInOrder 11 = .ok (.getfield 22, 3) := by decide +kernel
theorem dX6_placeInOrder_14 : decode cX6_placeInOrder 14 = .ok (.iload_n 2, 1) := by decide +kernel
theorem dX6_placeInOrder_15 : decode cX6_placeInOrder 15 = .ok (.iaload, 1) := by decide +kernel
theorem dX6_placeInOrder_16 : decode cX6_placeInOrder 16 = .ok (.iload_n 1, 1) := by decide +kernel
theorem dX6_placeInOrder_17 : decode cX6_placeInOrder 17 = .ok (.if_icmp .ne 5, 3) := by decide +kernel
theorem dX6_placeInOrder_20 : decode cX6_placeInOrder 20 = .ok (.iload_n 2, 1) := by decide +kernel
theorem dX6_placeInOrder_21 : decode cX6_placeInOrder 21 = .ok (.ireturn, 1) := by decide +kernel
theorem dX6_placeInOrder_22 : decode cX6_placeInOrder 22 = .ok (.iinc 2 1, 3) := by decide +kernel
theorem dX6_placeInOrder_25 : decode cX6_placeInOrder 25 = .ok (.goto (-23), 3) := by decide +kernel
theorem dX6_placeInOrder_28 : decode cX6_placeInOrder 28 = .ok (.bipush (-2), 2) := by decide +kernel
theorem dX6_placeInOrder_30 : decode cX6_placeInOrder 30 = .ok (.ireturn, 1) := by decide +kernel
set_option maxRecDepth 20000 in
theorem ggX6_change_X6_isEntry : GoodIn wsX6_change wsX6_isEntry := goodIn_r _ [13, 4, 14, 15, 12, 16, 46, 47, 48, 49, 50, 51, 52, 53, 54, 55, 56, 57, 58, 59, 60, 61, 62, 63, 64, 65, 66, 67, 68] (by decide +kernel) (by decide +kernel)
set_option maxRecDepth 20000 in
theorem gX6_change_X6_isEntry : GoodIn wsX6_change (wsV RX6 68 RX6 yX6_isEntry wsX6_isEntry) := goodIn_app (goodIn_of _ (by decide +kernel)) ggX6_change_X6_isEntry
set_option maxRecDepth 20000 in
theorem ggX6_change_X6_isIn : GoodIn wsX6_change wsX6_isIn := goodIn_r _ [16] (by decide +kernel) (by decide +kernel)
set_option maxRecDepth 20000 in
theorem gX6_change_X6_isIn : GoodIn wsX6_change (va_wsS RX6 60 yX6_isIn wsX6_isIn) := goodIn_app (goodIn_of _ (by decide +kernel)) ggX6_change_X6_isIn
set_option maxRecDepth 20000 in
theorem ggX6_change_X6_placeInOrder : GoodIn wsX6_change wsX6_placeInOrder := goodIn_r _ [20, 21, 6, 46, 47, 48, 49, 50, 51, 52, 53, 54, 55, 56, 57, 58, 59, 60, 61, 62, 63, 64, 65, 66, 67, 68] (by decide +kernel) (by decide +kernel)
set_option maxRecDepth 20000 in
theorem gX6_change_X6_placeInOrder : GoodIn wsX6_change (wsV RX6 133 RX6 yX6_placeInOrder wsX6_placeInOrder) := goodIn_app (goodIn_of _ (by decide +kernel)) ggX6_change_X6_placeInOrder
set_option maxRecDepth 20000 in
theorem ggX6_change_X6_settles : GoodIn wsX6_change wsX6_settles := goodIn_r _ [25, 26, 27, 28, 1, 29, 8, 30, 31, 21, 7, 6, 32, 33, 34, 12, 35, 46, 47, 48, 49, 50, 51, 52, 53, 54, 55, 56, 57, 58, 59, 60, 61, 62, 63, 64, 65, 66, 67, 68] (by decide +kernel) (by decide +kernel)
set_option maxRecDepth 20000 in
theorem gX6_change_X6_settles : GoodIn wsX6_change (wsV RX6 136 RX6 yX6_settles wsX6_settles) := goodIn_app (goodIn_of _ (by decide +kernel)) ggX6_change_X6_settles
set_option maxRecDepth 20000 in
theorem ggX6_change_X6_makes : GoodIn wsX6_change wsX6_makes := goodIn_r _ [39, 40, 41, 31, 30, 42, 43, 44, 12, 45, 21, 7, 1, 6, 2, 46, 47, 48, 49, 50, 51, 52, 53, 54, 55, 56, 57, 58, 59, 60, 61, 62, 63, 64, 65, 66, 67, 68] (by decide +kernel) (by decide +kernel)
set_option maxRecDepth 20000 in
theorem gX6_change_X6_makes : GoodIn wsX6_change (wsV RX6 123 RX6 yX6_makes wsX6_makes) := goodIn_app (goodIn_of _ (by decide +kernel)) ggX6_change_X6_makes
theorem dX6_change_0 : decode cX6_change 0 = .ok (.aload_n 0, 1) := by decide +kernel
theorem dX6_change_1 : decode cX6_change 1 = .ok (.iload_n 1, 1) := by decide +kernel
theorem dX6_change_2 : decode cX6_change 2 = .ok (.invokevirtual 68, 3) := by decide +kernel
theorem dX6_change_5 : decode cX6_change 5 = .ok (.ifCond .eq 30, 3) := by decide +kernel
theorem dX6_change_8 : decode cX6_change 8 = .ok (.iload_n 2, 1) := by decide +kernel
theorem dX6_change_9 : decode cX6_change 9 = .ok (.iconst 0, 1) := by decide +kernel
theorem dX6_change_10 : decode cX6_change 10 = .ok (.aload_n 0, 1) := by decide +kernel
theorem dX6_change_11 : decode cX6_change 11 = .ok (.getfield 13, 3) := by decide +kernel
theorem dX6_change_14 : decode cX6_change 14 = .ok (.iload_n 1, 1) := by decide +kernel
theorem dX6_change_15 : decode cX6_change 15 = .ok (.iaload, 1) := by decide +kernel
theorem dX6_change_16 : decode cX6_change 16 = .ok (.iconst 1, 1) := by decide +kernel
theorem dX6_change_17 : decode cX6_change 17 = .ok (.isub, 1) := by decide +kernel
theorem dX6_change_18 : decode cX6_change 18 = .ok (.invokestatic 60, 3) := by decide +kernel
theorem dX6_change_21 : decode cX6_change 21 = .ok (.ifCond .eq 14, 3) := by decide +kernel
theorem dX6_change_24 : decode cX6_change 24 = .ok (.iload_n 3, 1) := by decide +kernel
theorem dX6_change_25 : decode cX6_change 25 = .ok (.iconst 0, 1) := by decide +kernel
theorem dX6_change_26 : decode cX6_change 26 = .ok (.sipush 255, 3) := by decide +kernel
theorem dX6_change_29 : decode cX6_change 29 = .ok (.invokestatic 60, 3) := by decide +kernel
theorem dX6_change_32 : decode cX6_change 32 = .ok (.ifCond .ne 5, 3) := by decide +kernel
theorem dX6_change_35 : decode cX6_change 35 = .ok (.iconst (-1), 1) := by decide +kernel
theorem dX6_change_36 : decode cX6_change 36 = .ok (.ireturn, 1) := by decide +kernel
theorem dX6_change_37 : decode cX6_change 37 = .ok (.aload_n 0, 1) := by decide +kernel
theorem dX6_change_38 : decode cX6_change 38 = .ok (.getfield 16, 3) := by decide +kernel
theorem dX6_change_41 : decode cX6_change 41 = .ok (.bipush 60, 2) := by decide +kernel
theorem dX6_change_43 : decode cX6_change 43 = .ok (.iload_n 1, 1) := by decide +kernel
theorem dX6_change_44 : decode cX6_change 44 = .ok (.imul, 1) := by decide +kernel
theorem dX6_change_45 : decode cX6_change 45 = .ok (.iload_n 2, 1) := by decide +kernel
theorem dX6_change_46 : decode cX6_change 46 = .ok (.iadd, 1) := by decide +kernel
theorem dX6_change_47 : decode cX6_change 47 = .ok (.iaload, 1) := by decide +kernel
theorem dX6_change_48 : decode cX6_change 48 = .ok (.istore 4, 2) := by decide +kernel
theorem dX6_change_50 : decode cX6_change 50 = .ok (.aload_n 0, 1) := by decide +kernel
theorem dX6_change_51 : decode cX6_change 51 = .ok (.getfield 16, 3) := by decide +kernel
theorem dX6_change_54 : decode cX6_change 54 = .ok (.bipush 60, 2) := by decide +kernel
theorem dX6_change_56 : decode cX6_change 56 = .ok (.iload_n 1, 1) := by decide +kernel
theorem dX6_change_57 : decode cX6_change 57 = .ok (.imul, 1) := by decide +kernel
theorem dX6_change_58 : decode cX6_change 58 = .ok (.iload_n 2, 1) := by decide +kernel
theorem dX6_change_59 : decode cX6_change 59 = .ok (.iadd, 1) := by decide +kernel
theorem dX6_change_60 : decode cX6_change 60 = .ok (.iload_n 3, 1) := by decide +kernel
theorem dX6_change_61 : decode cX6_change 61 = .ok (.iastore, 1) := by decide +kernel
theorem dX6_change_62 : decode cX6_change 62 = .ok (.aload_n 0, 1) := by decide +kernel
theorem dX6_change_63 : decode cX6_change 63 = .ok (.getfield 64, 3) := by decide +kernel
theorem dX6_change_66 : decode cX6_change 66 = .ok (.ifCond .eq 9, 3) := by decide +kernel
theorem dX6_change_69 : decode cX6_change 69 = .ok (.iload 4, 2) := by decide +kernel
theorem dX6_change_71 : decode cX6_change 71 = .ok (.iload_n 3, 1) := by decide +kernel
theorem dX6_change_72 : decode cX6_change 72 = .ok (.if_icmp .ne 6, 3) := by decide +kernel
theorem dX6_change_75 : decode cX6_change 75 = .ok (.iload 4, 2) := by decide +kernel
theorem dX6_change_77 : decode cX6_change 77 = .ok (.ireturn, 1) := by decide +kernel
theorem dX6_change_78 : decode cX6_change 78 = .ok (.bipush (-2), 2) := by decide +kernel
theorem dX6_change_80 : decode cX6_change 80 = .ok (.istore 5, 2) := by decide +kernel
theorem dX6_change_82 : decode cX6_change 82 = .ok (.aload_n 0, 1) := by decide +kernel
theorem dX6_change_83 : decode cX6_change 83 = .ok (.getfield 56, 3) := by decide +kernel
theorem dX6_change_86 : decode cX6_change 86 = .ok (.iconst 1, 1) := by decide +kernel
theorem dX6_change_87 : decode cX6_change 87 = .ok (.isub, 1) := by decide +kernel
theorem dX6_change_88 : decode cX6_change 88 = .ok (.istore 6, 2) := by decide +kernel
theorem dX6_change_90 : decode cX6_change 90 = .ok (.iload 6, 2) := by decide +kernel
theorem dX6_change_92 : decode cX6_change 92 = .ok (.ifCond .lt 35, 3) := by decide +kernel
theorem dX6_change_95 : decode cX6_change 95 = .ok (.iload 6, 2) := by decide +kernel
theorem dX6_change_97 : decode cX6_change 97 = .ok (.iload_n 1, 1) := by decide +kernel
theorem dX6_change_98 : decode cX6_change 98 = .ok (.if_icmp .eq 19, 3) := by decide +kernel
theorem dX6_change_101 : decode cX6_change 101 = .ok (.aload_n 0, 1) := by decide +kernel
theorem dX6_change_102 : decode cX6_change 102 = .ok (.getfield 19, 3) := by decide +kernel
theorem dX6_change_105 : decode cX6_change 105 = .ok (.iload 6, 2) := by decide +kernel
theorem dX6_change_107 : decode cX6_change 107 = .ok (.iaload, 1) := by decide +kernel
theorem dX6_change_108 : decode cX6_change 108 = .ok (.iload_n 1, 1) := by decide +kernel
theorem dX6_change_109 : decode cX6_change 109 = .ok (.if_icmp .ne 8, 3) := by decide +kernel
theorem dX6_change_112 : decode cX6_change 112 = .ok (.iload 6, 2) := by decide +kernel
theorem dX6_change_114 : decode cX6_change 114 = .ok (.goto 5, 3) := by decide +kernel
theorem dX6_change_117 : decode cX6_change 117 = .ok (.iload 5, 2) := by decide +kernel
theorem dX6_change_119 : decode cX6_change 119 = .ok (.istore 5, 2) := by decide +kernel
theorem dX6_change_121 : decode cX6_change 121 = .ok (.iinc 6 (-1), 3) := by decide +kernel
theorem dX6_change_124 : decode cX6_change 124 = .ok (.goto (-34), 3) := by decide +kernel
theorem dX6_change_127 : decode cX6_change 127 = .ok (.aload_n 0, 1) := by decide +kernel
theorem dX6_change_128 : decode cX6_change 128 = .ok (.getfield 19, 3) := by decide +kernel
theorem dX6_change_131 : decode cX6_change 131 = .ok (.iload_n 1, 1) := by decide +kernel
theorem dX6_change_132 : decode cX6_change 132 = .ok (.iaload, 1) := by decide +kernel
theorem dX6_change_133 : decode cX6_change 133 = .ok (.iload_n 1, 1) := by decide +kernel
theorem dX6_change_134 : decode cX6_change 134 = .ok (.if_icmp .eq 7, 3) := by decide +kernel
theorem dX6_change_137 : decode cX6_change 137 = .ok (.iconst 1, 1) := by decide +kernel
theorem dX6_change_138 : decode cX6_change 138 = .ok (.goto 4, 3) := by decide +kernel
theorem dX6_change_141 : decode cX6_change 141 = .ok (.iconst 0, 1) := by decide +kernel
theorem dX6_change_142 : decode cX6_change 142 = .ok (.istore 6, 2) := by decide +kernel
theorem dX6_change_144 : decode cX6_change 144 = .ok (.iload 5, 2) := by decide +kernel
theorem dX6_change_146 : decode cX6_change 146 = .ok (.bipush (-2), 2) := by decide +kernel
theorem dX6_change_148 : decode cX6_change 148 = .ok (.if_icmp .eq 69, 3) := by decide +kernel
theorem dX6_change_151 : decode cX6_change 151 = .ok (.aload_n 0, 1) := by decide +kernel
theorem dX6_change_152 : decode cX6_change 152 = .ok (.getfield 22, 3) := by decide +kernel
theorem dX6_change_155 : decode cX6_change 155 = .ok (.aload_n 0, 1) := by decide +kernel
theorem dX6_change_156 : decode cX6_change 156 = .ok (.iload_n 1, 1) := by decide +kernel
theorem dX6_change_157 : decode cX6_change 157 = .ok (.invokevirtual 133, 3) := by decide +kernel
theorem dX6_change_160 : decode cX6_change 160 = .ok (.iload 5, 2) := by decide +kernel
theorem dX6_change_162 : decode cX6_change 162 = .ok (.iastore, 1) := by decide +kernel
theorem dX6_change_163 : decode cX6_change 163 = .ok (.iconst 0, 1) := by decide +kernel
theorem dX6_change_164 : decode cX6_change 164 = .ok (.istore 7, 2) := by decide +kernel
theorem dX6_change_166 : decode cX6_change 166 = .ok (.iload 7, 2) := by decide +kernel
theorem dX6_change_168 : decode cX6_change 168 = .ok (.aload_n 0, 1) := by decide +kernel
theorem dX6_change_169 : decode cX6_change 169 = .ok (.getfield 56, 3) := by decide +kernel
theorem dX6_change_172 : decode cX6_change 172 = .ok (.if_icmp .ge 45, 3) := by decide +kernel
theorem dX6_change_175 : decode cX6_change 175 = .ok (.aload_n 0, 1) := by decide +kernel
theorem dX6_change_176 : decode cX6_change 176 = .ok (.getfield 19, 3) := by decide +kernel
theorem dX6_change_179 : decode cX6_change 179 = .ok (.iload 7, 2) := by decide +kernel
theorem dX6_change_181 : decode cX6_change 181 = .ok (.iload 7, 2) := by decide +kernel
theorem dX6_change_183 : decode cX6_change 183 = .ok (.iload_n 1, 1) := by decide +kernel
theorem dX6_change_184 : decode cX6_change 184 = .ok (.if_icmp .eq 19, 3) := by decide +kernel
theorem dX6_change_187 : decode cX6_change 187 = .ok (.aload_n 0, 1) := by decide +kernel
theorem dX6_change_188 : decode cX6_change 188 = .ok (.getfield 19, 3) := by decide +kernel
theorem dX6_change_191 : decode cX6_change 191 = .ok (.iload 7, 2) := by decide +kernel
theorem dX6_change_193 : decode cX6_change 193 = .ok (.iaload, 1) := by decide +kernel
theorem dX6_change_194 : decode cX6_change 194 = .ok (.iload_n 1, 1) := by decide +kernel
theorem dX6_change_195 : decode cX6_change 195 = .ok (.if_icmp .ne 8, 3) := by decide +kernel
theorem dX6_change_198 : decode cX6_change 198 = .ok (.iload 5, 2) := by decide +kernel
theorem dX6_change_200 : decode cX6_change 200 = .ok (.goto 10, 3) := by decide +kernel
theorem dX6_change_203 : decode cX6_change 203 = .ok (.aload_n 0, 1) := by decide +kernel
theorem dX6_change_204 : decode cX6_change 204 = .ok (.getfield 19, 3) := by decide +kernel
theorem dX6_change_207 : decode cX6_change 207 = .ok (.iload 7, 2) := by decide +kernel
theorem dX6_change_209 : decode cX6_change 209 = .ok (.iaload, 1) := by decide +kernel
theorem dX6_change_210 : decode cX6_change 210 = .ok (.iastore, 1) := by decide +kernel
theorem dX6_change_211 : decode cX6_change 211 = .ok (.iinc 7 1, 3) := by decide +kernel
theorem dX6_change_214 : decode cX6_change 214 = .ok (.goto (-48), 3) := by decide +kernel
theorem dX6_change_217 : decode cX6_change 217 = .ok (.aload_n 0, 1) := by decide +kernel
theorem dX6_change_218 : decode cX6_change 218 = .ok (.getfield 19, 3) := by decide +kernel
theorem dX6_change_221 : decode cX6_change 221 = .ok (.iload_n 1, 1) := by decide +kernel
theorem dX6_change_222 : decode cX6_change 222 = .ok (.iload_n 1, 1) := by decide +kernel
theorem dX6_change_223 : decode cX6_change 223 = .ok (.iastore, 1) := by decide +kernel
theorem dX6_change_224 : decode cX6_change 224 = .ok (.iload 6, 2) := by decide +kernel
theorem dX6_change_226 : decode cX6_change 226 = .ok (.ifCond .ne 10, 3) := by decide +kernel
theorem dX6_change_229 : decode cX6_change 229 = .ok (.iload 5, 2) := by decide +kernel
theorem dX6_change_231 : decode cX6_change 231 = .ok (.bipush (-2), 2) := by decide +kernel
theorem dX6_change_233 : decode cX6_change 233 = .ok (.if_icmp .eq 8, 3) := by decide +kernel
theorem dX6_change_236 : decode cX6_change 236 = .ok (.aload_n 0, 1) := by decide +kernel
theorem dX6_change_237 : decode cX6_change 237 = .ok (.iload_n 1, 1) := by decide +kernel
theorem dX6_change_238 : decode cX6_change 238 = .ok (.invokevirtual 136, 3) := by decide +kernel
theorem dX6_change_241 : decode cX6_change 241 = .ok (.aload_n 0, 1) := by decide +kernel
theorem dX6_change_242 : decode cX6_change 242 = .ok (.getfield 25, 3) := by decide +kernel
theorem dX6_change_245 : decode cX6_change 245 = .ok (.aload_n 0, 1) := by decide +kernel
theorem dX6_change_246 : decode cX6_change 246 = .ok (.iload_n 1, 1) := by decide +kernel
theorem dX6_change_247 : decode cX6_change 247 = .ok (.invokevirtual 133, 3) := by decide +kernel
theorem dX6_change_250 : decode cX6_change 250 = .ok (.iaload, 1) := by decide +kernel
theorem dX6_change_251 : decode cX6_change 251 = .ok (.istore 7, 2) := by decide +kernel
theorem dX6_change_253 : decode cX6_change 253 = .ok (.aload_n 0, 1) := by decide +kernel
theorem dX6_change_254 : decode cX6_change 254 = .ok (.iload 7, 2) := by decide +kernel
theorem dX6_change_256 : decode cX6_change 256 = .ok (.invokevirtual 123, 3) := by decide +kernel
theorem dX6_change_259 : decode cX6_change 259 = .ok (.aload_n 0, 1) := by decide +kernel
theorem dX6_change_260 : decode cX6_change 260 = .ok (.getfield 31, 3) := by decide +kernel
theorem dX6_change_263 : decode cX6_change 263 = .ok (.iload 7, 2) := by decide +kernel
theorem dX6_change_265 : decode cX6_change 265 = .ok (.dup2, 1) := by decide +kernel
theorem dX6_change_266 : decode cX6_change 266 = .ok (.iaload, 1) := by decide +kernel
theorem dX6_change_267 : decode cX6_change 267 = .ok (.iconst 1, 1) := by decide +kernel
theorem dX6_change_268 : decode cX6_change 268 = .ok (.iadd, 1) := by decide +kernel
theorem dX6_change_269 : decode cX6_change 269 = .ok (.iastore, 1) := by decide +kernel
theorem dX6_change_270 : decode cX6_change 270 = .ok (.iload 4, 2) := by decide +kernel
theorem dX6_change_272 : decode cX6_change 272 = .ok (.ireturn, 1) := by decide +kernel
set_option maxRecDepth 20000 in
theorem ggX6_settles_X6_groupBytes : GoodIn wsX6_settles wsX6_groupBytes := goodIn_r _ [16, 9, 10, 4, 11, 17, 18, 19, 20, 21, 22, 23, 24, 25, 26, 27, 28, 29, 30, 31, 32, 33, 34, 35, 36, 37, 38, 39] (by decide +kernel) (by decide +kernel)
set_option maxRecDepth 20000 in
theorem gX6_settles_X6_groupBytes : GoodIn wsX6_settles (wsV RX6 120 RX6 yX6_groupBytes wsX6_groupBytes) := goodIn_app (goodIn_of _ (by decide +kernel)) ggX6_settles_X6_groupBytes
theorem dX6_settles_0 : decode cX6_settles 0 = .ok (.bipush (-2), 2) := by decide +kernel
theorem dX6_settles_2 : decode cX6_settles 2 = .ok (.istore_n 2, 1) := by decide +kernel
theorem dX6_settles_3 : decode cX6_settles 3 = .ok (.iconst 0, 1) := by decide +kernel
theorem dX6_settles_4 : decode cX6_settles 4 = .ok (.istore_n 3, 1) := by decide +kernel
theorem dX6_settles_5 : decode cX6_settles 5 = .ok (.iload_n 3, 1) := by decide +kernel
theorem dX6_settles_6 : decode cX6_settles 6 = .ok (.aload_n 0, 1) := by decide +kernel
theorem dX6_settles_7 : decode cX6_settles 7 = .ok (.getfield 107, 3) := by decide +kernel
theorem dX6_settles_10 : decode cX6_settles 10 = .ok (.if_icmp .ge 30, 3) := by decide +kernel
theorem dX6_settles_13 : decode cX6_settles 13 = .ok (.aload_n 0, 1) := by decide +kernel
theorem dX6_settles_14 : decode cX6_settles 14 = .ok (.getfield 28, 3) := by decide +kernel
theorem dX6_settles_17 : decode cX6_settles 17 = .ok (.iload_n 3, 1) := by decide +kernel
theorem dX6_settles_18 : decode cX6_settles 18 = .ok (.iaload, 1) := by decide +kernel
theorem dX6_settles_19 : decode cX6_settles 19 = .ok (.aload_n 0, 1) := by decide +kernel
theorem dX6_settles_20 : decode cX6_settles 20 = .ok (.getfield 7, 3) := by decide +kernel
theorem dX6_settles_23 : decode cX6_settles 23 = .ok (.iload_n 1, 1) := by decide +kernel
theorem dX6_settles_24 : decode cX6_settles 24 = .ok (.iaload, 1) := by decide +kernel
theorem dX6_settles_25 : decode cX6_settles 25 = .ok (.if_icmp .ne 7, 3) := by decide +kernel
theorem dX6_settles_28 : decode cX6_settles 28 = .ok (.iload_n 3, 1) := by decide +kernel
theorem dX6_settles_29 : decode cX6_settles 29 = .ok (.goto 4, 3) := by decide +kernel
theorem dX6_settles_32 : decode cX6_settles 32 = .ok (.iload_n 2, 1) := by decide +kernel
theorem dX6_settles_33 : decode cX6_settles 33 = .ok (.istore_n 2, 1) := by decide +kernel
theorem dX6_settles_34 : decode cX6_settles 34 = .ok (.iinc 3 1, 3) := by decide +kernel
theorem dX6_settles_37 : decode cX6_settles 37 = .ok (.goto (-32), 3) := by decide +kernel
theorem dX6_settles_40 : decode cX6_settles 40 = .ok (.iload_n 2, 1) := by decide +kernel
theorem dX6_settles_41 : decode cX6_settles 41 = .ok (.istore_n 3, 1) := by decide +kernel
theorem dX6_settles_42 : decode cX6_settles 42 = .ok (.aload_n 0, 1) := by decide +kernel
theorem dX6_settles_43 : decode cX6_settles 43 = .ok (.iload_n 2, 1) := by decide +kernel
theorem dX6_settles_44 : decode cX6_settles 44 = .ok (.invokevirtual 120, 3) := by decide +kernel
theorem dX6_settles_47 : decode cX6_settles 47 = .ok (.aload_n 0, 1) := by decide +kernel
theorem dX6_settles_48 : decode cX6_settles 48 = .ok (.getfield 13, 3) := by decide +kernel
theorem dX6_settles_51 : decode cX6_settles 51 = .ok (.iload_n 1, 1) := by decide +kernel
theorem dX6_settles_52 : decode cX6_settles 52 = .ok (.iaload, 1) := by decide +kernel
theorem dX6_settles_53 : decode cX6_settles 53 = .ok (.iadd, 1) := by decide +kernel
theorem dX6_settles_54 : decode cX6_settles 54 = .ok (.aload_n 0, 1) := by decide +kernel
theorem dX6_settles_55 : decode cX6_settles 55 = .ok (.getfield 101, 3) := by decide +kernel
theorem dX6_settles_58 : decode cX6_settles 58 = .ok (.if_icmp .le 199, 3) := by decide +kernel
theorem dX6_settles_61 : decode cX6_settles 61 = .ok (.iload_n 2, 1) := by decide +kernel
theorem dX6_settles_62 : decode cX6_settles 62 = .ok (.iconst 1, 1) := by decide +kernel
theorem dX6_settles_63 : decode cX6_settles 63 = .ok (.iadd, 1) := by decide +kernel
theorem dX6_settles_64 : decode cX6_settles 64 = .ok (.istore_n 3, 1) := by decide +kernel
theorem dX6_settles_65 : decode cX6_settles 65 = .ok (.aload_n 0, 1) := by decide +kernel
theorem dX6_settles_66 : decode cX6_settles 66 = .ok (.getfield 107, 3) := by decide +kernel
theorem dX6_settles_69 : decode cX6_settles 69 = .ok (.istore 4, 2) := by decide +kernel
theorem dX6_settles_71 : decode cX6_settles 71 = .ok (.iload 4, 2) := by decide +kernel
theorem dX6_settles_73 : decode cX6_settles 73 = .ok (.iload_n 3, 1) := by decide +kernel
theorem dX6_settles_74 : decode cX6_settles 74 = .ok (.if_icmp .le 110, 3) := by decide +kernel
theorem dX6_settles_77 : decode cX6_settles 77 = .ok (.aload_n 0, 1) := by decide +kernel
theorem dX6_settles_78 : decode cX6_settles 78 = .ok (.getfield 28, 3) := by decide +kernel
theorem dX6_settles_81 : decode cX6_settles 81 = .ok (.iload 4, 2) := by decide +kernel
theorem dX6_settles_83 : decode cX6_settles 83 = .ok (.aload_n 0, 1) := by decide +kernel
theorem dX6_settles_84 : decode cX6_settles 84 = .ok (.getfield 28, 3) := by decide +kernel
theorem dX6_settles_87 : decode cX6_settles 87 = .ok (.iload 4, 2) := by decide +kernel
theorem dX6_settles_89 : decode cX6_settles 89 = .ok (.iconst 1, 1) := by decide +kernel
theorem dX6_settles_90 : decode cX6_settles 90 = .ok (.isub, 1) := by decide +kernel
theorem dX6_settles_91 : decode cX6_settles 91 = .ok (.iaload, 1) := by decide +kernel
theorem dX6_settles_92 : decode cX6_settles 92 = .ok (.iastore, 1) := by decide +kernel
theorem dX6_settles_93 : decode cX6_settles 93 = .ok (.aload_n 0, 1) := by decide +kernel
theorem dX6_settles_94 : decode cX6_settles 94 = .ok (.getfield 31, 3) := by decide +kernel
theorem dX6_settles_97 : decode cX6_settles 97 = .ok (.iload 4, 2) := by decide +kernel
theorem dX6_settles_99 : decode cX6_settles 99 = .ok (.aload_n 0, 1) := by decide +kernel
theorem dX6_settles_100 : decode cX6_settles 100 = .ok (.getfield 31, 3) := by decide +kernel
theorem dX6_settles_103 : decode cX6_settles 103 = .ok (.iload 4, 2) := by decide +kernel
theorem dX6_settles_105 : decode cX6_settles 105 = .ok (.iconst 1, 1) := by decide +kernel
theorem dX6_settles_106 : decode cX6_settles 106 = .ok (.isub, 1) := by decide +kernel
theorem dX6_settles_107 : decode cX6_settles 107 = .ok (.iaload, 1) := by decide +kernel
theorem dX6_settles_108 : decode cX6_settles 108 = .ok (.iastore, 1) := by decide +kernel
theorem dX6_settles_109 : decode cX6_settles 109 = .ok (.aload_n 0, 1) := by decide +kernel
theorem dX6_settles_110 : decode cX6_settles 110 = .ok (.getfield 34, 3) := by decide +kernel
theorem dX6_settles_113 : decode cX6_settles 113 = .ok (.iload 4, 2) := by decide +kernel
theorem dX6_settles_115 : decode cX6_settles 115 = .ok (.aload_n 0, 1) := by decide +kernel
theorem dX6_settles_116 : decode cX6_settles 116 = .ok (.getfield 34, 3) := by decide +kernel
theorem dX6_settles_119 : decode cX6_settles 119 = .ok (.iload 4, 2) := by decide +kernel
theorem dX6_settles_121 : decode cX6_settles 121 = .ok (.iconst 1, 1) := by decide +kernel
theorem dX6_settles_122 : decode cX6_settles 122 = .ok (.isub, 1) := by decide +kernel
theorem dX6_settles_123 : decode cX6_settles 123 = .ok (.iaload, 1) := by decide +kernel
theorem dX6_settles_124 : decode cX6_settles 124 = .ok (.iastore, 1) := by decide +kernel
theorem dX6_settles_125 : decode cX6_settles 125 = .ok (.iconst 0, 1) := by decide +kernel
theorem dX6_settles_126 : decode cX6_settles 126 = .ok (.istore 5, 2) := by decide +kernel
theorem dX6_settles_128 : decode cX6_settles 128 = .ok (.iload 5, 2) := by decide +kernel
theorem dX6_settles_130 : decode cX6_settles 130 = .ok (.iconst 3, 1) := by decide +kernel
theorem dX6_settles_131 : decode cX6_settles 131 = .ok (.aload_n 0, 1) := by decide +kernel
theorem dX6_settles_132 : decode cX6_settles 132 = .ok (.getfield 34, 3) := by decide +kernel
theorem dX6_settles_135 : decode cX6_settles 135 = .ok (.iload 4, 2) := by decide +kernel
theorem dX6_settles_137 : decode cX6_settles 137 = .ok (.iaload, 1) := by decide +kernel
theorem dX6_settles_138 : decode cX6_settles 138 = .ok (.imul, 1) := by decide +kernel
theorem dX6_settles_139 : decode cX6_settles 139 = .ok (.if_icmp .ge 39, 3) := by decide +kernel
theorem dX6_settles_142 : decode cX6_settles 142 = .ok (.aload_n 0, 1) := by decide +kernel
theorem dX6_settles_143 : decode cX6_settles 143 = .ok (.getfield 38, 3) := by decide +kernel
theorem dX6_settles_146 : decode cX6_settles 146 = .ok (.sipush 5400, 3) := by decide +kernel
theorem dX6_settles_149 : decode cX6_settles 149 = .ok (.iload 4, 2) := by decide +kernel
theorem dX6_settles_151 : decode cX6_settles 151 = .ok (.imul, 1) := by decide +kernel
theorem dX6_settles_152 : decode cX6_settles 152 = .ok (.iload 5, 2) := by decide +kernel
theorem dX6_settles_154 : decode cX6_settles 154 = .ok (.iadd, 1) := by decide +kernel
theorem dX6_settles_155 : decode cX6_settles 155 = .ok (.aload_n 0, 1) := by decide +kernel
theorem dX6_settles_156 : decode cX6_settles 156 = .ok (.getfield 38, 3) := by decide +kernel
theorem dX6_settles_159 : decode cX6_settles 159 = .ok (.sipush 5400, 3) := by decide +kernel
theorem dX6_settles_162 : decode cX6_settles 162 = .ok (.iload 4, 2) := by decide +kernel
theorem dX6_settles_164 : decode cX6_settles 164 = .ok (.iconst 1, 1) := by decide +kernel
theorem dX6_settles_165 : decode cX6_settles 165 = .ok (.isub, 1) := by decide +kernel
theorem dX6_settles_166 : decode cX6_settles 166 = .ok (.imul, 1) := by decide +kernel
theorem dX6_settles_167 : decode cX6_settles 167 = .ok (.iload 5, 2) := by decide +kernel
theorem dX6_settles_169 : decode cX6_settles 169 = .ok (.iadd, 1) := by decide +kernel
theorem dX6_settles_170 : decode cX6_settles 170 = .ok (.iaload, 1) := by decide +kernel
theorem dX6_settles_171 : decode cX6_settles 171 = .ok (.iastore, 1) := by decide +kernel
theorem dX6_settles_172 : decode cX6_settles 172 = .ok (.iinc 5 1, 3) := by decide +kernel
theorem dX6_settles_175 : decode cX6_settles 175 = .ok (.goto (-47), 3) := by decide +kernel
theorem dX6_settles_178 : decode cX6_settles 178 = .ok (.iinc 4 (-1), 3) := by decide +kernel
theorem dX6_settles_181 : decode cX6_settles 181 = .ok (.goto (-110), 3) := by decide +kernel
theorem dX6_settles_184 : decode cX6_settles 184 = .ok (.aload_n 0, 1) := by decide +kernel
theorem dX6_settles_185 : decode cX6_settles 185 = .ok (.dup, 1) := by decide +kernel
theorem dX6_settles_186 : decode cX6_settles 186 = .ok (.getfield 107, 3) := by decide +kernel
theorem dX6_settles_189 : decode cX6_settles 189 = .ok (.iconst 1, 1) := by decide +kernel
theorem dX6_settles_190 : decode cX6_settles 190 = .ok (.iadd, 1) := by decide +kernel
theorem dX6_settles_191 : decode cX6_settles 191 = .ok (.putfield 107, 3) := by decide +kernel
theorem dX6_settles_194 : decode cX6_settles 194 = .ok (.aload_n 0, 1) := by decide +kernel
theorem dX6_settles_195 : decode cX6_settles 195 = .ok (.getfield 28, 3) := by decide +kernel
theorem dX6_settles_198 : decode cX6_settles 198 = .ok (.iload_n 3, 1) := by decide +kernel
theorem dX6_settles_199 : decode cX6_settles 199 = .ok (.aload_n 0, 1) := by decide +kernel
theorem dX6_settles_200 : decode cX6_settles 200 = .ok (.getfield 7, 3) := by decide +kernel
theorem dX6_settles_203 : decode cX6_settles 203 = .ok (.iload_n 1, 1) := by decide +kernel
theorem dX6_settles_204 : decode cX6_settles 204 = .ok (.iaload, 1) := by decide +kernel
theorem dX6_settles_205 : decode cX6_settles 205 = .ok (.iastore, 1) := by decide +kernel
theorem dX6_settles_206 : decode cX6_settles 206 = .ok (.aload_n 0, 1) := by decide +kernel
theorem dX6_settles_207 : decode cX6_settles 207 = .ok (.getfield 31, 3) := by decide +kernel
theorem dX6_settles_210 : decode cX6_settles 210 = .ok (.iload_n 3, 1) := by decide +kernel
theorem dX6_settles_211 : decode cX6_settles 211 = .ok (.iconst 0, 1) := by decide +kernel
theorem dX6_settles_212 : decode cX6_settles 212 = .ok (.iastore, 1) := by decide +kernel
theorem dX6_settles_213 : decode cX6_settles 213 = .ok (.iconst 0, 1) := by decide +kernel
theorem dX6_settles_214 : decode cX6_settles 214 = .ok (.istore 4, 2) := by decide +kernel
theorem dX6_settles_216 : decode cX6_settles 216 = .ok (.iload 4, 2) := by decide +kernel
theorem dX6_settles_218 : decode cX6_settles 218 = .ok (.aload_n 0, 1) := by decide +kernel
theorem dX6_settles_219 : decode cX6_settles 219 = .ok (.getfield 104, 3) := by decide +kernel
theorem dX6_settles_222 : decode cX6_settles 222 = .ok (.if_icmp .ge 35, 3) := by decide +kernel
theorem dX6_settles_225 : decode cX6_settles 225 = .ok (.aload_n 0, 1) := by decide +kernel
theorem dX6_settles_226 : decode cX6_settles 226 = .ok (.getfield 25, 3) := by decide +kernel
theorem dX6_settles_229 : decode cX6_settles 229 = .ok (.iload 4, 2) := by decide +kernel
theorem dX6_settles_231 : decode cX6_settles 231 = .ok (.dup2, 1) := by decide +kernel
theorem dX6_settles_232 : decode cX6_settles 232 = .ok (.iaload, 1) := by decide +kernel
theorem dX6_settles_233 : decode cX6_settles 233 = .ok (.aload_n 0, 1) := by decide +kernel
theorem dX6_settles_234 : decode cX6_settles 234 = .ok (.getfield 25, 3) := by decide +kernel
theorem dX6_settles_237 : decode cX6_settles 237 = .ok (.iload 4, 2) := by decide +kernel
theorem dX6_settles_239 : decode cX6_settles 239 = .ok (.iaload, 1) := by decide +kernel
theorem dX6_settles_240 : decode cX6_settles 240 = .ok (.iload_n 3, 1) := by decide +kernel
theorem dX6_settles_241 : decode cX6_settles 241 = .ok (.if_icmp .lt 7, 3) := by decide +kernel
theorem dX6_settles_244 : decode cX6_settles 244 = .ok (.iconst 1, 1) := by decide +kernel
theorem dX6_settles_245 : decode cX6_settles 245 = .ok (.goto 4, 3) := by decide +kernel
theorem dX6_settles_248 : decode cX6_settles 248 = .ok (.iconst 0, 1) := by decide +kernel
theorem dX6_settles_249 : decode cX6_settles 249 = .ok (.iadd, 1) := by decide +kernel
theorem dX6_settles_250 : decode cX6_settles 250 = .ok (.iastore, 1) := by decide +kernel
theorem dX6_settles_251 : decode cX6_settles 251 = .ok (.iinc 4 1, 3) := by decide +kernel
theorem dX6_settles_254 : decode cX6_settles 254 = .ok (.goto (-38), 3) := by decide +kernel
theorem dX6_settles_257 : decode cX6_settles 257 = .ok (.aload_n 0, 1) := by decide +kernel
theorem dX6_settles_258 : decode cX6_settles 258 = .ok (.getfield 104, 3) := by decide +kernel
theorem dX6_settles_261 : decode cX6_settles 261 = .ok (.istore 4, 2) := by decide +kernel
theorem dX6_settles_263 : decode cX6_settles 263 = .ok (.iload 4, 2) := by decide +kernel
theorem dX6_settles_265 : decode cX6_settles 265 = .ok (.ifCond .le 54, 3) := by decide +kernel
theorem dX6_settles_268 : decode cX6_settles 268 = .ok (.aload_n 0, 1) := by decide +kernel
theorem dX6_settles_269 : decode cX6_settles 269 = .ok (.getfield 25, 3) := by decide +kernel
theorem dX6_settles_272 : decode cX6_settles 272 = .ok (.iload 4, 2) := by decide +kernel
theorem dX6_settles_274 : decode cX6_settles 274 = .ok (.iconst 1, 1) := by decide +kernel
theorem dX6_settles_275 : decode cX6_settles 275 = .ok (.isub, 1) := by decide +kernel
theorem dX6_settles_276 : decode cX6_settles 276 = .ok (.iaload, 1) := by decide +kernel
theorem dX6_settles_277 : decode cX6_settles 277 = .ok (.iload_n 3, 1) := by decide +kernel
theorem dX6_settles_278 : decode cX6_settles 278 = .ok (.if_icmp .le 41, 3) := by decide +kernel
theorem dX6_settles_281 : decode cX6_settles 281 = .ok (.aload_n 0, 1) := by decide +kernel
theorem dX6_settles_282 : decode cX6_settles 282 = .ok (.getfield 22, 3) := by decide +kernel
theorem dX6_settles_285 : decode cX6_settles 285 = .ok (.iload 4, 2) := by decide +kernel
theorem dX6_settles_287 : decode cX6_settles 287 = .ok (.aload_n 0, 1) := by decide +kernel
theorem dX6_settles_288 : decode cX6_settles 288 = .ok (.getfield 22, 3) := by decide +kernel
theorem dX6_settles_291 : decode cX6_settles 291 = .ok (.iload 4, 2) := by decide +kernel
theorem dX6_settles_293 : decode cX6_settles 293 = .ok (.iconst 1, 1) := by decide +kernel
theorem dX6_settles_294 : decode cX6_settles 294 = .ok (.isub, 1) := by decide +kernel
theorem dX6_settles_295 : decode cX6_settles 295 = .ok (.iaload, 1) := by decide +kernel
theorem dX6_settles_296 : decode cX6_settles 296 = .ok (.iastore, 1) := by decide +kernel
theorem dX6_settles_297 : decode cX6_settles 297 = .ok (.aload_n 0, 1) := by decide +kernel
theorem dX6_settles_298 : decode cX6_settles 298 = .ok (.getfield 25, 3) := by decide +kernel
theorem dX6_settles_301 : decode cX6_settles 301 = .ok (.iload 4, 2) := by decide +kernel
theorem dX6_settles_303 : decode cX6_settles 303 = .ok (.aload_n 0, 1) := by decide +kernel
theorem dX6_settles_304 : decode cX6_settles 304 = .ok (.getfield 25, 3) := by decide +kernel
theorem dX6_settles_307 : decode cX6_settles 307 = .ok (.iload 4, 2) := by decide +kernel
theorem dX6_settles_309 : decode cX6_settles 309 = .ok (.iconst 1, 1) := by decide +kernel
theorem dX6_settles_310 : decode cX6_settles 310 = .ok (.isub, 1) := by decide +kernel
theorem dX6_settles_311 : decode cX6_settles 311 = .ok (.iaload, 1) := by decide +kernel
theorem dX6_settles_312 : decode cX6_settles 312 = .ok (.iastore, 1) := by decide +kernel
theorem dX6_settles_313 : decode cX6_settles 313 = .ok (.iinc 4 (-1), 3) := by decide +kernel
theorem dX6_settles_316 : decode cX6_settles 316 = .ok (.goto (-53), 3) := by decide +kernel
theorem dX6_settles_319 : decode cX6_settles 319 = .ok (.aload_n 0, 1) := by decide +kernel
theorem dX6_settles_320 : decode cX6_settles 320 = .ok (.getfield 22, 3) := by decide +kernel
theorem dX6_settles_323 : decode cX6_settles 323 = .ok (.iload 4, 2) := by decide +kernel
theorem dX6_settles_325 : decode cX6_settles 325 = .ok (.iload_n 1, 1) := by decide +kernel
theorem dX6_settles_326 : decode cX6_settles 326 = .ok (.iastore, 1) := by decide +kernel
theorem dX6_settles_327 : decode cX6_settles 327 = .ok (.aload_n 0, 1) := by decide +kernel
theorem dX6_settles_328 : decode cX6_settles 328 = .ok (.getfield 25, 3) := by decide +kernel
theorem dX6_settles_331 : decode cX6_settles 331 = .ok (.iload 4, 2) := by decide +kernel
theorem dX6_settles_333 : decode cX6_settles 333 = .ok (.iload_n 3, 1) := by decide +kernel
theorem dX6_settles_334 : decode cX6_settles 334 = .ok (.iastore, 1) := by decide +kernel
theorem dX6_settles_335 : decode cX6_settles 335 = .ok (.aload_n 0, 1) := by decide +kernel
theorem dX6_settles_336 : decode cX6_settles 336 = .ok (.dup, 1) := by decide +kernel
theorem dX6_settles_337 : decode cX6_settles 337 = .ok (.getfield 104, 3) := by decide +kernel
theorem dX6_settles_340 : decode cX6_settles 340 = .ok (.iconst 1, 1) := by decide +kernel
theorem dX6_settles_341 : decode cX6_settles 341 = .ok (.iadd, 1) := by decide +kernel
theorem dX6_settles_342 : decode cX6_settles 342 = .ok (.putfield 104, 3) := by decide +kernel
theorem dX6_settles_345 : decode cX6_settles 345 = .ok (.return_, 1) := by decide +kernel
set_option maxRecDepth 20000 in
theorem ggX6_order_X6_isIn : GoodIn wsX6_order wsX6_isIn := goodIn_r _ [7] (by decide +kernel) (by decide +kernel)
set_option maxRecDepth 20000 in
theorem gX6_order_X6_isIn : GoodIn wsX6_order (va_wsS RX6 60 yX6_isIn wsX6_isIn) := goodIn_app (goodIn_of _ (by decide +kernel)) ggX6_order_X6_isIn
theorem dX6_order_0 : decode cX6_order 0 = .ok (.aload_n 0, 1) := by decide +kernel
theorem dX6_order_1 : decode cX6_order 1 = .ok (.getfield 64, 3) := by decide +kernel
theorem dX6_order_4 : decode cX6_order 4 = .ok (.ifCond .ne 6, 3) := by decide +kernel
theorem dX6_order_7 : decode cX6_order 7 = .ok (.bipush (-2), 2) := by decide +kernel
theorem dX6_order_9 : decode cX6_order 9 = .ok (.ireturn, 1) := by decide +kernel
theorem dX6_order_10 : decode cX6_order 10 = .ok (.iload_n 1, 1) := by decide +kernel
theorem dX6_order_11 : decode cX6_order 11 = .ok (.iconst 0, 1) := by decide +kernel
theorem dX6_order_12 : decode cX6_order 12 = .ok (.aload_n 0, 1) := by decide +kernel
theorem dX6_order_13 : decode cX6_order 13 = .ok (.getfield 104, 3) := by decide +kernel
theorem dX6_order_16 : decode cX6_order 16 = .ok (.iconst 1, 1) := by decide +kernel
theorem dX6_order_17 : decode cX6_order 17 = .ok (.isub, 1) := by decide +kernel
theorem dX6_order_18 : decode cX6_order 18 = .ok (.invokestatic 60, 3) := by decide +kernel
theorem dX6_order_21 : decode cX6_order 21 = .ok (.ifCond .eq 12, 3) := by decide +kernel
theorem dX6_order_24 : decode cX6_order 24 = .ok (.aload_n 0, 1) := by decide +kernel
theorem dX6_order_25 : decode cX6_order 25 = .ok (.getfield 22, 3) := by decide +kernel
theorem dX6_order_28 : decode cX6_order 28 = .ok (.iload_n 1, 1) := by decide +kernel
theorem dX6_order_29 : decode cX6_order 29 = .ok (.iaload, 1) := by decide +kernel
theorem dX6_order_30 : decode cX6_order 30 = .ok (.goto 4, 3) := by decide +kernel
theorem dX6_order_33 : decode cX6_order 33 = .ok (.iconst (-1), 1) := by decide +kernel
theorem dX6_order_34 : decode cX6_order 34 = .ok (.ireturn, 1) := by decide +kernel
set_option maxRecDepth 20000 in
theorem ggX6_twin_X6_isEntry : GoodIn wsX6_twin wsX6_isEntry := goodIn_r _ [7, 8, 9, 10, 6, 11, 12, 13, 14, 15, 16, 17, 18, 19, 20, 21, 22, 23, 24, 25, 26, 27, 28, 29, 30, 31, 32, 33, 34] (by decide +kernel) (by decide +kernel)
set_option maxRecDepth 20000 in
theorem gX6_twin_X6_isEntry : GoodIn wsX6_twin (wsV RX6 68 RX6 yX6_isEntry wsX6_isEntry) := goodIn_app (goodIn_of _ (by decide +kernel)) ggX6_twin_X6_isEntry
theorem dX6_twin_0 : decode cX6_twin 0 = .ok (.aload_n 0, 1) := by decide +kernel
theorem dX6_twin_1 : decode cX6_twin 1 = .ok (.iload_n 1, 1) := by decide +kernel
theorem dX6_twin_2 : decode cX6_twin 2 = .ok (.invokevirtual 68, 3) := by decide +kernel
theorem dX6_twin_5 : decode cX6_twin 5 = .ok (.ifCond .ne 5, 3) := by decide +kernel
theorem dX6_twin_8 : decode cX6_twin 8 = .ok (.iconst (-1), 1) := by decide +kernel
theorem dX6_twin_9 : decode cX6_twin 9 = .ok (.ireturn, 1) := by decide +kernel
theorem dX6_twin_10 : decode cX6_twin 10 = .ok (.aload_n 0, 1) := by decide +kernel
theorem dX6_twin_11 : decode cX6_twin 11 = .ok (.getfield 64, 3) := by decide +kernel
theorem dX6_twin_14 : decode cX6_twin 14 = .ok (.ifCond .eq 12, 3) := by decide +kernel
theorem dX6_twin_17 : decode cX6_twin 17 = .ok (.aload_n 0, 1) := by decide +kernel
theorem dX6_twin_18 : decode cX6_twin 18 = .ok (.getfield 19, 3) := by decide +kernel
theorem dX6_twin_21 : decode cX6_twin 21 = .ok (.iload_n 1, 1) := by decide +kernel
theorem dX6_twin_22 : decode cX6_twin 22 = .ok (.iaload, 1) := by decide +kernel
theorem dX6_twin_23 : decode cX6_twin 23 = .ok (.goto 5, 3) := by decide +kernel
theorem dX6_twin_26 : decode cX6_twin 26 = .ok (.bipush (-2), 2) := by decide +kernel
theorem dX6_twin_28 : decode cX6_twin 28 = .ok (.ireturn, 1) := by decide +kernel
set_option maxRecDepth 20000 in
theorem ggX6_group_X6_isEntry : GoodIn wsX6_group wsX6_isEntry := goodIn_r _ [8, 9, 10, 11, 7, 12, 19, 20, 21, 22, 23, 24, 25, 26, 27, 28, 29, 30, 31, 32, 33, 34, 35, 36, 37, 38, 39, 40, 41] (by decide +kernel) (by decide +kernel)
set_option maxRecDepth 20000 in
theorem gX6_group_X6_isEntry : GoodIn wsX6_group (wsV RX6 68 RX6 yX6_isEntry wsX6_isEntry) := goodIn_app (goodIn_of _ (by decide +kernel)) ggX6_group_X6_isEntry
set_option maxRecDepth 20000 in
theorem ggX6_group_X6_placeInOrder : GoodIn wsX6_group wsX6_placeInOrder := goodIn_r _ [16, 17, 18, 19, 20, 21, 22, 23, 24, 25, 26, 27, 28, 29, 30, 31, 32, 33, 34, 35, 36, 37, 38, 39, 40, 41] (by decide +kernel) (by decide +kernel)
set_option maxRecDepth 20000 in
theorem gX6_group_X6_placeInOrder : GoodIn wsX6_group (wsV RX6 133 RX6 yX6_placeInOrder wsX6_placeInOrder) := goodIn_app (goodIn_of _ (by decide +kernel)) ggX6_group_X6_placeInOrder
theorem dX6_group_0 : decode cX6_group 0 = .ok (.aload_n 0, 1) := by decide +kernel
theorem dX6_group_1 : decode cX6_group 1 = .ok (.iload_n 1, 1) := by decide +kernel
theorem dX6_group_2 : decode cX6_group 2 = .ok (.invokevirtual 68, 3) := by decide +kernel
theorem dX6_group_5 : decode cX6_group 5 = .ok (.ifCond .ne 5, 3) := by decide +kernel
theorem dX6_group_8 : decode cX6_group 8 = .ok (.iconst (-1), 1) := by decide +kernel
theorem dX6_group_9 : decode cX6_group 9 = .ok (.ireturn, 1) := by decide +kernel
theorem dX6_group_10 : decode cX6_group 10 = .ok (.aload_n 0, 1) := by decide +kernel
theorem dX6_group_11 : decode cX6_group 11 = .ok (.getfield 64, 3) := by decide +kernel
theorem dX6_group_14 : decode cX6_group 14 = .ok (.ifCond .eq 21, 3) := by decide +kernel
theorem dX6_group_17 : decode cX6_group 17 = .ok (.aload_n 0, 1) := by decide +kernel
theorem dX6_group_18 : decode cX6_group 18 = .ok (.getfield 25, 3) := by decide +kernel
theorem dX6_group_21 : decode cX6_group 21 = .ok (.aload_n 0, 1) := by decide +kernel
theorem dX6_group_22 : decode cX6_group 22 = .ok (.aload_n 0, 1) := by decide +kernel
theorem dX6_group_23 : decode cX6_group 23 = .ok (.getfield 19, 3) := by decide +kernel
theorem dX6_group_26 : decode cX6_group 26 = .ok (.iload_n 1, 1) := by decide +kernel
theorem dX6_group_27 : decode cX6_group 27 = .ok (.iaload, 1) := by decide +kernel
theorem dX6_group_28 : decode cX6_group 28 = .ok (.invokevirtual 133, 3) := by decide +kernel
theorem dX6_group_31 : decode cX6_group 31 = .ok (.iaload, 1) := by decide +kernel
theorem dX6_group_32 : decode cX6_group 32 = .ok (.goto 5, 3) := by decide +kernel
theorem dX6_group_35 : decode cX6_group 35 = .ok (.bipush (-2), 2) := by decide +kernel
theorem dX6_group_37 : decode cX6_group 37 = .ok (.ireturn, 1) := by decide +kernel
set_option maxRecDepth 20000 in
theorem ggX6_placeOf_X6_placeInOrder : GoodIn wsX6_placeOf wsX6_placeInOrder := goodIn_r _ [9, 10, 4, 11, 12, 13, 14, 15, 16, 17, 18, 19, 20, 21, 22, 23, 24, 25, 26, 27, 28, 29, 30, 31, 32, 33] (by decide +kernel) (by decide +kernel)
set_option maxRecDepth 20000 in
theorem gX6_placeOf_X6_placeInOrder : GoodIn wsX6_placeOf (wsV RX6 133 RX6 yX6_placeInOrder wsX6_placeInOrder) := goodIn_app (goodIn_of _ (by decide +kernel)) ggX6_placeOf_X6_placeInOrder
theorem dX6_placeOf_0 : decode cX6_placeOf 0 = .ok (.aload_n 0, 1) := by decide +kernel
theorem dX6_placeOf_1 : decode cX6_placeOf 1 = .ok (.aload_n 0, 1) := by decide +kernel
theorem dX6_placeOf_2 : decode cX6_placeOf 2 = .ok (.getfield 19, 3) := by decide +kernel
theorem dX6_placeOf_5 : decode cX6_placeOf 5 = .ok (.iload_n 1, 1) := by decide +kernel
theorem dX6_placeOf_6 : decode cX6_placeOf 6 = .ok (.iaload, 1) := by decide +kernel
theorem dX6_placeOf_7 : decode cX6_placeOf 7 = .ok (.invokevirtual 133, 3) := by decide +kernel
theorem dX6_placeOf_10 : decode cX6_placeOf 10 = .ok (.istore_n 2, 1) := by decide +kernel
theorem dX6_placeOf_11 : decode cX6_placeOf 11 = .ok (.iconst 0, 1) := by decide +kernel
theorem dX6_placeOf_12 : decode cX6_placeOf 12 = .ok (.istore_n 3, 1) := by decide +kernel
theorem dX6_placeOf_13 : decode cX6_placeOf 13 = .ok (.iconst 0, 1) := by decide +kernel
theorem dX6_placeOf_14 : decode cX6_placeOf 14 = .ok (.istore 4, 2) := by decide +kernel
theorem dX6_placeOf_16 : decode cX6_placeOf 16 = .ok (.iload 4, 2) := by decide +kernel
theorem dX6_placeOf_18 : decode cX6_placeOf 18 = .ok (.iload_n 2, 1) := by decide +kernel
theorem dX6_placeOf_19 : decode cX6_placeOf 19 = .ok (.if_icmp .ge 44, 3) := by decide +kernel
theorem dX6_placeOf_22 : decode cX6_placeOf 22 = .ok (.iload_n 3, 1) := by decide +kernel
theorem dX6_placeOf_23 : decode cX6_placeOf 23 = .ok (.aload_n 0, 1) := by decide +kernel
theorem dX6_placeOf_24 : decode cX6_placeOf 24 = .ok (.getfield 25, 3) := by decide +kernel
theorem dX6_placeOf_27 : decode cX6_placeOf 27 = .ok (.iload 4, 2) := by decide +kernel
theorem dX6_placeOf_29 : decode cX6_placeOf 29 = .ok (.iaload, 1) := by decide +kernel
theorem dX6_placeOf_30 : decode cX6_placeOf 30 = .ok (.aload_n 0, 1) := by decide +kernel
theorem dX6_placeOf_31 : decode cX6_placeOf 31 = .ok (.getfield 25, 3) := by decide +kernel
theorem dX6_placeOf_34 : decode cX6_placeOf 34 = .ok (.iload_n 2, 1) := by decide +kernel
theorem dX6_placeOf_35 : decode cX6_placeOf 35 = .ok (.iaload, 1) := by decide +kernel
theorem dX6_placeOf_36 : decode cX6_placeOf 36 = .ok (.if_icmp .ne 18, 3) := by decide +kernel
theorem dX6_placeOf_39 : decode cX6_placeOf 39 = .ok (.aload_n 0, 1) := by decide +kernel
theorem dX6_placeOf_40 : decode cX6_placeOf 40 = .ok (.getfield 13, 3) := by decide +kernel
theorem dX6_placeOf_43 : decode cX6_placeOf 43 = .ok (.aload_n 0, 1) := by decide +kernel
theorem dX6_placeOf_44 : decode cX6_placeOf 44 = .ok (.getfield 22, 3) := by decide +kernel
theorem dX6_placeOf_47 : decode cX6_placeOf 47 = .ok (.iload 4, 2) := by decide +kernel
theorem dX6_placeOf_49 : decode cX6_placeOf 49 = .ok (.iaload, 1) := by decide +kernel
theorem dX6_placeOf_50 : decode cX6_placeOf 50 = .ok (.iaload, 1) := by decide +kernel
theorem dX6_placeOf_51 : decode cX6_placeOf 51 = .ok (.goto 4, 3) := by decide +kernel
theorem dX6_placeOf_54 : decode cX6_placeOf 54 = .ok (.iconst 0, 1) := by decide +kernel
theorem dX6_placeOf_55 : decode cX6_placeOf 55 = .ok (.iadd, 1) := by decide +kernel
theorem dX6_placeOf_56 : decode cX6_placeOf 56 = .ok (.istore_n 3, 1) := by decide +kernel
theorem dX6_placeOf_57 : decode cX6_placeOf 57 = .ok (.iinc 4 1, 3) := by decide +kernel
theorem dX6_placeOf_60 : decode cX6_placeOf 60 = .ok (.goto (-44), 3) := by decide +kernel
theorem dX6_placeOf_63 : decode cX6_placeOf 63 = .ok (.iload_n 3, 1) := by decide +kernel
theorem dX6_placeOf_64 : decode cX6_placeOf 64 = .ok (.ireturn, 1) := by decide +kernel
set_option maxRecDepth 20000 in
theorem ggX6_place_X6_isEntry : GoodIn wsX6_place wsX6_isEntry := goodIn_r _ [6, 7, 8, 9, 5, 10, 24, 25, 26, 27, 28, 29, 30, 31, 32, 33, 34, 35, 36, 37, 38, 39, 40, 41, 42, 43, 44, 45, 46] (by decide +kernel) (by decide +kernel)
set_option maxRecDepth 20000 in
theorem gX6_place_X6_isEntry : GoodIn wsX6_place (wsV RX6 68 RX6 yX6_isEntry wsX6_isEntry) := goodIn_app (goodIn_of _ (by decide +kernel)) ggX6_place_X6_isEntry
set_option maxRecDepth 20000 in
theorem ggX6_place_X6_placeOf : GoodIn wsX6_place wsX6_placeOf := goodIn_r _ [14, 15, 16, 17, 18, 19, 20, 21, 5, 22, 23, 24, 25, 26, 27, 28, 29, 30, 31, 32, 33, 34, 35, 36, 37, 38, 39, 40, 41, 42, 43, 44, 45, 46] (by decide +kernel) (by decide +kernel)
set_option maxRecDepth 20000 in
theorem gX6_place_X6_placeOf : GoodIn wsX6_place (wsV RX6 139 RX6 yX6_placeOf wsX6_placeOf) := goodIn_app (goodIn_of _ (by decide +kernel)) ggX6_place_X6_placeOf
theorem dX6_place_0 : decode cX6_place 0 = .ok (.aload_n 0, 1) := by decide +kernel
theorem dX6_place_1 : decode cX6_place 1 = .ok (.iload_n 1, 1) := by decide +kernel
theorem dX6_place_2 : decode cX6_place 2 = .ok (.invokevirtual 68, 3) := by decide +kernel
theorem dX6_place_5 : decode cX6_place 5 = .ok (.ifCond .ne 5, 3) := by decide +kernel
theorem dX6_place_8 : decode cX6_place 8 = .ok (.iconst (-1), 1) := by decide +kernel
theorem dX6_place_9 : decode cX6_place 9 = .ok (.ireturn, 1) := by decide +kernel
theorem dX6_place_10 : decode cX6_place 10 = .ok (.aload_n 0, 1) := by decide +kernel
theorem dX6_place_11 : decode cX6_place 11 = .ok (.getfield 64, 3) := by decide +kernel
theorem dX6_place_14 : decode cX6_place 14 = .ok (.ifCond .eq 11, 3) := by decide +kernel
theorem dX6_place_17 : decode cX6_place 17 = .ok (.aload_n 0, 1) := by decide +kernel
theorem dX6_place_18 : decode cX6_place 18 = .ok (.iload_n 1, 1) := by decide +kernel
theorem dX6_place_19 : decode cX6_place 19 = .ok (.invokevirtual 139, 3) := by decide +kernel
theorem dX6_place_22 : decode cX6_place 22 = .ok (.goto 5, 3) := by decide +kernel
theorem dX6_place_25 : decode cX6_place 25 = .ok (.bipush (-2), 2) := by decide +kernel
theorem dX6_place_27 : decode cX6_place 27 = .ok (.ireturn, 1) := by decide +kernel
set_option maxRecDepth 20000 in
theorem ggX6_access_X6_isEntry : GoodIn wsX6_access wsX6_isEntry := goodIn_r _ [8, 9, 10, 11, 7, 12, 29, 30, 31, 32, 33, 34, 35, 36, 37, 38, 39, 40, 41, 42, 43, 44, 45, 46, 47, 48, 49, 50, 51] (by decide +kernel) (by decide +kernel)
set_option maxRecDepth 20000 in
theorem gX6_access_X6_isEntry : GoodIn wsX6_access (wsV RX6 68 RX6 yX6_isEntry wsX6_isEntry) := goodIn_app (goodIn_of _ (by decide +kernel)) ggX6_access_X6_isEntry
set_option maxRecDepth 20000 in
theorem ggX6_access_X6_group : GoodIn wsX6_access wsX6_group := goodIn_r _ [16, 1, 17, 18, 4, 5, 6, 7, 8, 9, 10, 11, 12, 19, 20, 21, 22, 23, 24, 29, 30, 31, 32, 33, 34, 35, 36, 37, 38, 39, 40, 41, 42, 43, 44, 45, 46, 47, 48, 49, 50, 51] (by decide +kernel) (by decide +kernel)
set_option maxRecDepth 20000 in
theorem gX6_access_X6_group : GoodIn wsX6_access (wsV RX6 142 RX6 yX6_group wsX6_group) := goodIn_app (goodIn_of _ (by decide +kernel)) ggX6_access_X6_group
set_option maxRecDepth 20000 in
theorem ggX6_access_X6_placeOf : GoodIn wsX6_access wsX6_placeOf := goodIn_r _ [28, 18, 17, 2, 24, 19, 20, 21, 7, 22, 23, 29, 30, 31, 32, 33, 34, 35, 36, 37, 38, 39, 40, 41, 42, 43, 44, 45, 46, 47, 48, 49, 50, 51] (by decide +kernel) (by decide +kernel)
set_option maxRecDepth 20000 in
theorem gX6_access_X6_placeOf : GoodIn wsX6_access (wsV RX6 139 RX6 yX6_placeOf wsX6_placeOf) := goodIn_app (goodIn_of _ (by decide +kernel)) ggX6_access_X6_placeOf
theorem dX6_access_0 : decode cX6_access 0 = .ok (.aload_n 0, 1) := by decide +kernel
theorem dX6_access_1 : decode cX6_access 1 = .ok (.iload_n 1, 1) := by decide +kernel
theorem dX6_access_2 : decode cX6_access 2 = .ok (.invokevirtual 68, 3) := by decide +kernel
theorem dX6_access_5 : decode cX6_access 5 = .ok (.ifCond .ne 5, 3) := by decide +kernel
theorem dX6_access_8 : decode cX6_access 8 = .ok (.iconst (-1), 1) := by decide +kernel
theorem dX6_access_9 : decode cX6_access 9 = .ok (.ireturn, 1) := by decide +kernel
theorem dX6_access_10 : decode cX6_access 10 = .ok (.aload_n 0, 1) := by decide +kernel
theorem dX6_access_11 : decode cX6_access 11 = .ok (.getfield 64, 3) := by decide +kernel
theorem dX6_access_14 : decode cX6_access 14 = .ok (.ifCond .ne 6, 3) := by decide +kernel
theorem dX6_access_17 : decode cX6_access 17 = .ok (.bipush (-2), 2) := by decide +kernel
theorem dX6_access_19 : decode cX6_access 19 = .ok (.ireturn, 1) := by decide +kernel
theorem dX6_access_20 : decode cX6_access 20 = .ok (.aload_n 0, 1) := by decide +kernel
theorem dX6_access_21 : decode cX6_access 21 = .ok (.iload_n 1, 1) := by decide +kernel
theorem dX6_access_22 : decode cX6_access 22 = .ok (.invokevirtual 142, 3) := by decide +kernel
theorem dX6_access_25 : decode cX6_access 25 = .ok (.istore_n 2, 1) := by decide +kernel
theorem dX6_access_26 : decode cX6_access 26 = .ok (.aload_n 0, 1) := by decide +kernel
theorem dX6_access_27 : decode cX6_access 27 = .ok (.getfield 13, 3) := by decide +kernel
theorem dX6_access_30 : decode cX6_access 30 = .ok (.iload_n 1, 1) := by decide +kernel
theorem dX6_access_31 : decode cX6_access 31 = .ok (.iaload, 1) := by decide +kernel
theorem dX6_access_32 : decode cX6_access 32 = .ok (.ifCond .ne 7, 3) := by decide +kernel
theorem dX6_access_35 : decode cX6_access 35 = .ok (.iconst 0, 1) := by decide +kernel
theorem dX6_access_36 : decode cX6_access 36 = .ok (.goto 15, 3) := by decide +kernel
theorem dX6_access_39 : decode cX6_access 39 = .ok (.aload_n 0, 1) := by decide +kernel
theorem dX6_access_40 : decode cX6_access 40 = .ok (.iload_n 1, 1) := by decide +kernel
theorem dX6_access_41 : decode cX6_access 41 = .ok (.invokevirtual 139, 3) := by decide +kernel
theorem dX6_access_44 : decode cX6_access 44 = .ok (.aload_n 0, 1) := by decide +kernel
theorem dX6_access_45 : decode cX6_access 45 = .ok (.getfield 13, 3) := by decide +kernel
theorem dX6_access_48 : decode cX6_access 48 = .ok (.iload_n 1, 1) := by decide +kernel
theorem dX6_access_49 : decode cX6_access 49 = .ok (.iaload, 1) := by decide +kernel
theorem dX6_access_50 : decode cX6_access 50 = .ok (.iadd, 1) := by decide +kernel
theorem dX6_access_51 : decode cX6_access 51 = .ok (.istore_n 3, 1) := by decide +kernel
theorem dX6_access_52 : decode cX6_access 52 = .ok (.iconst 0, 1) := by decide +kernel
theorem dX6_access_53 : decode cX6_access 53 = .ok (.istore 4, 2) := by decide +kernel
theorem dX6_access_55 : decode cX6_access 55 = .ok (.iconst 0, 1) := by decide +kernel
theorem dX6_access_56 : decode cX6_access 56 = .ok (.istore 5, 2) := by decide +kernel
theorem dX6_access_58 : decode cX6_access 58 = .ok (.iload 5, 2) := by decide +kernel
theorem dX6_access_60 : decode cX6_access 60 = .ok (.iload_n 3, 1) := by decide +kernel
theorem dX6_access_61 : decode cX6_access 61 = .ok (.if_icmp .ge 31, 3) := by decide +kernel
theorem dX6_access_64 : decode cX6_access 64 = .ok (.iload 5, 2) := by decide +kernel
theorem dX6_access_66 : decode cX6_access 66 = .ok (.aload_n 0, 1) := by decide +kernel
theorem dX6_access_67 : decode cX6_access 67 = .ok (.getfield 38, 3) := by decide +kernel
theorem dX6_access_70 : decode cX6_access 70 = .ok (.sipush 5400, 3) := by decide +kernel
theorem dX6_access_73 : decode cX6_access 73 = .ok (.iload_n 2, 1) := by decide +kernel
theorem dX6_access_74 : decode cX6_access 74 = .ok (.imul, 1) := by decide +kernel
theorem dX6_access_75 : decode cX6_access 75 = .ok (.iconst 3, 1) := by decide +kernel
theorem dX6_access_76 : decode cX6_access 76 = .ok (.iload 4, 2) := by decide +kernel
theorem dX6_access_78 : decode cX6_access 78 = .ok (.imul, 1) := by decide +kernel
theorem dX6_access_79 : decode cX6_access 79 = .ok (.iadd, 1) := by decide +kernel
theorem dX6_access_80 : decode cX6_access 80 = .ok (.iconst 2, 1) := by decide +kernel
theorem dX6_access_81 : decode cX6_access 81 = .ok (.iadd, 1) := by decide +kernel
theorem dX6_access_82 : decode cX6_access 82 = .ok (.iaload, 1) := by decide +kernel
theorem dX6_access_83 : decode cX6_access 83 = .ok (.iadd, 1) := by decide +kernel
theorem dX6_access_84 : decode cX6_access 84 = .ok (.istore 5, 2) := by decide +kernel
theorem dX6_access_86 : decode cX6_access 86 = .ok (.iinc 4 1, 3) := by decide +kernel
theorem dX6_access_89 : decode cX6_access 89 = .ok (.goto (-31), 3) := by decide +kernel
theorem dX6_access_92 : decode cX6_access 92 = .ok (.iload 4, 2) := by decide +kernel
theorem dX6_access_94 : decode cX6_access 94 = .ok (.ireturn, 1) := by decide +kernel
set_option maxRecDepth 20000 in
theorem ggX6_open_X6_isEntry : GoodIn wsX6_open wsX6_isEntry := goodIn_r _ [10, 11, 12, 13, 9, 14, 31, 32, 33, 34, 35, 36, 37, 38, 39, 40, 41, 42, 43, 44, 45, 46, 47, 48, 49, 50, 51, 52, 53] (by decide +kernel) (by decide +kernel)
set_option maxRecDepth 20000 in
theorem gX6_open_X6_isEntry : GoodIn wsX6_open (wsV RX6 68 RX6 yX6_isEntry wsX6_isEntry) := goodIn_app (goodIn_of _ (by decide +kernel)) ggX6_open_X6_isEntry
set_option maxRecDepth 20000 in
theorem ggX6_open_X6_isIn : GoodIn wsX6_open wsX6_isIn := goodIn_r _ [14] (by decide +kernel) (by decide +kernel)
set_option maxRecDepth 20000 in
theorem gX6_open_X6_isIn : GoodIn wsX6_open (va_wsS RX6 60 yX6_isIn wsX6_isIn) := goodIn_app (goodIn_of _ (by decide +kernel)) ggX6_open_X6_isIn
set_option maxRecDepth 20000 in
theorem ggX6_open_X6_group : GoodIn wsX6_open wsX6_group := goodIn_r _ [18, 2, 19, 20, 6, 7, 8, 9, 10, 11, 12, 13, 14, 21, 22, 23, 24, 25, 26, 31, 32, 33, 34, 35, 36, 37, 38, 39, 40, 41, 42, 43, 44, 45, 46, 47, 48, 49, 50, 51, 52, 53] (by decide +kernel) (by decide +kernel)
