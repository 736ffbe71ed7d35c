theorem dX6_edge_140 : decode cX6_edge 140 = .ok (.goto 4, 3) := by decide +kernel
theorem dX6_edge_143 : decode cX6_edge 143 = .ok (.iconst 0, 1) := by decide +kernel
theorem dX6_edge_144 : decode cX6_edge 144 = .ok (.invokestatic 180, 3) := by decide +kernel
theorem dX6_edge_147 : decode cX6_edge 147 = .ok (.goto 4, 3) := by decide +kernel
theorem dX6_edge_150 : decode cX6_edge 150 = .ok (.iconst (-1), 1) := by decide +kernel
theorem dX6_edge_151 : decode cX6_edge 151 = .ok (.ireturn, 1) := by decide +kernel
theorem dX6_edge_152 : decode cX6_edge 152 = .ok (.iload 5, 2) := by decide +kernel
theorem dX6_edge_154 : decode cX6_edge 154 = .ok (.ifCond .eq 15, 3) := by decide +kernel
theorem dX6_edge_157 : decode cX6_edge 157 = .ok (.aload_n 0, 1) := by decide +kernel
theorem dX6_edge_158 : decode cX6_edge 158 = .ok (.getfield 26, 3) := by decide +kernel
theorem dX6_edge_161 : decode cX6_edge 161 = .ok (.getfield 184, 3) := by decide +kernel
theorem dX6_edge_164 : decode cX6_edge 164 = .ok (.iload_n 1, 1) := by decide +kernel
theorem dX6_edge_165 : decode cX6_edge 165 = .ok (.iaload, 1) := by decide +kernel
theorem dX6_edge_166 : decode cX6_edge 166 = .ok (.goto 4, 3) := by decide +kernel
theorem dX6_edge_169 : decode cX6_edge 169 = .ok (.iconst (-1), 1) := by decide +kernel
theorem dX6_edge_170 : decode cX6_edge 170 = .ok (.ireturn, 1) := by decide +kernel
theorem dX6_edge_171 : decode cX6_edge 171 = .ok (.iload 5, 2) := by decide +kernel
theorem dX6_edge_173 : decode cX6_edge 173 = .ok (.ifCond .eq 23, 3) := by decide +kernel
theorem dX6_edge_176 : decode cX6_edge 176 = .ok (.aload_n 0, 1) := by decide +kernel
theorem dX6_edge_177 : decode cX6_edge 177 = .ok (.getfield 19, 3) := by decide +kernel
theorem dX6_edge_180 : decode cX6_edge 180 = .ok (.iload_n 1, 1) := by decide +kernel
theorem dX6_edge_181 : decode cX6_edge 181 = .ok (.aload_n 0, 1) := by decide +kernel
theorem dX6_edge_182 : decode cX6_edge 182 = .ok (.getfield 26, 3) := by decide +kernel
theorem dX6_edge_185 : decode cX6_edge 185 = .ok (.getfield 184, 3) := by decide +kernel
theorem dX6_edge_188 : decode cX6_edge 188 = .ok (.iload_n 1, 1) := by decide +kernel
theorem dX6_edge_189 : decode cX6_edge 189 = .ok (.iaload, 1) := by decide +kernel
theorem dX6_edge_190 : decode cX6_edge 190 = .ok (.invokevirtual 187, 3) := by decide +kernel
theorem dX6_edge_193 : decode cX6_edge 193 = .ok (.goto 4, 3) := by decide +kernel
theorem dX6_edge_196 : decode cX6_edge 196 = .ok (.iconst 0, 1) := by decide +kernel
theorem dX6_edge_197 : decode cX6_edge 197 = .ok (.ireturn, 1) := by decide +kernel
theorem dX6_edge_198 : decode cX6_edge 198 = .ok (.aload_n 0, 1) := by decide +kernel
theorem dX6_edge_199 : decode cX6_edge 199 = .ok (.getfield 26, 3) := by decide +kernel
theorem dX6_edge_202 : decode cX6_edge 202 = .ok (.getfield 191, 3) := by decide +kernel
theorem dX6_edge_205 : decode cX6_edge 205 = .ok (.lload_n 3, 1) := by decide +kernel
theorem dX6_edge_206 : decode cX6_edge 206 = .ok (.land, 1) := by decide +kernel
theorem dX6_edge_207 : decode cX6_edge 207 = .ok (.lconst 0, 1) := by decide +kernel
theorem dX6_edge_208 : decode cX6_edge 208 = .ok (.lcmp, 1) := by decide +kernel
theorem dX6_edge_209 : decode cX6_edge 209 = .ok (.ifCond .eq 7, 3) := by decide +kernel
theorem dX6_edge_212 : decode cX6_edge 212 = .ok (.iconst 1, 1) := by decide +kernel
theorem dX6_edge_213 : decode cX6_edge 213 = .ok (.goto 4, 3) := by decide +kernel
theorem dX6_edge_216 : decode cX6_edge 216 = .ok (.iconst 0, 1) := by decide +kernel
theorem dX6_edge_217 : decode cX6_edge 217 = .ok (.invokestatic 180, 3) := by decide +kernel
theorem dX6_edge_220 : decode cX6_edge 220 = .ok (.ireturn, 1) := by decide +kernel
theorem dX6_edge_221 : decode cX6_edge 221 = .ok (.aload_n 0, 1) := by decide +kernel
theorem dX6_edge_222 : decode cX6_edge 222 = .ok (.getfield 19, 3) := by decide +kernel
theorem dX6_edge_225 : decode cX6_edge 225 = .ok (.getfield 194, 3) := by decide +kernel
theorem dX6_edge_228 : decode cX6_edge 228 = .ok (.lload_n 3, 1) := by decide +kernel
theorem dX6_edge_229 : decode cX6_edge 229 = .ok (.land, 1) := by decide +kernel
theorem dX6_edge_230 : decode cX6_edge 230 = .ok (.lconst 0, 1) := by decide +kernel
theorem dX6_edge_231 : decode cX6_edge 231 = .ok (.lcmp, 1) := by decide +kernel
theorem dX6_edge_232 : decode cX6_edge 232 = .ok (.ifCond .eq 7, 3) := by decide +kernel
theorem dX6_edge_235 : decode cX6_edge 235 = .ok (.iconst 1, 1) := by decide +kernel
theorem dX6_edge_236 : decode cX6_edge 236 = .ok (.goto 4, 3) := by decide +kernel
theorem dX6_edge_239 : decode cX6_edge 239 = .ok (.iconst 0, 1) := by decide +kernel
theorem dX6_edge_240 : decode cX6_edge 240 = .ok (.invokestatic 180, 3) := by decide +kernel
theorem dX6_edge_243 : decode cX6_edge 243 = .ok (.ireturn, 1) := by decide +kernel
theorem dX6_edge_244 : decode cX6_edge 244 = .ok (.aload_n 0, 1) := by decide +kernel
theorem dX6_edge_245 : decode cX6_edge 245 = .ok (.getfield 26, 3) := by decide +kernel
theorem dX6_edge_248 : decode cX6_edge 248 = .ok (.aload_n 0, 1) := by decide +kernel
theorem dX6_edge_249 : decode cX6_edge 249 = .ok (.getfield 19, 3) := by decide +kernel
theorem dX6_edge_252 : decode cX6_edge 252 = .ok (.invokevirtual 154, 3) := by decide +kernel
theorem dX6_edge_255 : decode cX6_edge 255 = .ok (.lload_n 3, 1) := by decide +kernel
theorem dX6_edge_256 : decode cX6_edge 256 = .ok (.land, 1) := by decide +kernel
theorem dX6_edge_257 : decode cX6_edge 257 = .ok (.lconst 0, 1) := by decide +kernel
theorem dX6_edge_258 : decode cX6_edge 258 = .ok (.lcmp, 1) := by decide +kernel
theorem dX6_edge_259 : decode cX6_edge 259 = .ok (.ifCond .eq 7, 3) := by decide +kernel
theorem dX6_edge_262 : decode cX6_edge 262 = .ok (.iconst 1, 1) := by decide +kernel
theorem dX6_edge_263 : decode cX6_edge 263 = .ok (.goto 4, 3) := by decide +kernel
theorem dX6_edge_266 : decode cX6_edge 266 = .ok (.iconst 0, 1) := by decide +kernel
theorem dX6_edge_267 : decode cX6_edge 267 = .ok (.invokestatic 180, 3) := by decide +kernel
theorem dX6_edge_270 : decode cX6_edge 270 = .ok (.ireturn, 1) := by decide +kernel
set_option maxRecDepth 20000 in
theorem ggX6_plant_X0_hasEdge : GoodIn wsX6_plant wsX0_hasEdge := goodIn_r _ [12, 13, 71, 72, 73, 74, 75, 76, 77, 78, 79, 80, 81, 82, 83] (by decide +kernel) (by decide +kernel)
set_option maxRecDepth 20000 in
theorem gX6_plant_X0_hasEdge : GoodIn wsX6_plant (wsV RX6 168 RX0 yX0_hasEdge wsX0_hasEdge) := goodIn_app (goodIn_of _ (by decide +kernel)) ggX6_plant_X0_hasEdge
set_option maxRecDepth 20000 in
theorem ggX6_plant_X6_isEstate : GoodIn wsX6_plant wsX6_isEstate := goodIn_r _ [17] (by decide +kernel) (by decide +kernel)
set_option maxRecDepth 20000 in
theorem gX6_plant_X6_isEstate : GoodIn wsX6_plant (va_wsS RX6 197 yX6_isEstate wsX6_isEstate) := goodIn_app (goodIn_of _ (by decide +kernel)) ggX6_plant_X6_isEstate
set_option maxRecDepth 20000 in
theorem ggX6_plant_X6_mayPlant : GoodIn wsX6_plant wsX6_mayPlant := goodIn_r _ [21, 6, 7, 1, 22, 62, 63, 64, 65, 66, 67, 68, 69, 70, 84, 85, 86, 87, 88, 89, 71, 72, 73, 74, 75, 76, 77, 78, 79, 80, 81, 82, 83] (by decide +kernel) (by decide +kernel)
set_option maxRecDepth 20000 in
theorem gX6_plant_X6_mayPlant : GoodIn wsX6_plant (wsV RX6 200 RX6 yX6_mayPlant wsX6_mayPlant) := goodIn_app (goodIn_of _ (by decide +kernel)) ggX6_plant_X6_mayPlant
set_option maxRecDepth 20000 in
theorem ggX6_plant_X3_remember : GoodIn wsX6_plant wsX3_remember := goodIn_r _ [27, 28, 29, 30, 31, 32, 33, 34, 35, 36, 37, 38, 39, 40, 41, 42, 43, 44, 45, 46, 47, 48, 49, 90, 91, 92, 84, 85, 86, 87, 88, 89] (by decide +kernel) (by decide +kernel)
set_option maxRecDepth 20000 in
theorem gX6_plant_X3_remember : GoodIn wsX6_plant (wsV RX6 205 RX3 yX3_remember wsX3_remember) := goodIn_app (goodIn_of _ (by decide +kernel)) ggX6_plant_X3_remember
set_option maxRecDepth 20000 in
theorem ggX6_plant_X5_setHedge : GoodIn wsX6_plant wsX5_setHedge := goodIn_r _ [53, 40, 41, 54, 45, 84, 85, 86, 87, 88, 89] (by decide +kernel) (by decide +kernel)
set_option maxRecDepth 20000 in
theorem gX6_plant_X5_setHedge : GoodIn wsX6_plant (wsV RX6 208 RX5 yX5_setHedge wsX5_setHedge) := goodIn_app (goodIn_of _ (by decide +kernel)) ggX6_plant_X5_setHedge
set_option maxRecDepth 20000 in
theorem ggX6_plant_J13_bitCount_95d88 : GoodIn wsX6_plant wsJ13_bitCount_95d88 := goodIn_r _ [58, 59, 60, 61] (by decide +kernel) (by decide +kernel)
set_option maxRecDepth 20000 in
theorem gX6_plant_J13_bitCount_95d88 : GoodIn wsX6_plant (va_wsS RX6 116 yJ13_bitCount_95d88 wsJ13_bitCount_95d88) := goodIn_app (goodIn_of _ (by decide +kernel)) ggX6_plant_J13_bitCount_95d88
theorem dX6_plant_0 : decode cX6_plant 0 = .ok (.aload_n 0, 1) := by decide +kernel
theorem dX6_plant_1 : decode cX6_plant 1 = .ok (.getfield 19, 3) := by decide +kernel
theorem dX6_plant_4 : decode cX6_plant 4 = .ok (.iload_n 1, 1) := by decide +kernel
theorem dX6_plant_5 : decode cX6_plant 5 = .ok (.invokevirtual 168, 3) := by decide +kernel
theorem dX6_plant_8 : decode cX6_plant 8 = .ok (.ifCond .eq 10, 3) := by decide +kernel
theorem dX6_plant_11 : decode cX6_plant 11 = .ok (.iload_n 2, 1) := by decide +kernel
theorem dX6_plant_12 : decode cX6_plant 12 = .ok (.invokestatic 197, 3) := by decide +kernel
theorem dX6_plant_15 : decode cX6_plant 15 = .ok (.ifCond .ne 6, 3) := by decide +kernel
theorem dX6_plant_18 : decode cX6_plant 18 = .ok (.ldc 147, 2) := by decide +kernel
theorem dX6_plant_20 : decode cX6_plant 20 = .ok (.ireturn, 1) := by decide +kernel
theorem dX6_plant_21 : decode cX6_plant 21 = .ok (.aload_n 0, 1) := by decide +kernel
theorem dX6_plant_22 : decode cX6_plant 22 = .ok (.aload_n 0, 1) := by decide +kernel
theorem dX6_plant_23 : decode cX6_plant 23 = .ok (.getfield 19, 3) := by decide +kernel
theorem dX6_plant_26 : decode cX6_plant 26 = .ok (.getfield 171, 3) := by decide +kernel
theorem dX6_plant_29 : decode cX6_plant 29 = .ok (.iload_n 1, 1) := by decide +kernel
theorem dX6_plant_30 : decode cX6_plant 30 = .ok (.laload, 1) := by decide +kernel
theorem dX6_plant_31 : decode cX6_plant 31 = .ok (.invokevirtual 200, 3) := by decide +kernel
theorem dX6_plant_34 : decode cX6_plant 34 = .ok (.ifCond .ne 6, 3) := by decide +kernel
theorem dX6_plant_37 : decode cX6_plant 37 = .ok (.ldc 204, 2) := by decide +kernel
theorem dX6_plant_39 : decode cX6_plant 39 = .ok (.ireturn, 1) := by decide +kernel
theorem dX6_plant_40 : decode cX6_plant 40 = .ok (.aload_n 0, 1) := by decide +kernel
theorem dX6_plant_41 : decode cX6_plant 41 = .ok (.getfield 33, 3) := by decide +kernel
theorem dX6_plant_44 : decode cX6_plant 44 = .ok (.aload_n 0, 1) := by decide +kernel
theorem dX6_plant_45 : decode cX6_plant 45 = .ok (.getfield 26, 3) := by decide +kernel
theorem dX6_plant_48 : decode cX6_plant 48 = .ok (.invokevirtual 205, 3) := by decide +kernel
theorem dX6_plant_51 : decode cX6_plant 51 = .ok (.aload_n 0, 1) := by decide +kernel
theorem dX6_plant_52 : decode cX6_plant 52 = .ok (.getfield 26, 3) := by decide +kernel
theorem dX6_plant_55 : decode cX6_plant 55 = .ok (.iload_n 1, 1) := by decide +kernel
theorem dX6_plant_56 : decode cX6_plant 56 = .ok (.aload_n 0, 1) := by decide +kernel
theorem dX6_plant_57 : decode cX6_plant 57 = .ok (.getfield 19, 3) := by decide +kernel
theorem dX6_plant_60 : decode cX6_plant 60 = .ok (.getfield 171, 3) := by decide +kernel
theorem dX6_plant_63 : decode cX6_plant 63 = .ok (.iload_n 1, 1) := by decide +kernel
theorem dX6_plant_64 : decode cX6_plant 64 = .ok (.laload, 1) := by decide +kernel
theorem dX6_plant_65 : decode cX6_plant 65 = .ok (.iload_n 2, 1) := by decide +kernel
theorem dX6_plant_66 : decode cX6_plant 66 = .ok (.iconst 0, 1) := by decide +kernel
theorem dX6_plant_67 : decode cX6_plant 67 = .ok (.invokevirtual 208, 3) := by decide +kernel
theorem dX6_plant_70 : decode cX6_plant 70 = .ok (.aload_n 0, 1) := by decide +kernel
theorem dX6_plant_71 : decode cX6_plant 71 = .ok (.getfield 26, 3) := by decide +kernel
theorem dX6_plant_74 : decode cX6_plant 74 = .ok (.getfield 112, 3) := by decide +kernel
theorem dX6_plant_77 : decode cX6_plant 77 = .ok (.invokestatic 116, 3) := by decide +kernel
theorem dX6_plant_80 : decode cX6_plant 80 = .ok (.ireturn, 1) := by decide +kernel
set_option maxRecDepth 20000 in
theorem ggX6_graze_X0_hasEdge : GoodIn wsX6_graze wsX0_hasEdge := goodIn_r _ [13, 14, 56, 57, 58, 59, 60, 61, 62, 63, 64, 65, 66, 67, 68] (by decide +kernel) (by decide +kernel)
set_option maxRecDepth 20000 in
theorem gX6_graze_X0_hasEdge : GoodIn wsX6_graze (wsV RX6 168 RX0 yX0_hasEdge wsX0_hasEdge) := goodIn_app (goodIn_of _ (by decide +kernel)) ggX6_graze_X0_hasEdge
set_option maxRecDepth 20000 in
theorem ggX6_graze_X3_remember : GoodIn wsX6_graze wsX3_remember := goodIn_r _ [19, 20, 21, 22, 23, 24, 25, 26, 27, 28, 29, 30, 31, 32, 33, 34, 35, 36, 37, 38, 39, 40, 41, 75, 76, 77, 69, 70, 71, 72, 73, 74] (by decide +kernel) (by decide +kernel)
set_option maxRecDepth 20000 in
theorem gX6_graze_X3_remember : GoodIn wsX6_graze (wsV RX6 205 RX3 yX3_remember wsX3_remember) := goodIn_app (goodIn_of _ (by decide +kernel)) ggX6_graze_X3_remember
set_option maxRecDepth 20000 in
theorem ggX6_graze_X5_removeHedge : GoodIn wsX6_graze wsX5_removeHedge := goodIn_r _ [45, 32, 46, 33, 34, 69, 70, 71, 72, 73, 74] (by decide +kernel) (by decide +kernel)
set_option maxRecDepth 20000 in
theorem gX6_graze_X5_removeHedge : GoodIn wsX6_graze (wsV RX6 212 RX5 yX5_removeHedge wsX5_removeHedge) := goodIn_app (goodIn_of _ (by decide +kernel)) ggX6_graze_X5_removeHedge
theorem dX6_graze_0 : decode cX6_graze 0 = .ok (.aload_n 0, 1) := by decide +kernel
theorem dX6_graze_1 : decode cX6_graze 1 = .ok (.getfield 19, 3) := by decide +kernel
theorem dX6_graze_4 : decode cX6_graze 4 = .ok (.iload_n 1, 1) := by decide +kernel
theorem dX6_graze_5 : decode cX6_graze 5 = .ok (.invokevirtual 168, 3) := by decide +kernel
theorem dX6_graze_8 : decode cX6_graze 8 = .ok (.ifCond .ne 6, 3) := by decide +kernel
theorem dX6_graze_11 : decode cX6_graze 11 = .ok (.ldc 147, 2) := by decide +kernel
theorem dX6_graze_13 : decode cX6_graze 13 = .ok (.ireturn, 1) := by decide +kernel
theorem dX6_graze_14 : decode cX6_graze 14 = .ok (.aload_n 0, 1) := by decide +kernel
theorem dX6_graze_15 : decode cX6_graze 15 = .ok (.getfield 19, 3) := by decide +kernel
theorem dX6_graze_18 : decode cX6_graze 18 = .ok (.getfield 171, 3) := by decide +kernel
theorem dX6_graze_21 : decode cX6_graze 21 = .ok (.iload_n 1, 1) := by decide +kernel
theorem dX6_graze_22 : decode cX6_graze 22 = .ok (.laload, 1) := by decide +kernel
theorem dX6_graze_23 : decode cX6_graze 23 = .ok (.lstore_n 2, 1) := by decide +kernel
theorem dX6_graze_24 : decode cX6_graze 24 = .ok (.aload_n 0, 1) := by decide +kernel
theorem dX6_graze_25 : decode cX6_graze 25 = .ok (.getfield 26, 3) := by decide +kernel
theorem dX6_graze_28 : decode cX6_graze 28 = .ok (.getfield 112, 3) := by decide +kernel
theorem dX6_graze_31 : decode cX6_graze 31 = .ok (.lload_n 2, 1) := by decide +kernel
theorem dX6_graze_32 : decode cX6_graze 32 = .ok (.land, 1) := by decide +kernel
theorem dX6_graze_33 : decode cX6_graze 33 = .ok (.lconst 0, 1) := by decide +kernel
theorem dX6_graze_34 : decode cX6_graze 34 = .ok (.lcmp, 1) := by decide +kernel
theorem dX6_graze_35 : decode cX6_graze 35 = .ok (.ifCond .ne 6, 3) := by decide +kernel
theorem dX6_graze_38 : decode cX6_graze 38 = .ok (.ldc 204, 2) := by decide +kernel
theorem dX6_graze_40 : decode cX6_graze 40 = .ok (.ireturn, 1) := by decide +kernel
theorem dX6_graze_41 : decode cX6_graze 41 = .ok (.aload_n 0, 1) := by decide +kernel
theorem dX6_graze_42 : decode cX6_graze 42 = .ok (.getfield 33, 3) := by decide +kernel
theorem dX6_graze_45 : decode cX6_graze 45 = .ok (.aload_n 0, 1) := by decide +kernel
theorem dX6_graze_46 : decode cX6_graze 46 = .ok (.getfield 26, 3) := by decide +kernel
theorem dX6_graze_49 : decode cX6_graze 49 = .ok (.invokevirtual 205, 3) := by decide +kernel
theorem dX6_graze_52 : decode cX6_graze 52 = .ok (.aload_n 0, 1) := by decide +kernel
theorem dX6_graze_53 : decode cX6_graze 53 = .ok (.getfield 26, 3) := by decide +kernel
theorem dX6_graze_56 : decode cX6_graze 56 = .ok (.lload_n 2, 1) := by decide +kernel
theorem dX6_graze_57 : decode cX6_graze 57 = .ok (.invokevirtual 212, 3) := by decide +kernel
theorem dX6_graze_60 : decode cX6_graze 60 = .ok (.aload_n 0, 1) := by decide +kernel
theorem dX6_graze_61 : decode cX6_graze 61 = .ok (.getfield 26, 3) := by decide +kernel
theorem dX6_graze_64 : decode cX6_graze 64 = .ok (.getfield 184, 3) := by decide +kernel
theorem dX6_graze_67 : decode cX6_graze 67 = .ok (.iload_n 1, 1) := by decide +kernel
theorem dX6_graze_68 : decode cX6_graze 68 = .ok (.iaload, 1) := by decide +kernel
theorem dX6_graze_69 : decode cX6_graze 69 = .ok (.ireturn, 1) := by decide +kernel
set_option maxRecDepth 20000 in
theorem ggX6_gate_X0_hasEdge : GoodIn wsX6_gate wsX0_hasEdge := goodIn_r _ [14, 15, 56, 57, 58, 59, 60, 61, 62, 63, 64, 65, 66, 67, 68] (by decide +kernel) (by decide +kernel)
set_option maxRecDepth 20000 in
theorem gX6_gate_X0_hasEdge : GoodIn wsX6_gate (wsV RX6 168 RX0 yX0_hasEdge wsX0_hasEdge) := goodIn_app (goodIn_of _ (by decide +kernel)) ggX6_gate_X0_hasEdge
set_option maxRecDepth 20000 in
theorem ggX6_gate_X3_remember : GoodIn wsX6_gate wsX3_remember := goodIn_r _ [20, 21, 22, 23, 24, 25, 26, 27, 28, 29, 30, 31, 32, 33, 34, 35, 36, 37, 38, 39, 40, 41, 42, 75, 76, 77, 69, 70, 71, 72, 73, 74] (by decide +kernel) (by decide +kernel)
set_option maxRecDepth 20000 in
theorem gX6_gate_X3_remember : GoodIn wsX6_gate (wsV RX6 205 RX3 yX3_remember wsX3_remember) := goodIn_app (goodIn_of _ (by decide +kernel)) ggX6_gate_X3_remember
set_option maxRecDepth 20000 in
theorem ggX6_gate_X6_oneIf : GoodIn wsX6_gate wsX6_oneIf := goodIn_r _ [46] (by decide +kernel) (by decide +kernel)
set_option maxRecDepth 20000 in
theorem gX6_gate_X6_oneIf : GoodIn wsX6_gate (va_wsS RX6 180 yX6_oneIf wsX6_oneIf) := goodIn_app (goodIn_of _ (by decide +kernel)) ggX6_gate_X6_oneIf
theorem dX6_gate_0 : decode cX6_gate 0 = .ok (.aload_n 0, 1) := by decide +kernel
theorem dX6_gate_1 : decode cX6_gate 1 = .ok (.getfield 19, 3) := by decide +kernel
theorem dX6_gate_4 : decode cX6_gate 4 = .ok (.iload_n 1, 1) := by decide +kernel
theorem dX6_gate_5 : decode cX6_gate 5 = .ok (.invokevirtual 168, 3) := by decide +kernel
theorem dX6_gate_8 : decode cX6_gate 8 = .ok (.ifCond .ne 6, 3) := by decide +kernel
theorem dX6_gate_11 : decode cX6_gate 11 = .ok (.ldc 147, 2) := by decide +kernel
theorem dX6_gate_13 : decode cX6_gate 13 = .ok (.ireturn, 1) := by decide +kernel
theorem dX6_gate_14 : decode cX6_gate 14 = .ok (.aload_n 0, 1) := by decide +kernel
theorem dX6_gate_15 : decode cX6_gate 15 = .ok (.getfield 19, 3) := by decide +kernel
theorem dX6_gate_18 : decode cX6_gate 18 = .ok (.getfield 171, 3) := by decide +kernel
theorem dX6_gate_21 : decode cX6_gate 21 = .ok (.iload_n 1, 1) := by decide +kernel
theorem dX6_gate_22 : decode cX6_gate 22 = .ok (.laload, 1) := by decide +kernel
theorem dX6_gate_23 : decode cX6_gate 23 = .ok (.lstore_n 3, 1) := by decide +kernel
theorem dX6_gate_24 : decode cX6_gate 24 = .ok (.aload_n 0, 1) := by decide +kernel
theorem dX6_gate_25 : decode cX6_gate 25 = .ok (.getfield 26, 3) := by decide +kernel
theorem dX6_gate_28 : decode cX6_gate 28 = .ok (.getfield 112, 3) := by decide +kernel
theorem dX6_gate_31 : decode cX6_gate 31 = .ok (.lload_n 3, 1) := by decide +kernel
theorem dX6_gate_32 : decode cX6_gate 32 = .ok (.land, 1) := by decide +kernel
theorem dX6_gate_33 : decode cX6_gate 33 = .ok (.lconst 0, 1) := by decide +kernel
theorem dX6_gate_34 : decode cX6_gate 34 = .ok (.lcmp, 1) := by decide +kernel
theorem dX6_gate_35 : decode cX6_gate 35 = .ok (.ifCond .ne 6, 3) := by decide +kernel
theorem dX6_gate_38 : decode cX6_gate 38 = .ok (.ldc 204, 2) := by decide +kernel
theorem dX6_gate_40 : decode cX6_gate 40 = .ok (.ireturn, 1) := by decide +kernel
theorem dX6_gate_41 : decode cX6_gate 41 = .ok (.aload_n 0, 1) := by decide +kernel
theorem dX6_gate_42 : decode cX6_gate 42 = .ok (.getfield 33, 3) := by decide +kernel
theorem dX6_gate_45 : decode cX6_gate 45 = .ok (.aload_n 0, 1) := by decide +kernel
theorem dX6_gate_46 : decode cX6_gate 46 = .ok (.getfield 26, 3) := by decide +kernel
theorem dX6_gate_49 : decode cX6_gate 49 = .ok (.invokevirtual 205, 3) := by decide +kernel
theorem dX6_gate_52 : decode cX6_gate 52 = .ok (.aload_n 0, 1) := by decide +kernel
theorem dX6_gate_53 : decode cX6_gate 53 = .ok (.getfield 26, 3) := by decide +kernel
theorem dX6_gate_56 : decode cX6_gate 56 = .ok (.getfield 191, 3) := by decide +kernel
theorem dX6_gate_59 : decode cX6_gate 59 = .ok (.lload_n 3, 1) := by decide +kernel
theorem dX6_gate_60 : decode cX6_gate 60 = .ok (.land, 1) := by decide +kernel
theorem dX6_gate_61 : decode cX6_gate 61 = .ok (.lconst 0, 1) := by decide +kernel
theorem dX6_gate_62 : decode cX6_gate 62 = .ok (.lcmp, 1) := by decide +kernel
theorem dX6_gate_63 : decode cX6_gate 63 = .ok (.ifCond .eq 7, 3) := by decide +kernel
theorem dX6_gate_66 : decode cX6_gate 66 = .ok (.iconst 1, 1) := by decide +kernel
theorem dX6_gate_67 : decode cX6_gate 67 = .ok (.goto 4, 3) := by decide +kernel
theorem dX6_gate_70 : decode cX6_gate 70 = .ok (.iconst 0, 1) := by decide +kernel
theorem dX6_gate_71 : decode cX6_gate 71 = .ok (.invokestatic 180, 3) := by decide +kernel
theorem dX6_gate_74 : decode cX6_gate 74 = .ok (.istore 5, 2) := by decide +kernel
theorem dX6_gate_76 : decode cX6_gate 76 = .ok (.aload_n 0, 1) := by decide +kernel
theorem dX6_gate_77 : decode cX6_gate 77 = .ok (.getfield 26, 3) := by decide +kernel
theorem dX6_gate_80 : decode cX6_gate 80 = .ok (.iload_n 2, 1) := by decide +kernel
theorem dX6_gate_81 : decode cX6_gate 81 = .ok (.ifCond .eq 15, 3) := by decide +kernel
theorem dX6_gate_84 : decode cX6_gate 84 = .ok (.aload_n 0, 1) := by decide +kernel
theorem dX6_gate_85 : decode cX6_gate 85 = .ok (.getfield 26, 3) := by decide +kernel
theorem dX6_gate_88 : decode cX6_gate 88 = .ok (.getfield 191, 3) := by decide +kernel
theorem dX6_gate_91 : decode cX6_gate 91 = .ok (.lload_n 3, 1) := by decide +kernel
theorem dX6_gate_92 : decode cX6_gate 92 = .ok (.lor, 1) := by decide +kernel
theorem dX6_gate_93 : decode cX6_gate 93 = .ok (.goto 16, 3) := by decide +kernel
theorem dX6_gate_96 : decode cX6_gate 96 = .ok (.aload_n 0, 1) := by decide +kernel
theorem dX6_gate_97 : decode cX6_gate 97 = .ok (.getfield 26, 3) := by decide +kernel
theorem dX6_gate_100 : decode cX6_gate 100 = .ok (.getfield 191, 3) := by decide +kernel
theorem dX6_gate_103 : decode cX6_gate 103 = .ok (.lload_n 3, 1) := by decide +kernel
theorem dX6_gate_104 : decode cX6_gate 104 = .ok (.ldc2_w 216, 3) := by decide +kernel
theorem dX6_gate_107 : decode cX6_gate 107 = .ok (.lxor, 1) := by decide +kernel
theorem dX6_gate_108 : decode cX6_gate 108 = .ok (.land, 1) := by decide +kernel
theorem dX6_gate_109 : decode cX6_gate 109 = .ok (.putfield 191, 3) := by decide +kernel
theorem dX6_gate_112 : decode cX6_gate 112 = .ok (.iload 5, 2) := by decide +kernel
theorem dX6_gate_114 : decode cX6_gate 114 = .ok (.ireturn, 1) := by decide +kernel
set_option maxRecDepth 20000 in
theorem ggX6_year_X6_passYears : GoodIn wsX6_year wsX6_passYears := goodIn_r _ [5, 6, 7, 8, 9, 10, 11, 12, 13, 14, 15, 16, 17, 18, 19, 20, 21, 22, 23, 24, 25, 26, 27, 28, 29, 30, 31, 32, 33, 34, 35, 36, 37, 38, 39, 40, 41, 42, 43, 44, 4, 45, 46, 47, 48, 49, 50, 51, 52, 53, 54, 55, 56, 57, 58, 59, 60, 61, 62, 63, 64, 65, 66, 67, 68, 69, 70, 71, 72, 73, 74, 75, 76, 77, 78, 79, 80, 81, 82, 83, 84, 85, 86, 87, 88, 89, 90, 91, 92, 93, 94, 95, 96, 97, 98, 99, 100, 101, 102, 103, 104, 105, 106, 107, 108, 109, 110, 111, 112, 113, 114, 115, 116, 117, 118, 119, 120, 121, 122, 123, 124, 125, 126, 127, 128, 129, 130, 131, 132, 133, 134, 135, 136, 137, 138, 139, 140, 141, 142, 143, 144, 145, 146, 147, 148, 149, 150, 151, 152, 153, 154, 155, 156, 157, 158, 159, 160, 161, 162, 163, 164] (by decide +kernel) (by decide +kernel)
set_option maxRecDepth 20000 in
theorem gX6_year_X6_passYears : GoodIn wsX6_year (wsV RX6 218 RX6 yX6_passYears wsX6_passYears) := goodIn_app (goodIn_of _ (by decide +kernel)) ggX6_year_X6_passYears
theorem dX6_year_0 : decode cX6_year 0 = .ok (.aload_n 0, 1) := by decide +kernel
theorem dX6_year_1 : decode cX6_year 1 = .ok (.iload_n 1, 1) := by decide +kernel
theorem dX6_year_2 : decode cX6_year 2 = .ok (.iconst 0, 1) := by decide +kernel
theorem dX6_year_3 : decode cX6_year 3 = .ok (.invokevirtual 218, 3) := by decide +kernel
theorem dX6_year_6 : decode cX6_year 6 = .ok (.ireturn, 1) := by decide +kernel
set_option maxRecDepth 20000 in
theorem ggX6_drift_X6_passYears : GoodIn wsX6_drift wsX6_passYears := goodIn_r _ [5, 6, 7, 8, 9, 10, 11, 12, 13, 14, 15, 16, 17, 18, 19, 20, 21, 22, 23, 24, 25, 26, 27, 28, 29, 30, 31, 32, 33, 34, 35, 36, 37, 38, 39, 40, 41, 42, 43, 44, 4, 45, 46, 47, 48, 49, 50, 51, 52, 53, 54, 55, 56, 57, 58, 59, 60, 61, 62, 63, 64, 65, 66, 67, 68, 69, 70, 71, 72, 73, 74, 75, 76, 77, 78, 79, 80, 81, 82, 83, 84, 85, 86, 87, 88, 89, 90, 91, 92, 93, 94, 95, 96, 97, 98, 99, 100, 101, 102, 103, 104, 105, 106, 107, 108, 109, 110, 111, 112, 113, 114, 115, 116, 117, 118, 119, 120, 121, 122, 123, 124, 125, 126, 127, 128, 129, 130, 131, 132, 133, 134, 135, 136, 137, 138, 139, 140, 141, 142, 143, 144, 145, 146, 147, 148, 149, 150, 151, 152, 153, 154, 155, 156, 157, 158, 159, 160, 161, 162, 163, 164] (by decide +kernel) (by decide +kernel)
set_option maxRecDepth 20000 in
theorem gX6_drift_X6_passYears : GoodIn wsX6_drift (wsV RX6 218 RX6 yX6_passYears wsX6_passYears) := goodIn_app (goodIn_of _ (by decide +kernel)) ggX6_drift_X6_passYears
theorem dX6_drift_0 : decode cX6_drift 0 = .ok (.aload_n 0, 1) := by decide +kernel
theorem dX6_drift_1 : decode cX6_drift 1 = .ok (.iload_n 1, 1) := by decide +kernel
theorem dX6_drift_2 : decode cX6_drift 2 = .ok (.iconst 1, 1) := by decide +kernel
theorem dX6_drift_3 : decode cX6_drift 3 = .ok (.invokevirtual 218, 3) := by decide +kernel
theorem dX6_drift_6 : decode cX6_drift 6 = .ok (.ireturn, 1) := by decide +kernel
set_option maxRecDepth 20000 in
theorem ggX6_undo_X3_recall : GoodIn wsX6_undo wsX3_recall := goodIn_r _ [9, 10, 11, 12, 13, 14, 15, 16, 17, 18, 19, 20, 21, 22, 23, 24, 25, 26, 27, 37, 38, 39, 40, 41, 42, 43, 44, 45] (by decide +kernel) (by decide +kernel)
set_option maxRecDepth 20000 in
theorem gX6_undo_X3_recall : GoodIn wsX6_undo (wsV RX6 222 RX3 yX3_recall wsX3_recall) := goodIn_app (goodIn_of _ (by decide +kernel)) ggX6_undo_X3_recall
theorem dX6_undo_0 : decode cX6_undo 0 = .ok (.aload_n 0, 1) := by decide +kernel
theorem dX6_undo_1 : decode cX6_undo 1 = .ok (.getfield 33, 3) := by decide +kernel
theorem dX6_undo_4 : decode cX6_undo 4 = .ok (.getfield 140, 3) := by decide +kernel
theorem dX6_undo_7 : decode cX6_undo 7 = .ok (.ifCond .ne 6, 3) := by decide +kernel
theorem dX6_undo_10 : decode cX6_undo 10 = .ok (.ldc 204, 2) := by decide +kernel
theorem dX6_undo_12 : decode cX6_undo 12 = .ok (.ireturn, 1) := by decide +kernel
theorem dX6_undo_13 : decode cX6_undo 13 = .ok (.aload_n 0, 1) := by decide +kernel
theorem dX6_undo_14 : decode cX6_undo 14 = .ok (.getfield 33, 3) := by decide +kernel
theorem dX6_undo_17 : decode cX6_undo 17 = .ok (.aload_n 0, 1) := by decide +kernel
theorem dX6_undo_18 : decode cX6_undo 18 = .ok (.getfield 26, 3) := by decide +kernel
theorem dX6_undo_21 : decode cX6_undo 21 = .ok (.invokevirtual 222, 3) := by decide +kernel
theorem dX6_undo_24 : decode cX6_undo 24 = .ok (.aload_n 0, 1) := by decide +kernel
theorem dX6_undo_25 : decode cX6_undo 25 = .ok (.getfield 33, 3) := by decide +kernel
theorem dX6_undo_28 : decode cX6_undo 28 = .ok (.getfield 140, 3) := by decide +kernel
theorem dX6_undo_31 : decode cX6_undo 31 = .ok (.ireturn, 1) := by decide +kernel
set_option maxRecDepth 20000 in
theorem ggX6_slips_X6_isEstate : GoodIn wsX6_slips wsX6_isEstate := goodIn_r _ [11] (by decide +kernel) (by decide +kernel)
set_option maxRecDepth 20000 in
theorem gX6_slips_X6_isEstate : GoodIn wsX6_slips (va_wsS RX6 197 yX6_isEstate wsX6_isEstate) := goodIn_app (goodIn_of _ (by decide +kernel)) ggX6_slips_X6_isEstate
set_option maxRecDepth 20000 in
theorem ggX6_slips_X0_hasField : GoodIn wsX6_slips wsX0_hasField := goodIn_r _ [16, 17, 104, 105, 106, 107, 108, 109, 110, 111, 112, 113, 114, 115, 116] (by decide +kernel) (by decide +kernel)
set_option maxRecDepth 20000 in
theorem gX6_slips_X0_hasField : GoodIn wsX6_slips (wsV RX6 143 RX0 yX0_hasField wsX0_hasField) := goodIn_app (goodIn_of _ (by decide +kernel)) ggX6_slips_X0_hasField
set_option maxRecDepth 20000 in
theorem ggX6_slips_X5_tallHedges : GoodIn wsX6_slips wsX5_tallHedges := goodIn_r _ [22, 23, 24, 25, 26, 27, 28, 29, 15, 30, 31, 32, 33, 34, 35, 36, 37, 38, 39, 40, 41, 104, 105, 106, 107, 108, 109, 110, 111, 112, 113, 114, 115, 116, 98, 99, 100, 101, 102, 103] (by decide +kernel) (by decide +kernel)
set_option maxRecDepth 20000 in
theorem gX6_slips_X5_tallHedges : GoodIn wsX6_slips (wsV RX6 225 RX5 yX5_tallHedges wsX5_tallHedges) := goodIn_app (goodIn_of _ (by decide +kernel)) ggX6_slips_X5_tallHedges
set_option maxRecDepth 20000 in
theorem ggX6_slips_X6_slipsTallIn : GoodIn wsX6_slips wsX6_slipsTallIn := goodIn_r _ [45, 1, 46, 47, 48, 49, 50, 10, 51, 4, 52, 53, 54, 55, 56, 15, 57, 35, 36, 37, 38, 39, 40, 41, 89, 90, 91, 92, 93, 94, 95, 96, 97, 104, 105, 106, 107, 108, 109, 110, 111, 112, 113, 114, 115, 116, 98, 99, 100, 101, 102, 103] (by decide +kernel) (by decide +kernel)
set_option maxRecDepth 20000 in
theorem gX6_slips_X6_slipsTallIn : GoodIn wsX6_slips (wsV RX6 229 RX6 yX6_slipsTallIn wsX6_slipsTallIn) := goodIn_app (goodIn_of _ (by decide +kernel)) ggX6_slips_X6_slipsTallIn
set_option maxRecDepth 20000 in
theorem ggX6_slips_X6_cheapestLand : GoodIn wsX6_slips wsX6_cheapestLand := goodIn_r _ [61, 1, 62, 63, 6, 64, 65, 66, 67, 68, 69, 70, 71, 72, 73, 15, 74, 75, 76, 77, 78, 79, 80, 81, 82, 83, 84, 89, 90, 91, 92, 93, 94, 95, 96, 97, 104, 105, 106, 107, 108, 109, 110, 111, 112, 113, 114, 115, 116] (by decide +kernel) (by decide +kernel)
set_option maxRecDepth 20000 in
theorem gX6_slips_X6_cheapestLand : GoodIn wsX6_slips (wsV RX6 232 RX6 yX6_cheapestLand wsX6_cheapestLand) := goodIn_app (goodIn_of _ (by decide +kernel)) ggX6_slips_X6_cheapestLand
set_option maxRecDepth 20000 in
theorem ggX6_slips_X0_edgesRound : GoodIn wsX6_slips wsX0_edgesRound := goodIn_r _ [74, 75, 76, 77, 104, 105, 106, 107, 108, 109, 110, 111, 112, 113, 114, 115, 116] (by decide +kernel) (by decide +kernel)
set_option maxRecDepth 20000 in
theorem gX6_slips_X0_edgesRound : GoodIn wsX6_slips (wsV RX6 130 RX0 yX0_edgesRound wsX0_edgesRound) := goodIn_app (goodIn_of _ (by decide +kernel)) ggX6_slips_X0_edgesRound
set_option maxRecDepth 20000 in
theorem ggX6_slips_X6_countOrPick : GoodIn wsX6_slips wsX6_countOrPick := goodIn_r _ [88, 1, 46, 47, 78, 79, 80, 81, 82, 83, 84, 89, 90, 91, 92, 93, 94, 95, 96, 97, 104, 105, 106, 107, 108, 109, 110, 111, 112, 113, 114, 115, 116] (by decide +kernel) (by decide +kernel)
set_option maxRecDepth 20000 in
theorem gX6_slips_X6_countOrPick : GoodIn wsX6_slips (wsV RX6 236 RX6 yX6_countOrPick wsX6_countOrPick) := goodIn_app (goodIn_of _ (by decide +kernel)) ggX6_slips_X6_countOrPick
theorem dX6_slips_0 : decode cX6_slips 0 = .ok (.iload_n 1, 1) := by decide +kernel
theorem dX6_slips_1 : decode cX6_slips 1 = .ok (.invokestatic 197, 3) := by decide +kernel
theorem dX6_slips_4 : decode cX6_slips 4 = .ok (.ifCond .eq 14, 3) := by decide +kernel
theorem dX6_slips_7 : decode cX6_slips 7 = .ok (.aload_n 0, 1) := by decide +kernel
theorem dX6_slips_8 : decode cX6_slips 8 = .ok (.getfield 19, 3) := by decide +kernel
theorem dX6_slips_11 : decode cX6_slips 11 = .ok (.iload_n 2, 1) := by decide +kernel
theorem dX6_slips_12 : decode cX6_slips 12 = .ok (.invokevirtual 143, 3) := by decide +kernel
theorem dX6_slips_15 : decode cX6_slips 15 = .ok (.ifCond .ne 6, 3) := by decide +kernel
theorem dX6_slips_18 : decode cX6_slips 18 = .ok (.ldc 147, 2) := by decide +kernel
theorem dX6_slips_20 : decode cX6_slips 20 = .ok (.ireturn, 1) := by decide +kernel
theorem dX6_slips_21 : decode cX6_slips 21 = .ok (.iload_n 3, 1) := by decide +kernel
theorem dX6_slips_22 : decode cX6_slips 22 = .ok (.iconst 1, 1) := by decide +kernel
theorem dX6_slips_23 : decode cX6_slips 23 = .ok (.if_icmp .lt 9, 3) := by decide +kernel
theorem dX6_slips_26 : decode cX6_slips 26 = .ok (.iload_n 3, 1) := by decide +kernel
theorem dX6_slips_27 : decode cX6_slips 27 = .ok (.bipush 20, 2) := by decide +kernel
theorem dX6_slips_29 : decode cX6_slips 29 = .ok (.if_icmp .le 6, 3) := by decide +kernel
theorem dX6_slips_32 : decode cX6_slips 32 = .ok (.ldc 62, 2) := by decide +kernel
theorem dX6_slips_34 : decode cX6_slips 34 = .ok (.ireturn, 1) := by decide +kernel
theorem dX6_slips_35 : decode cX6_slips 35 = .ok (.iload_n 1, 1) := by decide +kernel
theorem dX6_slips_36 : decode cX6_slips 36 = .ok (.iconst 1, 1) := by decide +kernel
theorem dX6_slips_37 : decode cX6_slips 37 = .ok (.if_icmp .ne 13, 3) := by decide +kernel
theorem dX6_slips_40 : decode cX6_slips 40 = .ok (.aload_n 0, 1) := by decide +kernel
theorem dX6_slips_41 : decode cX6_slips 41 = .ok (.getfield 26, 3) := by decide +kernel
theorem dX6_slips_44 : decode cX6_slips 44 = .ok (.getfield 162, 3) := by decide +kernel
theorem dX6_slips_47 : decode cX6_slips 47 = .ok (.goto 14, 3) := by decide +kernel
theorem dX6_slips_50 : decode cX6_slips 50 = .ok (.aload_n 0, 1) := by decide +kernel
theorem dX6_slips_51 : decode cX6_slips 51 = .ok (.getfield 26, 3) := by decide +kernel
theorem dX6_slips_54 : decode cX6_slips 54 = .ok (.getfield 162, 3) := by decide +kernel
theorem dX6_slips_57 : decode cX6_slips 57 = .ok (.ldc2_w 216, 3) := by decide +kernel
theorem dX6_slips_60 : decode cX6_slips 60 = .ok (.lxor, 1) := by decide +kernel
theorem dX6_slips_61 : decode cX6_slips 61 = .ok (.lstore 5, 2) := by decide +kernel
theorem dX6_slips_63 : decode cX6_slips 63 = .ok (.aload_n 0, 1) := by decide +kernel
theorem dX6_slips_64 : decode cX6_slips 64 = .ok (.getfield 26, 3) := by decide +kernel
theorem dX6_slips_67 : decode cX6_slips 67 = .ok (.aload_n 0, 1) := by decide +kernel
theorem dX6_slips_68 : decode cX6_slips 68 = .ok (.getfield 19, 3) := by decide +kernel
theorem dX6_slips_71 : decode cX6_slips 71 = .ok (.iload_n 3, 1) := by decide +kernel
theorem dX6_slips_72 : decode cX6_slips 72 = .ok (.invokevirtual 225, 3) := by decide +kernel
theorem dX6_slips_75 : decode cX6_slips 75 = .ok (.aload_n 0, 1) := by decide +kernel
theorem dX6_slips_76 : decode cX6_slips 76 = .ok (.getfield 26, 3) := by decide +kernel
theorem dX6_slips_79 : decode cX6_slips 79 = .ok (.getfield 191, 3) := by decide +kernel
theorem dX6_slips_82 : decode cX6_slips 82 = .ok (.ldc2_w 216, 3) := by decide +kernel
theorem dX6_slips_85 : decode cX6_slips 85 = .ok (.lxor, 1) := by decide +kernel
theorem dX6_slips_86 : decode cX6_slips 86 = .ok (.land, 1) := by decide +kernel
theorem dX6_slips_87 : decode cX6_slips 87 = .ok (.lload 5, 2) := by decide +kernel
theorem dX6_slips_89 : decode cX6_slips 89 = .ok (.land, 1) := by decide +kernel
theorem dX6_slips_90 : decode cX6_slips 90 = .ok (.lstore 7, 2) := by decide +kernel
theorem dX6_slips_92 : decode cX6_slips 92 = .ok (.aload_n 0, 1) := by decide +kernel
theorem dX6_slips_93 : decode cX6_slips 93 = .ok (.iload_n 3, 1) := by decide +kernel
theorem dX6_slips_94 : decode cX6_slips 94 = .ok (.invokevirtual 229, 3) := by decide +kernel
theorem dX6_slips_97 : decode cX6_slips 97 = .ok (.lstore 9, 2) := by decide +kernel
theorem dX6_slips_99 : decode cX6_slips 99 = .ok (.aload_n 0, 1) := by decide +kernel
theorem dX6_slips_100 : decode cX6_slips 100 = .ok (.iload_n 2, 1) := by decide +kernel
theorem dX6_slips_101 : decode cX6_slips 101 = .ok (.lload 7, 2) := by decide +kernel
theorem dX6_slips_103 : decode cX6_slips 103 = .ok (.lload 9, 2) := by decide +kernel
theorem dX6_slips_105 : decode cX6_slips 105 = .ok (.invokevirtual 232, 3) := by decide +kernel
theorem dX6_slips_108 : decode cX6_slips 108 = .ok (.istore 11, 2) := by decide +kernel
theorem dX6_slips_110 : decode cX6_slips 110 = .ok (.iload 11, 2) := by decide +kernel
theorem dX6_slips_112 : decode cX6_slips 112 = .ok (.ifCond .ne 7, 3) := by decide +kernel
theorem dX6_slips_115 : decode cX6_slips 115 = .ok (.iconst (-1), 1) := by decide +kernel
theorem dX6_slips_116 : decode cX6_slips 116 = .ok (.goto 21, 3) := by decide +kernel
theorem dX6_slips_119 : decode cX6_slips 119 = .ok (.aload_n 0, 1) := by decide +kernel
theorem dX6_slips_120 : decode cX6_slips 120 = .ok (.aload_n 0, 1) := by decide +kernel
theorem dX6_slips_121 : decode cX6_slips 121 = .ok (.getfield 19, 3) := by decide +kernel
theorem dX6_slips_124 : decode cX6_slips 124 = .ok (.iload 11, 2) := by decide +kernel
theorem dX6_slips_126 : decode cX6_slips 126 = .ok (.invokevirtual 130, 3) := by decide +kernel
theorem dX6_slips_129 : decode cX6_slips 129 = .ok (.lload 9, 2) := by decide +kernel
theorem dX6_slips_131 : decode cX6_slips 131 = .ok (.land, 1) := by decide +kernel
theorem dX6_slips_132 : decode cX6_slips 132 = .ok (.iload 4, 2) := by decide +kernel
theorem dX6_slips_134 : decode cX6_slips 134 = .ok (.invokevirtual 236, 3) := by decide +kernel
theorem dX6_slips_137 : decode cX6_slips 137 = .ok (.ireturn, 1) := by decide +kernel
set_option maxRecDepth 20000 in
theorem ggX6_decides_X0_hasField : GoodIn wsX6_decides wsX0_hasField := goodIn_r _ [13, 14, 87, 88, 89, 90, 91, 92, 93, 94, 95, 96, 97, 98, 99] (by decide +kernel) (by decide +kernel)
set_option maxRecDepth 20000 in
theorem gX6_decides_X0_hasField : GoodIn wsX6_decides (wsV RX6 143 RX0 yX0_hasField wsX0_hasField) := goodIn_app (goodIn_of _ (by decide +kernel)) ggX6_decides_X0_hasField
set_option maxRecDepth 20000 in
theorem ggX6_decides_X5_tallHedges : GoodIn wsX6_decides wsX5_tallHedges := goodIn_r _ [19, 20, 21, 22, 23, 24, 25, 26, 12, 27, 28, 29, 30, 31, 32, 33, 34, 35, 36, 37, 38, 87, 88, 89, 90, 91, 92, 93, 94, 95, 96, 97, 98, 99, 81, 82, 83, 84, 85, 86] (by decide +kernel) (by decide +kernel)
set_option maxRecDepth 20000 in
theorem gX6_decides_X5_tallHedges : GoodIn wsX6_decides (wsV RX6 225 RX5 yX5_tallHedges wsX5_tallHedges) := goodIn_app (goodIn_of _ (by decide +kernel)) ggX6_decides_X5_tallHedges
set_option maxRecDepth 20000 in
theorem ggX6_decides_X0_landFrom : GoodIn wsX6_decides wsX0_landFrom := goodIn_r _ [42, 43, 44, 45, 12, 46, 47, 48, 49, 87, 88, 89, 90, 91, 92, 93, 94, 95, 96, 97, 98, 99] (by decide +kernel) (by decide +kernel)
set_option maxRecDepth 20000 in
theorem gX6_decides_X0_landFrom : GoodIn wsX6_decides (wsV RX6 158 RX0 yX0_landFrom wsX0_landFrom) := goodIn_app (goodIn_of _ (by decide +kernel)) ggX6_decides_X0_landFrom
set_option maxRecDepth 20000 in
theorem ggX6_decides_X0_shutInBy : GoodIn wsX6_decides wsX0_shutInBy := goodIn_r _ [53, 54, 55, 56, 57, 58, 12, 59, 47, 49, 48, 87, 88, 89, 90, 91, 92, 93, 94, 95, 96, 97, 98, 99] (by decide +kernel) (by decide +kernel)
set_option maxRecDepth 20000 in
theorem gX6_decides_X0_shutInBy : GoodIn wsX6_decides (wsV RX6 165 RX0 yX0_shutInBy wsX0_shutInBy) := goodIn_app (goodIn_of _ (by decide +kernel)) ggX6_decides_X0_shutInBy
set_option maxRecDepth 20000 in
theorem ggX6_decides_X6_countOrPick : GoodIn wsX6_decides wsX6_countOrPick := goodIn_r _ [64, 1, 6, 7, 65, 66, 67, 68, 69, 70, 71, 72, 73, 74, 75, 76, 77, 78, 79, 80, 87, 88, 89, 90, 91, 92, 93, 94, 95, 96, 97, 98, 99] (by decide +kernel) (by decide +kernel)
set_option maxRecDepth 20000 in
theorem gX6_decides_X6_countOrPick : GoodIn wsX6_decides (wsV RX6 236 RX6 yX6_countOrPick wsX6_countOrPick) := goodIn_app (goodIn_of _ (by decide +kernel)) ggX6_decides_X6_countOrPick
theorem dX6_decides_0 : decode cX6_decides 0 = .ok (.aload_n 0, 1) := by decide +kernel
theorem dX6_decides_1 : decode cX6_decides 1 = .ok (.getfield 19, 3) := by decide +kernel
theorem dX6_decides_4 : decode cX6_decides 4 = .ok (.iload_n 1, 1) := by decide +kernel
theorem dX6_decides_5 : decode cX6_decides 5 = .ok (.invokevirtual 143, 3) := by decide +kernel
theorem dX6_decides_8 : decode cX6_decides 8 = .ok (.ifCond .ne 6, 3) := by decide +kernel
theorem dX6_decides_11 : decode cX6_decides 11 = .ok (.ldc 147, 2) := by decide +kernel
theorem dX6_decides_13 : decode cX6_decides 13 = .ok (.ireturn, 1) := by decide +kernel
theorem dX6_decides_14 : decode cX6_decides 14 = .ok (.aload_n 0, 1) := by decide +kernel
theorem dX6_decides_15 : decode cX6_decides 15 = .ok (.getfield 26, 3) := by decide +kernel
theorem dX6_decides_18 : decode cX6_decides 18 = .ok (.aload_n 0, 1) := by decide +kernel
theorem dX6_decides_19 : decode cX6_decides 19 = .ok (.getfield 19, 3) := by decide +kernel
theorem dX6_decides_22 : decode cX6_decides 22 = .ok (.iconst 0, 1) := by decide +kernel
theorem dX6_decides_23 : decode cX6_decides 23 = .ok (.invokevirtual 225, 3) := by decide +kernel
theorem dX6_decides_26 : decode cX6_decides 26 = .ok (.lstore_n 3, 1) := by decide +kernel
theorem dX6_decides_27 : decode cX6_decides 27 = .ok (.lload_n 3, 1) := by decide +kernel
theorem dX6_decides_28 : decode cX6_decides 28 = .ok (.aload_n 0, 1) := by decide +kernel
theorem dX6_decides_29 : decode cX6_decides 29 = .ok (.getfield 26, 3) := by decide +kernel
theorem dX6_decides_32 : decode cX6_decides 32 = .ok (.getfield 191, 3) := by decide +kernel
theorem dX6_decides_35 : decode cX6_decides 35 = .ok (.ldc2_w 216, 3) := by decide +kernel
theorem dX6_decides_38 : decode cX6_decides 38 = .ok (.lxor, 1) := by decide +kernel
theorem dX6_decides_39 : decode cX6_decides 39 = .ok (.land, 1) := by decide +kernel
theorem dX6_decides_40 : decode cX6_decides 40 = .ok (.lstore 5, 2) := by decide +kernel
theorem dX6_decides_42 : decode cX6_decides 42 = .ok (.lload_n 3, 1) := by decide +kernel
theorem dX6_decides_43 : decode cX6_decides 43 = .ok (.aload_n 0, 1) := by decide +kernel
theorem dX6_decides_44 : decode cX6_decides 44 = .ok (.getfield 26, 3) := by decide +kernel
theorem dX6_decides_47 : decode cX6_decides 47 = .ok (.getfield 191, 3) := by decide +kernel
theorem dX6_decides_50 : decode cX6_decides 50 = .ok (.land, 1) := by decide +kernel
theorem dX6_decides_51 : decode cX6_decides 51 = .ok (.lstore 7, 2) := by decide +kernel
theorem dX6_decides_53 : decode cX6_decides 53 = .ok (.lconst 0, 1) := by decide +kernel
theorem dX6_decides_54 : decode cX6_decides 54 = .ok (.lstore 9, 2) := by decide +kernel
theorem dX6_decides_56 : decode cX6_decides 56 = .ok (.iconst 0, 1) := by decide +kernel
theorem dX6_decides_57 : decode cX6_decides 57 = .ok (.istore 11, 2) := by decide +kernel
theorem dX6_decides_59 : decode cX6_decides 59 = .ok (.iload 11, 2) := by decide +kernel
theorem dX6_decides_61 : decode cX6_decides 61 = .ok (.aload_n 0, 1) := by decide +kernel
theorem dX6_decides_62 : decode cX6_decides 62 = .ok (.getfield 19, 3) := by decide +kernel
theorem dX6_decides_65 : decode cX6_decides 65 = .ok (.getfield 106, 3) := by decide +kernel
theorem dX6_decides_68 : decode cX6_decides 68 = .ok (.if_icmp .ge 71, 3) := by decide +kernel
theorem dX6_decides_71 : decode cX6_decides 71 = .ok (.aload_n 0, 1) := by decide +kernel
theorem dX6_decides_72 : decode cX6_decides 72 = .ok (.getfield 19, 3) := by decide +kernel
theorem dX6_decides_75 : decode cX6_decides 75 = .ok (.getfield 171, 3) := by decide +kernel
theorem dX6_decides_78 : decode cX6_decides 78 = .ok (.iload 11, 2) := by decide +kernel
theorem dX6_decides_80 : decode cX6_decides 80 = .ok (.laload, 1) := by decide +kernel
theorem dX6_decides_81 : decode cX6_decides 81 = .ok (.lstore 12, 2) := by decide +kernel
theorem dX6_decides_83 : decode cX6_decides 83 = .ok (.lload 7, 2) := by decide +kernel
theorem dX6_decides_85 : decode cX6_decides 85 = .ok (.lload 12, 2) := by decide +kernel
theorem dX6_decides_87 : decode cX6_decides 87 = .ok (.land, 1) := by decide +kernel
theorem dX6_decides_88 : decode cX6_decides 88 = .ok (.lconst 0, 1) := by decide +kernel
theorem dX6_decides_89 : decode cX6_decides 89 = .ok (.lcmp, 1) := by decide +kernel
theorem dX6_decides_90 : decode cX6_decides 90 = .ok (.ifCond .eq 43, 3) := by decide +kernel
theorem dX6_decides_93 : decode cX6_decides 93 = .ok (.aload_n 0, 1) := by decide +kernel
theorem dX6_decides_94 : decode cX6_decides 94 = .ok (.getfield 19, 3) := by decide +kernel
theorem dX6_decides_97 : decode cX6_decides 97 = .ok (.aload_n 0, 1) := by decide +kernel
theorem dX6_decides_98 : decode cX6_decides 98 = .ok (.getfield 19, 3) := by decide +kernel
theorem dX6_decides_101 : decode cX6_decides 101 = .ok (.iconst 1, 1) := by decide +kernel
theorem dX6_decides_102 : decode cX6_decides 102 = .ok (.iload_n 1, 1) := by decide +kernel
theorem dX6_decides_103 : decode cX6_decides 103 = .ok (.ishl, 1) := by decide +kernel
theorem dX6_decides_104 : decode cX6_decides 104 = .ok (.lload 5, 2) := by decide +kernel
theorem dX6_decides_106 : decode cX6_decides 106 = .ok (.lload 12, 2) := by decide +kernel
theorem dX6_decides_108 : decode cX6_decides 108 = .ok (.lor, 1) := by decide +kernel
theorem dX6_decides_109 : decode cX6_decides 109 = .ok (.invokevirtual 158, 3) := by decide +kernel
theorem dX6_decides_112 : decode cX6_decides 112 = .ok (.aload_n 0, 1) := by decide +kernel
theorem dX6_decides_113 : decode cX6_decides 113 = .ok (.getfield 26, 3) := by decide +kernel
theorem dX6_decides_116 : decode cX6_decides 116 = .ok (.getfield 162, 3) := by decide +kernel
theorem dX6_decides_119 : decode cX6_decides 119 = .ok (.invokevirtual 165, 3) := by decide +kernel
theorem dX6_decides_122 : decode cX6_decides 122 = .ok (.iconst (-1), 1) := by decide +kernel
theorem dX6_decides_123 : decode cX6_decides 123 = .ok (.if_icmp .eq 10, 3) := by decide +kernel
theorem dX6_decides_126 : decode cX6_decides 126 = .ok (.lload 9, 2) := by decide +kernel
theorem dX6_decides_128 : decode cX6_decides 128 = .ok (.lload 12, 2) := by decide +kernel
theorem dX6_decides_130 : decode cX6_decides 130 = .ok (.lor, 1) := by decide +kernel
theorem dX6_decides_131 : decode cX6_decides 131 = .ok (.lstore 9, 2) := by decide +kernel
theorem dX6_decides_133 : decode cX6_decides 133 = .ok (.iinc 11 1, 3) := by decide +kernel
theorem dX6_decides_136 : decode cX6_decides 136 = .ok (.goto (-77), 3) := by decide +kernel
theorem dX6_decides_139 : decode cX6_decides 139 = .ok (.aload_n 0, 1) := by decide +kernel
theorem dX6_decides_140 : decode cX6_decides 140 = .ok (.lload 9, 2) := by decide +kernel
theorem dX6_decides_142 : decode cX6_decides 142 = .ok (.iload_n 2, 1) := by decide +kernel
theorem dX6_decides_143 : decode cX6_decides 143 = .ok (.invokevirtual 236, 3) := by decide +kernel
theorem dX6_decides_146 : decode cX6_decides 146 = .ok (.ireturn, 1) := by decide +kernel
set_option maxRecDepth 20000 in
theorem ggX6_tallIn_X0_hasEdge : GoodIn wsX6_tallIn wsX0_hasEdge := goodIn_r _ [16, 17, 38, 39, 40, 41, 42, 43, 44, 45, 46, 47, 48, 49, 50] (by decide +kernel) (by decide +kernel)
set_option maxRecDepth 20000 in
theorem gX6_tallIn_X0_hasEdge : GoodIn wsX6_tallIn (wsV RX6 168 RX0 yX0_hasEdge wsX0_hasEdge) := goodIn_app (goodIn_of _ (by decide +kernel)) ggX6_tallIn_X0_hasEdge
set_option maxRecDepth 20000 in
theorem ggX6_tallIn_X0_ageWhenTall : GoodIn wsX6_tallIn wsX0_ageWhenTall := goodIn_r _ [21, 22, 23, 24, 15, 25, 26, 27, 28, 38, 39, 40, 41, 42, 43, 44, 45, 46, 47, 48, 49, 50] (by decide +kernel) (by decide +kernel)
set_option maxRecDepth 20000 in
theorem gX6_tallIn_X0_ageWhenTall : GoodIn wsX6_tallIn (wsV RX6 240 RX0 yX0_ageWhenTall wsX0_ageWhenTall) := goodIn_app (goodIn_of _ (by decide +kernel)) ggX6_tallIn_X0_ageWhenTall
theorem dX6_tallIn_0 : decode cX6_tallIn 0 = .ok (.aload_n 0, 1) := by decide +kernel
theorem dX6_tallIn_1 : decode cX6_tallIn 1 = .ok (.getfield 19, 3) := by decide +kernel
theorem dX6_tallIn_4 : decode cX6_tallIn 4 = .ok (.iload_n 1, 1) := by decide +kernel
theorem dX6_tallIn_5 : decode cX6_tallIn 5 = .ok (.invokevirtual 168, 3) := by decide +kernel
theorem dX6_tallIn_8 : decode cX6_tallIn 8 = .ok (.ifCond .ne 6, 3) := by decide +kernel
theorem dX6_tallIn_11 : decode cX6_tallIn 11 = .ok (.ldc 147, 2) := by decide +kernel
theorem dX6_tallIn_13 : decode cX6_tallIn 13 = .ok (.ireturn, 1) := by decide +kernel
theorem dX6_tallIn_14 : decode cX6_tallIn 14 = .ok (.aload_n 0, 1) := by decide +kernel
theorem dX6_tallIn_15 : decode cX6_tallIn 15 = .ok (.getfield 19, 3) := by decide +kernel
theorem dX6_tallIn_18 : decode cX6_tallIn 18 = .ok (.getfield 171, 3) := by decide +kernel
theorem dX6_tallIn_21 : decode cX6_tallIn 21 = .ok (.iload_n 1, 1) := by decide +kernel
theorem dX6_tallIn_22 : decode cX6_tallIn 22 = .ok (.laload, 1) := by decide +kernel
theorem dX6_tallIn_23 : decode cX6_tallIn 23 = .ok (.lstore_n 2, 1) := by decide +kernel
theorem dX6_tallIn_24 : decode cX6_tallIn 24 = .ok (.aload_n 0, 1) := by decide +kernel
theorem dX6_tallIn_25 : decode cX6_tallIn 25 = .ok (.getfield 19, 3) := by decide +kernel
theorem dX6_tallIn_28 : decode cX6_tallIn 28 = .ok (.getfield 194, 3) := by decide +kernel
theorem dX6_tallIn_31 : decode cX6_tallIn 31 = .ok (.lload_n 2, 1) := by decide +kernel
theorem dX6_tallIn_32 : decode cX6_tallIn 32 = .ok (.land, 1) := by decide +kernel
theorem dX6_tallIn_33 : decode cX6_tallIn 33 = .ok (.lconst 0, 1) := by decide +kernel
theorem dX6_tallIn_34 : decode cX6_tallIn 34 = .ok (.lcmp, 1) := by decide +kernel
theorem dX6_tallIn_35 : decode cX6_tallIn 35 = .ok (.ifCond .eq 5, 3) := by decide +kernel
theorem dX6_tallIn_38 : decode cX6_tallIn 38 = .ok (.iconst (-1), 1) := by decide +kernel
theorem dX6_tallIn_39 : decode cX6_tallIn 39 = .ok (.ireturn, 1) := by decide +kernel
theorem dX6_tallIn_40 : decode cX6_tallIn 40 = .ok (.aload_n 0, 1) := by decide +kernel
theorem dX6_tallIn_41 : decode cX6_tallIn 41 = .ok (.getfield 26, 3) := by decide +kernel
theorem dX6_tallIn_44 : decode cX6_tallIn 44 = .ok (.getfield 112, 3) := by decide +kernel
theorem dX6_tallIn_47 : decode cX6_tallIn 47 = .ok (.lload_n 2, 1) := by decide +kernel
theorem dX6_tallIn_48 : decode cX6_tallIn 48 = .ok (.land, 1) := by decide +kernel
theorem dX6_tallIn_49 : decode cX6_tallIn 49 = .ok (.lconst 0, 1) := by decide +kernel
theorem dX6_tallIn_50 : decode cX6_tallIn 50 = .ok (.lcmp, 1) := by decide +kernel
theorem dX6_tallIn_51 : decode cX6_tallIn 51 = .ok (.ifCond .eq 15, 3) := by decide +kernel
theorem dX6_tallIn_54 : decode cX6_tallIn 54 = .ok (.aload_n 0, 1) := by decide +kernel
theorem dX6_tallIn_55 : decode cX6_tallIn 55 = .ok (.getfield 26, 3) := by decide +kernel
theorem dX6_tallIn_58 : decode cX6_tallIn 58 = .ok (.getfield 184, 3) := by decide +kernel
theorem dX6_tallIn_61 : decode cX6_tallIn 61 = .ok (.iload_n 1, 1) := by decide +kernel
theorem dX6_tallIn_62 : decode cX6_tallIn 62 = .ok (.iaload, 1) := by decide +kernel
theorem dX6_tallIn_63 : decode cX6_tallIn 63 = .ok (.goto 4, 3) := by decide +kernel
theorem dX6_tallIn_66 : decode cX6_tallIn 66 = .ok (.iconst 0, 1) := by decide +kernel
theorem dX6_tallIn_67 : decode cX6_tallIn 67 = .ok (.istore 4, 2) := by decide +kernel
theorem dX6_tallIn_69 : decode cX6_tallIn 69 = .ok (.iconst 0, 1) := by decide +kernel
theorem dX6_tallIn_70 : decode cX6_tallIn 70 = .ok (.aload_n 0, 1) := by decide +kernel
theorem dX6_tallIn_71 : decode cX6_tallIn 71 = .ok (.getfield 19, 3) := by decide +kernel
theorem dX6_tallIn_74 : decode cX6_tallIn 74 = .ok (.iload_n 1, 1) := by decide +kernel
theorem dX6_tallIn_75 : decode cX6_tallIn 75 = .ok (.invokevirtual 240, 3) := by decide +kernel
theorem dX6_tallIn_78 : decode cX6_tallIn 78 = .ok (.iload 4, 2) := by decide +kernel
theorem dX6_tallIn_80 : decode cX6_tallIn 80 = .ok (.isub, 1) := by decide +kernel
theorem dX6_tallIn_81 : decode cX6_tallIn 81 = .ok (.invokestatic 243, 3) := by decide +kernel
theorem dX6_tallIn_84 : decode cX6_tallIn 84 = .ok (.ireturn, 1) := by decide +kernel
set_option maxRecDepth 20000 in
theorem ggX6_walk_X0_hasField : GoodIn wsX6_walk wsX0_hasField := goodIn_r _ [8, 9, 56, 57, 58, 59, 60, 61, 62, 63, 64, 65, 66, 67, 68] (by decide +kernel) (by decide +kernel)
set_option maxRecDepth 20000 in
theorem gX6_walk_X0_hasField : GoodIn wsX6_walk (wsV RX6 143 RX0 yX0_hasField wsX0_hasField) := goodIn_app (goodIn_of _ (by decide +kernel)) ggX6_walk_X0_hasField
set_option maxRecDepth 20000 in
theorem ggX6_walk_X5_shutEdges : GoodIn wsX6_walk wsX5_shutEdges := goodIn_r _ [14, 15, 16, 17, 18, 19, 13, 20, 21, 22, 23, 24, 25, 26, 27, 7, 28, 29, 30, 31, 32, 33, 34, 35, 36, 37, 38, 39, 69, 70, 71, 72, 73, 74, 56, 57, 58, 59, 60, 61, 62, 63, 64, 65, 66, 67, 68] (by decide +kernel) (by decide +kernel)
set_option maxRecDepth 20000 in
theorem gX6_walk_X5_shutEdges : GoodIn wsX6_walk (wsV RX6 154 RX5 yX5_shutEdges wsX5_shutEdges) := goodIn_app (goodIn_of _ (by decide +kernel)) ggX6_walk_X5_shutEdges
set_option maxRecDepth 20000 in
theorem ggX6_walk_X0_oneStepFrom : GoodIn wsX6_walk wsX0_oneStepFrom := goodIn_r _ [43, 44, 45, 46, 56, 57, 58, 59, 60, 61, 62, 63, 64, 65, 66, 67, 68] (by decide +kernel) (by decide +kernel)
set_option maxRecDepth 20000 in
theorem gX6_walk_X0_oneStepFrom : GoodIn wsX6_walk (wsV RX6 248 RX0 yX0_oneStepFrom wsX0_oneStepFrom) := goodIn_app (goodIn_of _ (by decide +kernel)) ggX6_walk_X0_oneStepFrom
theorem dX6_walk_0 : decode cX6_walk 0 = .ok (.aload_n 0, 1) := by decide +kernel
theorem dX6_walk_1 : decode cX6_walk 1 = .ok (.getfield 19, 3) := by decide +kernel
theorem dX6_walk_4 : decode cX6_walk 4 = .ok (.iload_n 1, 1) := by decide +kernel
theorem dX6_walk_5 : decode cX6_walk 5 = .ok (.invokevirtual 143, 3) := by decide +kernel
theorem dX6_walk_8 : decode cX6_walk 8 = .ok (.ifCond .eq 14, 3) := by decide +kernel
theorem dX6_walk_11 : decode cX6_walk 11 = .ok (.aload_n 0, 1) := by decide +kernel
theorem dX6_walk_12 : decode cX6_walk 12 = .ok (.getfield 19, 3) := by decide +kernel
theorem dX6_walk_15 : decode cX6_walk 15 = .ok (.iload_n 2, 1) := by decide +kernel
theorem dX6_walk_16 : decode cX6_walk 16 = .ok (.invokevirtual 143, 3) := by decide +kernel
theorem dX6_walk_19 : decode cX6_walk 19 = .ok (.ifCond .ne 6, 3) := by decide +kernel
theorem dX6_walk_22 : decode cX6_walk 22 = .ok (.ldc 147, 2) := by decide +kernel
theorem dX6_walk_24 : decode cX6_walk 24 = .ok (.ireturn, 1) := by decide +kernel
theorem dX6_walk_25 : decode cX6_walk 25 = .ok (.aload_n 0, 1) := by decide +kernel
theorem dX6_walk_26 : decode cX6_walk 26 = .ok (.getfield 26, 3) := by decide +kernel
theorem dX6_walk_29 : decode cX6_walk 29 = .ok (.aload_n 0, 1) := by decide +kernel
theorem dX6_walk_30 : decode cX6_walk 30 = .ok (.getfield 19, 3) := by decide +kernel
theorem dX6_walk_33 : decode cX6_walk 33 = .ok (.invokevirtual 154, 3) := by decide +kernel
theorem dX6_walk_36 : decode cX6_walk 36 = .ok (.lstore_n 3, 1) := by decide +kernel
theorem dX6_walk_37 : decode cX6_walk 37 = .ok (.iconst 1, 1) := by decide +kernel
theorem dX6_walk_38 : decode cX6_walk 38 = .ok (.iload_n 2, 1) := by decide +kernel
theorem dX6_walk_39 : decode cX6_walk 39 = .ok (.ishl, 1) := by decide +kernel
theorem dX6_walk_40 : decode cX6_walk 40 = .ok (.istore 5, 2) := by decide +kernel
theorem dX6_walk_42 : decode cX6_walk 42 = .ok (.iconst 1, 1) := by decide +kernel
theorem dX6_walk_43 : decode cX6_walk 43 = .ok (.iload_n 1, 1) := by decide +kernel
theorem dX6_walk_44 : decode cX6_walk 44 = .ok (.ishl, 1) := by decide +kernel
theorem dX6_walk_45 : decode cX6_walk 45 = .ok (.istore 6, 2) := by decide +kernel
theorem dX6_walk_47 : decode cX6_walk 47 = .ok (.iconst 0, 1) := by decide +kernel
theorem dX6_walk_48 : decode cX6_walk 48 = .ok (.istore 7, 2) := by decide +kernel
theorem dX6_walk_50 : decode cX6_walk 50 = .ok (.iload 7, 2) := by decide +kernel
theorem dX6_walk_52 : decode cX6_walk 52 = .ok (.bipush 25, 2) := by decide +kernel
theorem dX6_walk_54 : decode cX6_walk 54 = .ok (.if_icmp .ge 32, 3) := by decide +kernel
theorem dX6_walk_57 : decode cX6_walk 57 = .ok (.iload 6, 2) := by decide +kernel
theorem dX6_walk_59 : decode cX6_walk 59 = .ok (.iload 5, 2) := by decide +kernel
theorem dX6_walk_61 : decode cX6_walk 61 = .ok (.iand, 1) := by decide +kernel
theorem dX6_walk_62 : decode cX6_walk 62 = .ok (.ifCond .eq 6, 3) := by decide +kernel
theorem dX6_walk_65 : decode cX6_walk 65 = .ok (.iload 7, 2) := by decide +kernel
theorem dX6_walk_67 : decode cX6_walk 67 = .ok (.ireturn, 1) := by decide +kernel
theorem dX6_walk_68 : decode cX6_walk 68 = .ok (.aload_n 0, 1) := by decide +kernel
theorem dX6_walk_69 : decode cX6_walk 69 = .ok (.getfield 19, 3) := by decide +kernel
theorem dX6_walk_72 : decode cX6_walk 72 = .ok (.iload 6, 2) := by decide +kernel
theorem dX6_walk_74 : decode cX6_walk 74 = .ok (.lload_n 3, 1) := by decide +kernel
theorem dX6_walk_75 : decode cX6_walk 75 = .ok (.invokevirtual 248, 3) := by decide +kernel
theorem dX6_walk_78 : decode cX6_walk 78 = .ok (.istore 6, 2) := by decide +kernel
theorem dX6_walk_80 : decode cX6_walk 80 = .ok (.iinc 7 1, 3) := by decide +kernel
theorem dX6_walk_83 : decode cX6_walk 83 = .ok (.goto (-33), 3) := by decide +kernel
theorem dX6_walk_86 : decode cX6_walk 86 = .ok (.iconst (-1), 1) := by decide +kernel
theorem dX6_walk_87 : decode cX6_walk 87 = .ok (.ireturn, 1) := by decide +kernel
set_option maxRecDepth 20000 in
theorem ggX6_turns_X6_isEstate : GoodIn wsX6_turns wsX6_isEstate := goodIn_r _ [19] (by decide +kernel) (by decide +kernel)
set_option maxRecDepth 20000 in
theorem gX6_turns_X6_isEstate : GoodIn wsX6_turns (va_wsS RX6 197 yX6_isEstate wsX6_isEstate) := goodIn_app (goodIn_of _ (by decide +kernel)) ggX6_turns_X6_isEstate
set_option maxRecDepth 20000 in
theorem ggX6_turns_X5_tallHedges : GoodIn wsX6_turns wsX5_tallHedges := goodIn_r _ [24, 25, 26, 27, 28, 29, 30, 31, 32, 33, 34, 35, 14, 36, 37, 38, 39, 40, 41, 42, 43, 111, 112, 113, 114, 115, 116, 117, 118, 119, 120, 121, 122, 123, 124, 125, 126, 127, 128, 129] (by decide +kernel) (by decide +kernel)
set_option maxRecDepth 20000 in
theorem gX6_turns_X5_tallHedges : GoodIn wsX6_turns (wsV RX6 225 RX5 yX5_tallHedges wsX5_tallHedges) := goodIn_app (goodIn_of _ (by decide +kernel)) ggX6_turns_X5_tallHedges
set_option maxRecDepth 20000 in
theorem ggX6_turns_X6_slipsTallIn : GoodIn wsX6_turns wsX6_slipsTallIn := goodIn_r _ [47, 3, 10, 11, 48, 49, 50, 18, 51, 7, 52, 53, 54, 55, 56, 32, 57, 37, 38, 39, 40, 41, 42, 43, 102, 103, 104, 105, 106, 107, 108, 109, 110, 111, 112, 113, 114, 115, 116, 117, 118, 119, 120, 121, 122, 123, 124, 125, 126, 127, 128, 129] (by decide +kernel) (by decide +kernel)
set_option maxRecDepth 20000 in
theorem gX6_turns_X6_slipsTallIn : GoodIn wsX6_turns (wsV RX6 229 RX6 yX6_slipsTallIn wsX6_slipsTallIn) := goodIn_app (goodIn_of _ (by decide +kernel)) ggX6_turns_X6_slipsTallIn
set_option maxRecDepth 20000 in
theorem ggX6_turns_X6_acresAfterAnswer : GoodIn wsX6_turns wsX6_acresAfterAnswer := goodIn_r _ [61, 3, 10, 11, 62, 35, 14, 36, 63, 64, 65, 18, 66, 7, 67, 68, 6, 4, 54, 55, 56, 32, 57, 37, 38, 39, 40, 41, 42, 43, 69, 70, 71, 72, 73, 74, 75, 76, 77, 78, 79, 80, 81, 82, 83, 84, 85, 86, 87, 88, 89, 90, 91, 92, 93, 94, 95, 96, 97, 98, 99, 100, 101, 102, 103, 104, 105, 106, 107, 108, 109, 110, 111, 112, 113, 114, 115, 116, 117, 118, 119, 120, 121, 122, 123, 124, 125, 126, 127, 128, 129] (by decide +kernel) (by decide +kernel)
set_option maxRecDepth 20000 in
theorem gX6_turns_X6_acresAfterAnswer : GoodIn wsX6_turns (wsV RX6 251 RX6 yX6_acresAfterAnswer wsX6_acresAfterAnswer) := goodIn_app (goodIn_of _ (by decide +kernel)) ggX6_turns_X6_acresAfterAnswer
theorem dX6_turns_0 : decode cX6_turns 0 = .ok (.iload_n 1, 1) := by decide +kernel
theorem dX6_turns_1 : decode cX6_turns 1 = .ok (.invokestatic 197, 3) := by decide +kernel
theorem dX6_turns_4 : decode cX6_turns 4 = .ok (.ifCond .ne 6, 3) := by decide +kernel
theorem dX6_turns_7 : decode cX6_turns 7 = .ok (.ldc 147, 2) := by decide +kernel
theorem dX6_turns_9 : decode cX6_turns 9 = .ok (.ireturn, 1) := by decide +kernel
theorem dX6_turns_10 : decode cX6_turns 10 = .ok (.iload_n 2, 1) := by decide +kernel
theorem dX6_turns_11 : decode cX6_turns 11 = .ok (.iconst 1, 1) := by decide +kernel
theorem dX6_turns_12 : decode cX6_turns 12 = .ok (.if_icmp .lt 9, 3) := by decide +kernel
theorem dX6_turns_15 : decode cX6_turns 15 = .ok (.iload_n 2, 1) := by decide +kernel
theorem dX6_turns_16 : decode cX6_turns 16 = .ok (.bipush 6, 2) := by decide +kernel
theorem dX6_turns_18 : decode cX6_turns 18 = .ok (.if_icmp .le 6, 3) := by decide +kernel
theorem dX6_turns_21 : decode cX6_turns 21 = .ok (.ldc 62, 2) := by decide +kernel
theorem dX6_turns_23 : decode cX6_turns 23 = .ok (.ireturn, 1) := by decide +kernel
theorem dX6_turns_24 : decode cX6_turns 24 = .ok (.aload_n 0, 1) := by decide +kernel
theorem dX6_turns_25 : decode cX6_turns 25 = .ok (.getfield 19, 3) := by decide +kernel
theorem dX6_turns_28 : decode cX6_turns 28 = .ok (.getfield 97, 3) := by decide +kernel
theorem dX6_turns_31 : decode cX6_turns 31 = .ok (.ifCond .ne 6, 3) := by decide +kernel
theorem dX6_turns_34 : decode cX6_turns 34 = .ok (.ldc 204, 2) := by decide +kernel
theorem dX6_turns_36 : decode cX6_turns 36 = .ok (.ireturn, 1) := by decide +kernel
theorem dX6_turns_37 : decode cX6_turns 37 = .ok (.iconst 1, 1) := by decide +kernel
theorem dX6_turns_38 : decode cX6_turns 38 = .ok (.istore_n 3, 1) := by decide +kernel
theorem dX6_turns_39 : decode cX6_turns 39 = .ok (.iload_n 3, 1) := by decide +kernel
theorem dX6_turns_40 : decode cX6_turns 40 = .ok (.iload_n 2, 1) := by decide +kernel
theorem dX6_turns_41 : decode cX6_turns 41 = .ok (.if_icmp .gt 39, 3) := by decide +kernel
theorem dX6_turns_44 : decode cX6_turns 44 = .ok (.aload_n 0, 1) := by decide +kernel
theorem dX6_turns_45 : decode cX6_turns 45 = .ok (.getfield 50, 3) := by decide +kernel
theorem dX6_turns_48 : decode cX6_turns 48 = .ok (.iload_n 3, 1) := by decide +kernel
theorem dX6_turns_49 : decode cX6_turns 49 = .ok (.aload_n 0, 1) := by decide +kernel
theorem dX6_turns_50 : decode cX6_turns 50 = .ok (.getfield 26, 3) := by decide +kernel
theorem dX6_turns_53 : decode cX6_turns 53 = .ok (.aload_n 0, 1) := by decide +kernel
theorem dX6_turns_54 : decode cX6_turns 54 = .ok (.getfield 19, 3) := by decide +kernel
theorem dX6_turns_57 : decode cX6_turns 57 = .ok (.iload_n 3, 1) := by decide +kernel
theorem dX6_turns_58 : decode cX6_turns 58 = .ok (.invokevirtual 225, 3) := by decide +kernel
theorem dX6_turns_61 : decode cX6_turns 61 = .ok (.aload_n 0, 1) := by decide +kernel
theorem dX6_turns_62 : decode cX6_turns 62 = .ok (.getfield 26, 3) := by decide +kernel
theorem dX6_turns_65 : decode cX6_turns 65 = .ok (.getfield 191, 3) := by decide +kernel
theorem dX6_turns_68 : decode cX6_turns 68 = .ok (.ldc2_w 216, 3) := by decide +kernel
theorem dX6_turns_71 : decode cX6_turns 71 = .ok (.lxor, 1) := by decide +kernel
theorem dX6_turns_72 : decode cX6_turns 72 = .ok (.land, 1) := by decide +kernel
theorem dX6_turns_73 : decode cX6_turns 73 = .ok (.lastore, 1) := by decide +kernel
theorem dX6_turns_74 : decode cX6_turns 74 = .ok (.iinc 3 1, 3) := by decide +kernel
theorem dX6_turns_77 : decode cX6_turns 77 = .ok (.goto (-38), 3) := by decide +kernel
theorem dX6_turns_80 : decode cX6_turns 80 = .ok (.aload_n 0, 1) := by decide +kernel
theorem dX6_turns_81 : decode cX6_turns 81 = .ok (.iload_n 2, 1) := by decide +kernel
theorem dX6_turns_82 : decode cX6_turns 82 = .ok (.invokevirtual 229, 3) := by decide +kernel
theorem dX6_turns_85 : decode cX6_turns 85 = .ok (.lstore_n 3, 1) := by decide +kernel
theorem dX6_turns_86 : decode cX6_turns 86 = .ok (.aload_n 0, 1) := by decide +kernel
theorem dX6_turns_87 : decode cX6_turns 87 = .ok (.iload_n 1, 1) := by decide +kernel
theorem dX6_turns_88 : decode cX6_turns 88 = .ok (.iload_n 2, 1) := by decide +kernel
theorem dX6_turns_89 : decode cX6_turns 89 = .ok (.iconst (-1), 1) := by decide +kernel
theorem dX6_turns_90 : decode cX6_turns 90 = .ok (.lload_n 3, 1) := by decide +kernel
theorem dX6_turns_91 : decode cX6_turns 91 = .ok (.invokevirtual 251, 3) := by decide +kernel
theorem dX6_turns_94 : decode cX6_turns 94 = .ok (.istore 5, 2) := by decide +kernel
theorem dX6_turns_96 : decode cX6_turns 96 = .ok (.iconst 0, 1) := by decide +kernel
theorem dX6_turns_97 : decode cX6_turns 97 = .ok (.istore 6, 2) := by decide +kernel
theorem dX6_turns_99 : decode cX6_turns 99 = .ok (.iload 6, 2) := by decide +kernel
theorem dX6_turns_101 : decode cX6_turns 101 = .ok (.aload_n 0, 1) := by decide +kernel
theorem dX6_turns_102 : decode cX6_turns 102 = .ok (.getfield 19, 3) := by decide +kernel
theorem dX6_turns_105 : decode cX6_turns 105 = .ok (.getfield 106, 3) := by decide +kernel
theorem dX6_turns_108 : decode cX6_turns 108 = .ok (.if_icmp .ge 57, 3) := by decide +kernel
theorem dX6_turns_111 : decode cX6_turns 111 = .ok (.lload_n 3, 1) := by decide +kernel
theorem dX6_turns_112 : decode cX6_turns 112 = .ok (.aload_n 0, 1) := by decide +kernel
theorem dX6_turns_113 : decode cX6_turns 113 = .ok (.getfield 19, 3) := by decide +kernel
theorem dX6_turns_116 : decode cX6_turns 116 = .ok (.getfield 171, 3) := by decide +kernel
theorem dX6_turns_119 : decode cX6_turns 119 = .ok (.iload 6, 2) := by decide +kernel
theorem dX6_turns_121 : decode cX6_turns 121 = .ok (.laload, 1) := by decide +kernel
theorem dX6_turns_122 : decode cX6_turns 122 = .ok (.land, 1) := by decide +kernel
theorem dX6_turns_123 : decode cX6_turns 123 = .ok (.lconst 0, 1) := by decide +kernel
theorem dX6_turns_124 : decode cX6_turns 124 = .ok (.lcmp, 1) := by decide +kernel
theorem dX6_turns_125 : decode cX6_turns 125 = .ok (.ifCond .eq 34, 3) := by decide +kernel
theorem dX6_turns_128 : decode cX6_turns 128 = .ok (.iload 5, 2) := by decide +kernel
theorem dX6_turns_130 : decode cX6_turns 130 = .ok (.aload_n 0, 1) := by decide +kernel
theorem dX6_turns_131 : decode cX6_turns 131 = .ok (.iload_n 1, 1) := by decide +kernel
theorem dX6_turns_132 : decode cX6_turns 132 = .ok (.iload_n 2, 1) := by decide +kernel
theorem dX6_turns_133 : decode cX6_turns 133 = .ok (.iload 6, 2) := by decide +kernel
theorem dX6_turns_135 : decode cX6_turns 135 = .ok (.lload_n 3, 1) := by decide +kernel
theorem dX6_turns_136 : decode cX6_turns 136 = .ok (.aload_n 0, 1) := by decide +kernel
theorem dX6_turns_137 : decode cX6_turns 137 = .ok (.getfield 19, 3) := by decide +kernel
theorem dX6_turns_140 : decode cX6_turns 140 = .ok (.getfield 171, 3) := by decide +kernel
theorem dX6_turns_143 : decode cX6_turns 143 = .ok (.iload 6, 2) := by decide +kernel
theorem dX6_turns_145 : decode cX6_turns 145 = .ok (.laload, 1) := by decide +kernel
theorem dX6_turns_146 : decode cX6_turns 146 = .ok (.ldc2_w 216, 3) := by decide +kernel
theorem dX6_turns_149 : decode cX6_turns 149 = .ok (.lxor, 1) := by decide +kernel
theorem dX6_turns_150 : decode cX6_turns 150 = .ok (.land, 1) := by decide +kernel
theorem dX6_turns_151 : decode cX6_turns 151 = .ok (.invokevirtual 251, 3) := by decide +kernel
theorem dX6_turns_154 : decode cX6_turns 154 = .ok (.invokestatic 243, 3) := by decide +kernel
theorem dX6_turns_157 : decode cX6_turns 157 = .ok (.istore 5, 2) := by decide +kernel
theorem dX6_turns_159 : decode cX6_turns 159 = .ok (.iinc 6 1, 3) := by decide +kernel
theorem dX6_turns_162 : decode cX6_turns 162 = .ok (.goto (-63), 3) := by decide +kernel
theorem dX6_turns_165 : decode cX6_turns 165 = .ok (.iload 5, 2) := by decide +kernel
theorem dX6_turns_167 : decode cX6_turns 167 = .ok (.ireturn, 1) := by decide +kernel
theorem dX6_birds_0 : decode cX6_birds 0 = .ok (.iload_n 1, 1) := by decide +kernel
theorem dX6_birds_1 : decode cX6_birds 1 = .ok (.ifCond .lt 19, 3) := by decide +kernel
theorem dX6_birds_4 : decode cX6_birds 4 = .ok (.iload_n 1, 1) := by decide +kernel
theorem dX6_birds_5 : decode cX6_birds 5 = .ok (.bipush 60, 2) := by decide +kernel
theorem dX6_birds_7 : decode cX6_birds 7 = .ok (.if_icmp .gt 13, 3) := by decide +kernel
theorem dX6_birds_10 : decode cX6_birds 10 = .ok (.iload_n 2, 1) := by decide +kernel
theorem dX6_birds_11 : decode cX6_birds 11 = .ok (.ifCond .lt 9, 3) := by decide +kernel
theorem dX6_birds_14 : decode cX6_birds 14 = .ok (.iload_n 2, 1) := by decide +kernel
theorem dX6_birds_15 : decode cX6_birds 15 = .ok (.bipush 100, 2) := by decide +kernel
theorem dX6_birds_17 : decode cX6_birds 17 = .ok (.if_icmp .le 6, 3) := by decide +kernel
theorem dX6_birds_20 : decode cX6_birds 20 = .ok (.ldc 62, 2) := by decide +kernel
theorem dX6_birds_22 : decode cX6_birds 22 = .ok (.ireturn, 1) := by decide +kernel
theorem dX6_birds_23 : decode cX6_birds 23 = .ok (.ldc2_w 255, 3) := by decide +kernel
theorem dX6_birds_26 : decode cX6_birds 26 = .ok (.lstore_n 3, 1) := by decide +kernel
theorem dX6_birds_27 : decode cX6_birds 27 = .ok (.iconst 0, 1) := by decide +kernel
theorem dX6_birds_28 : decode cX6_birds 28 = .ok (.istore 5, 2) := by decide +kernel
theorem dX6_birds_30 : decode cX6_birds 30 = .ok (.iload 5, 2) := by decide +kernel
theorem dX6_birds_32 : decode cX6_birds 32 = .ok (.iload_n 1, 1) := by decide +kernel
theorem dX6_birds_33 : decode cX6_birds 33 = .ok (.if_icmp .ge 21, 3) := by decide +kernel
theorem dX6_birds_36 : decode cX6_birds 36 = .ok (.lload_n 3, 1) := by decide +kernel
theorem dX6_birds_37 : decode cX6_birds 37 = .ok (.bipush 100, 2) := by decide +kernel
theorem dX6_birds_39 : decode cX6_birds 39 = .ok (.iload_n 2, 1) := by decide +kernel
theorem dX6_birds_40 : decode cX6_birds 40 = .ok (.isub, 1) := by decide +kernel
theorem dX6_birds_41 : decode cX6_birds 41 = .ok (.i2l, 1) := by decide +kernel
theorem dX6_birds_42 : decode cX6_birds 42 = .ok (.lmul, 1) := by decide +kernel
theorem dX6_birds_43 : decode cX6_birds 43 = .ok (.ldc2_w 257, 3) := by decide +kernel
theorem dX6_birds_46 : decode cX6_birds 46 = .ok (.ldiv, 1) := by decide +kernel
theorem dX6_birds_47 : decode cX6_birds 47 = .ok (.lstore_n 3, 1) := by decide +kernel
theorem dX6_birds_48 : decode cX6_birds 48 = .ok (.iinc 5 1, 3) := by decide +kernel
theorem dX6_birds_51 : decode cX6_birds 51 = .ok (.goto (-21), 3) := by decide +kernel
theorem dX6_birds_54 : decode cX6_birds 54 = .ok (.lload_n 3, 1) := by decide +kernel
theorem dX6_birds_55 : decode cX6_birds 55 = .ok (.l2i, 1) := by decide +kernel
theorem dX6_birds_56 : decode cX6_birds 56 = .ok (.ireturn, 1) := by decide +kernel
set_option maxRecDepth 20000 in
theorem ggX6_root_X0_hasEdge : GoodIn wsX6_root wsX0_hasEdge := goodIn_r _ [13, 14, 30, 31, 32, 33, 34, 35, 36, 37, 38, 39, 40, 41, 42] (by decide +kernel) (by decide +kernel)
set_option maxRecDepth 20000 in
theorem gX6_root_X0_hasEdge : GoodIn wsX6_root (wsV RX6 168 RX0 yX0_hasEdge wsX0_hasEdge) := goodIn_app (goodIn_of _ (by decide +kernel)) ggX6_root_X0_hasEdge
theorem dX6_root_0 : decode cX6_root 0 = .ok (.aload_n 0, 1) := by decide +kernel
theorem dX6_root_1 : decode cX6_root 1 = .ok (.getfield 19, 3) := by decide +kernel
theorem dX6_root_4 : decode cX6_root 4 = .ok (.iload_n 1, 1) := by decide +kernel
theorem dX6_root_5 : decode cX6_root 5 = .ok (.invokevirtual 168, 3) := by decide +kernel
theorem dX6_root_8 : decode cX6_root 8 = .ok (.ifCond .ne 6, 3) := by decide +kernel
theorem dX6_root_11 : decode cX6_root 11 = .ok (.ldc 147, 2) := by decide +kernel
theorem dX6_root_13 : decode cX6_root 13 = .ok (.ireturn, 1) := by decide +kernel
theorem dX6_root_14 : decode cX6_root 14 = .ok (.iload_n 2, 1) := by decide +kernel
theorem dX6_root_15 : decode cX6_root 15 = .ok (.ifCond .lt 9, 3) := by decide +kernel
theorem dX6_root_18 : decode cX6_root 18 = .ok (.iload_n 2, 1) := by decide +kernel
theorem dX6_root_19 : decode cX6_root 19 = .ok (.bipush 99, 2) := by decide +kernel
theorem dX6_root_21 : decode cX6_root 21 = .ok (.if_icmp .le 6, 3) := by decide +kernel
theorem dX6_root_24 : decode cX6_root 24 = .ok (.ldc 62, 2) := by decide +kernel
theorem dX6_root_26 : decode cX6_root 26 = .ok (.ireturn, 1) := by decide +kernel
theorem dX6_root_27 : decode cX6_root 27 = .ok (.aload_n 0, 1) := by decide +kernel
theorem dX6_root_28 : decode cX6_root 28 = .ok (.getfield 40, 3) := by decide +kernel
theorem dX6_root_31 : decode cX6_root 31 = .ok (.getfield 134, 3) := by decide +kernel
theorem dX6_root_34 : decode cX6_root 34 = .ok (.bipush 6, 2) := by decide +kernel
theorem dX6_root_36 : decode cX6_root 36 = .ok (.if_icmp .lt 6, 3) := by decide +kernel
theorem dX6_root_39 : decode cX6_root 39 = .ok (.ldc 66, 2) := by decide +kernel
theorem dX6_root_41 : decode cX6_root 41 = .ok (.ireturn, 1) := by decide +kernel
theorem dX6_root_42 : decode cX6_root 42 = .ok (.aload_n 0, 1) := by decide +kernel
theorem dX6_root_43 : decode cX6_root 43 = .ok (.getfield 40, 3) := by decide +kernel
theorem dX6_root_46 : decode cX6_root 46 = .ok (.getfield 259, 3) := by decide +kernel
theorem dX6_root_49 : decode cX6_root 49 = .ok (.aload_n 0, 1) := by decide +kernel
theorem dX6_root_50 : decode cX6_root 50 = .ok (.getfield 40, 3) := by decide +kernel
theorem dX6_root_53 : decode cX6_root 53 = .ok (.getfield 134, 3) := by decide +kernel
theorem dX6_root_56 : decode cX6_root 56 = .ok (.iload_n 1, 1) := by decide +kernel
theorem dX6_root_57 : decode cX6_root 57 = .ok (.iastore, 1) := by decide +kernel
theorem dX6_root_58 : decode cX6_root 58 = .ok (.aload_n 0, 1) := by decide +kernel
theorem dX6_root_59 : decode cX6_root 59 = .ok (.getfield 40, 3) := by decide +kernel
theorem dX6_root_62 : decode cX6_root 62 = .ok (.getfield 262, 3) := by decide +kernel
theorem dX6_root_65 : decode cX6_root 65 = .ok (.aload_n 0, 1) := by decide +kernel
theorem dX6_root_66 : decode cX6_root 66 = .ok (.getfield 40, 3) := by decide +kernel
theorem dX6_root_69 : decode cX6_root 69 = .ok (.getfield 134, 3) := by decide +kernel
theorem dX6_root_72 : decode cX6_root 72 = .ok (.iload_n 2, 1) := by decide +kernel
theorem dX6_root_73 : decode cX6_root 73 = .ok (.iastore, 1) := by decide +kernel
theorem dX6_root_74 : decode cX6_root 74 = .ok (.aload_n 0, 1) := by decide +kernel
theorem dX6_root_75 : decode cX6_root 75 = .ok (.getfield 40, 3) := by decide +kernel
theorem dX6_root_78 : decode cX6_root 78 = .ok (.dup, 1) := by decide +kernel
theorem dX6_root_79 : decode cX6_root 79 = .ok (.getfield 134, 3) := by decide +kernel
theorem dX6_root_82 : decode cX6_root 82 = .ok (.iconst 1, 1) := by decide +kernel
theorem dX6_root_83 : decode cX6_root 83 = .ok (.iadd, 1) := by decide +kernel
theorem dX6_root_84 : decode cX6_root 84 = .ok (.putfield 134, 3) := by decide +kernel
theorem dX6_root_87 : decode cX6_root 87 = .ok (.aload_n 0, 1) := by decide +kernel
theorem dX6_root_88 : decode cX6_root 88 = .ok (.getfield 40, 3) := by decide +kernel
theorem dX6_root_91 : decode cX6_root 91 = .ok (.getfield 134, 3) := by decide +kernel
theorem dX6_root_94 : decode cX6_root 94 = .ok (.ireturn, 1) := by decide +kernel
set_option maxRecDepth 20000 in
theorem ggX6_plantedAgo_X2_yearsThatFit : GoodIn wsX6_plantedAgo wsX2_yearsThatFit := goodIn_r _ [7, 8, 9, 10, 6, 11, 12, 13, 14, 15, 16, 17, 18, 19, 20, 21, 22, 23, 24, 25, 26, 27, 28, 29, 30, 40, 41, 42, 43, 44, 45, 46, 47, 48, 49, 50, 51, 52, 53, 54, 55, 56, 57, 58] (by decide +kernel) (by decide +kernel)
set_option maxRecDepth 20000 in
theorem gX6_plantedAgo_X2_yearsThatFit : GoodIn wsX6_plantedAgo (wsV RX6 265 RX2 yX2_yearsThatFit wsX2_yearsThatFit) := goodIn_app (goodIn_of _ (by decide +kernel)) ggX6_plantedAgo_X2_yearsThatFit
theorem dX6_plantedAgo_0 : decode cX6_plantedAgo 0 = .ok (.aload_n 0, 1) := by decide +kernel
theorem dX6_plantedAgo_1 : decode cX6_plantedAgo 1 = .ok (.getfield 40, 3) := by decide +kernel
theorem dX6_plantedAgo_4 : decode cX6_plantedAgo 4 = .ok (.aload_n 0, 1) := by decide +kernel
theorem dX6_plantedAgo_5 : decode cX6_plantedAgo 5 = .ok (.getfield 19, 3) := by decide +kernel
theorem dX6_plantedAgo_8 : decode cX6_plantedAgo 8 = .ok (.invokevirtual 265, 3) := by decide +kernel
theorem dX6_plantedAgo_11 : decode cX6_plantedAgo 11 = .ok (.ireturn, 1) := by decide +kernel
set_option maxRecDepth 20000 in
theorem ggX6_lookAt_X2_yearsThatFit : GoodIn wsX6_lookAt wsX2_yearsThatFit := goodIn_r _ [8, 9, 10, 11, 7, 12, 13, 14, 15, 16, 17, 18, 19, 20, 21, 22, 23, 24, 25, 26, 27, 28, 29, 30, 31, 69, 70, 71, 72, 73, 74, 56, 57, 58, 59, 60, 61, 62, 63, 64, 65, 66, 67, 68] (by decide +kernel) (by decide +kernel)
set_option maxRecDepth 20000 in
theorem gX6_lookAt_X2_yearsThatFit : GoodIn wsX6_lookAt (wsV RX6 265 RX2 yX2_yearsThatFit wsX2_yearsThatFit) := goodIn_app (goodIn_of _ (by decide +kernel)) ggX6_lookAt_X2_yearsThatFit
set_option maxRecDepth 20000 in
theorem ggX6_lookAt_J6_bitCount_0f7a4 : GoodIn wsX6_lookAt wsJ6_bitCount_0f7a4 := goodIn_r _ [35, 36, 37, 38] (by decide +kernel) (by decide +kernel)
set_option maxRecDepth 20000 in
theorem gX6_lookAt_J6_bitCount_0f7a4 : GoodIn wsX6_lookAt (va_wsS RX6 125 yJ6_bitCount_0f7a4 wsJ6_bitCount_0f7a4) := goodIn_app (goodIn_of _ (by decide +kernel)) ggX6_lookAt_J6_bitCount_0f7a4
set_option maxRecDepth 20000 in
theorem ggX6_lookAt_X0_mostAlikeOn : GoodIn wsX6_lookAt wsX0_mostAlikeOn := goodIn_r _ [42, 43, 44, 23, 45, 46, 17, 18, 19, 20, 21, 22, 24, 25, 26, 27, 28, 29, 30, 31, 56, 57, 58, 59, 60, 61, 62, 63, 64, 65, 66, 67, 68] (by decide +kernel) (by decide +kernel)
set_option maxRecDepth 20000 in
theorem gX6_lookAt_X0_mostAlikeOn : GoodIn wsX6_lookAt (wsV RX6 269 RX0 yX0_mostAlikeOn wsX0_mostAlikeOn) := goodIn_app (goodIn_of _ (by decide +kernel)) ggX6_lookAt_X0_mostAlikeOn
theorem dX6_lookAt_0 : decode cX6_lookAt 0 = .ok (.aload_n 0, 1) := by decide +kernel
theorem dX6_lookAt_1 : decode cX6_lookAt 1 = .ok (.getfield 40, 3) := by decide +kernel
theorem dX6_lookAt_4 : decode cX6_lookAt 4 = .ok (.aload_n 0, 1) := by decide +kernel
theorem dX6_lookAt_5 : decode cX6_lookAt 5 = .ok (.getfield 19, 3) := by decide +kernel
theorem dX6_lookAt_8 : decode cX6_lookAt 8 = .ok (.invokevirtual 265, 3) := by decide +kernel
theorem dX6_lookAt_11 : decode cX6_lookAt 11 = .ok (.istore_n 1, 1) := by decide +kernel
theorem dX6_lookAt_12 : decode cX6_lookAt 12 = .ok (.iload_n 1, 1) := by decide +kernel
theorem dX6_lookAt_13 : decode cX6_lookAt 13 = .ok (.invokestatic 125, 3) := by decide +kernel
theorem dX6_lookAt_16 : decode cX6_lookAt 16 = .ok (.istore_n 2, 1) := by decide +kernel
theorem dX6_lookAt_17 : decode cX6_lookAt 17 = .ok (.iconst (-1), 1) := by decide +kernel
theorem dX6_lookAt_18 : decode cX6_lookAt 18 = .ok (.istore_n 3, 1) := by decide +kernel
theorem dX6_lookAt_19 : decode cX6_lookAt 19 = .ok (.iconst 0, 1) := by decide +kernel
theorem dX6_lookAt_20 : decode cX6_lookAt 20 = .ok (.istore 4, 2) := by decide +kernel
theorem dX6_lookAt_22 : decode cX6_lookAt 22 = .ok (.iload 4, 2) := by decide +kernel
theorem dX6_lookAt_24 : decode cX6_lookAt 24 = .ok (.aload_n 0, 1) := by decide +kernel
theorem dX6_lookAt_25 : decode cX6_lookAt 25 = .ok (.getfield 19, 3) := by decide +kernel
theorem dX6_lookAt_28 : decode cX6_lookAt 28 = .ok (.getfield 106, 3) := by decide +kernel
theorem dX6_lookAt_31 : decode cX6_lookAt 31 = .ok (.if_icmp .ge 33, 3) := by decide +kernel
theorem dX6_lookAt_34 : decode cX6_lookAt 34 = .ok (.aload_n 0, 1) := by decide +kernel
theorem dX6_lookAt_35 : decode cX6_lookAt 35 = .ok (.getfield 19, 3) := by decide +kernel
theorem dX6_lookAt_38 : decode cX6_lookAt 38 = .ok (.iload 4, 2) := by decide +kernel
theorem dX6_lookAt_40 : decode cX6_lookAt 40 = .ok (.iload_n 1, 1) := by decide +kernel
theorem dX6_lookAt_41 : decode cX6_lookAt 41 = .ok (.invokevirtual 269, 3) := by decide +kernel
theorem dX6_lookAt_44 : decode cX6_lookAt 44 = .ok (.istore 5, 2) := by decide +kernel
theorem dX6_lookAt_46 : decode cX6_lookAt 46 = .ok (.iload 5, 2) := by decide +kernel
theorem dX6_lookAt_48 : decode cX6_lookAt 48 = .ok (.iload_n 2, 1) := by decide +kernel
theorem dX6_lookAt_49 : decode cX6_lookAt 49 = .ok (.if_icmp .ge 9, 3) := by decide +kernel
theorem dX6_lookAt_52 : decode cX6_lookAt 52 = .ok (.iload 5, 2) := by decide +kernel
theorem dX6_lookAt_54 : decode cX6_lookAt 54 = .ok (.istore_n 2, 1) := by decide +kernel
theorem dX6_lookAt_55 : decode cX6_lookAt 55 = .ok (.iload 4, 2) := by decide +kernel
theorem dX6_lookAt_57 : decode cX6_lookAt 57 = .ok (.istore_n 3, 1) := by decide +kernel
theorem dX6_lookAt_58 : decode cX6_lookAt 58 = .ok (.iinc 4 1, 3) := by decide +kernel
theorem dX6_lookAt_61 : decode cX6_lookAt 61 = .ok (.goto (-39), 3) := by decide +kernel
theorem dX6_lookAt_64 : decode cX6_lookAt 64 = .ok (.iload_n 3, 1) := by decide +kernel
theorem dX6_lookAt_65 : decode cX6_lookAt 65 = .ok (.ireturn, 1) := by decide +kernel
set_option maxRecDepth 20000 in
theorem ggX6_write_X0_hasField : GoodIn wsX6_write wsX0_hasField := goodIn_r _ [12, 13, 33, 34, 35, 36, 37, 38, 39, 40, 41, 42, 43, 44, 45] (by decide +kernel) (by decide +kernel)
set_option maxRecDepth 20000 in
theorem gX6_write_X0_hasField : GoodIn wsX6_write (wsV RX6 143 RX0 yX0_hasField wsX0_hasField) := goodIn_app (goodIn_of _ (by decide +kernel)) ggX6_write_X0_hasField
set_option maxRecDepth 20000 in
theorem ggX6_write_X6_isEstate : GoodIn wsX6_write wsX6_isEstate := goodIn_r _ [17] (by decide +kernel) (by decide +kernel)
set_option maxRecDepth 20000 in
theorem gX6_write_X6_isEstate : GoodIn wsX6_write (va_wsS RX6 197 yX6_isEstate wsX6_isEstate) := goodIn_app (goodIn_of _ (by decide +kernel)) ggX6_write_X6_isEstate
theorem dX6_write_0 : decode cX6_write 0 = .ok (.aload_n 0, 1) := by decide +kernel
theorem dX6_write_1 : decode cX6_write 1 = .ok (.getfield 19, 3) := by decide +kernel
theorem dX6_write_4 : decode cX6_write 4 = .ok (.iload_n 1, 1) := by decide +kernel
theorem dX6_write_5 : decode cX6_write 5 = .ok (.invokevirtual 143, 3) := by decide +kernel
theorem dX6_write_8 : decode cX6_write 8 = .ok (.ifCond .eq 10, 3) := by decide +kernel
theorem dX6_write_11 : decode cX6_write 11 = .ok (.iload_n 2, 1) := by decide +kernel
theorem dX6_write_12 : decode cX6_write 12 = .ok (.invokestatic 197, 3) := by decide +kernel
theorem dX6_write_15 : decode cX6_write 15 = .ok (.ifCond .ne 6, 3) := by decide +kernel
theorem dX6_write_18 : decode cX6_write 18 = .ok (.ldc 147, 2) := by decide +kernel
theorem dX6_write_20 : decode cX6_write 20 = .ok (.ireturn, 1) := by decide +kernel
theorem dX6_write_21 : decode cX6_write 21 = .ok (.aload_n 0, 1) := by decide +kernel
theorem dX6_write_22 : decode cX6_write 22 = .ok (.getfield 40, 3) := by decide +kernel
theorem dX6_write_25 : decode cX6_write 25 = .ok (.getfield 137, 3) := by decide +kernel
theorem dX6_write_28 : decode cX6_write 28 = .ok (.bipush 15, 2) := by decide +kernel
theorem dX6_write_30 : decode cX6_write 30 = .ok (.if_icmp .lt 6, 3) := by decide +kernel
theorem dX6_write_33 : decode cX6_write 33 = .ok (.ldc 66, 2) := by decide +kernel
theorem dX6_write_35 : decode cX6_write 35 = .ok (.ireturn, 1) := by decide +kernel
theorem dX6_write_36 : decode cX6_write 36 = .ok (.aload_n 0, 1) := by decide +kernel
theorem dX6_write_37 : decode cX6_write 37 = .ok (.getfield 40, 3) := by decide +kernel
theorem dX6_write_40 : decode cX6_write 40 = .ok (.getfield 272, 3) := by decide +kernel
theorem dX6_write_43 : decode cX6_write 43 = .ok (.aload_n 0, 1) := by decide +kernel
theorem dX6_write_44 : decode cX6_write 44 = .ok (.getfield 40, 3) := by decide +kernel
theorem dX6_write_47 : decode cX6_write 47 = .ok (.getfield 137, 3) := by decide +kernel
theorem dX6_write_50 : decode cX6_write 50 = .ok (.iload_n 1, 1) := by decide +kernel
theorem dX6_write_51 : decode cX6_write 51 = .ok (.iastore, 1) := by decide +kernel
theorem dX6_write_52 : decode cX6_write 52 = .ok (.aload_n 0, 1) := by decide +kernel
theorem dX6_write_53 : decode cX6_write 53 = .ok (.getfield 40, 3) := by decide +kernel
theorem dX6_write_56 : decode cX6_write 56 = .ok (.getfield 275, 3) := by decide +kernel
theorem dX6_write_59 : decode cX6_write 59 = .ok (.aload_n 0, 1) := by decide +kernel
theorem dX6_write_60 : decode cX6_write 60 = .ok (.getfield 40, 3) := by decide +kernel
theorem dX6_write_63 : decode cX6_write 63 = .ok (.getfield 137, 3) := by decide +kernel
theorem dX6_write_66 : decode cX6_write 66 = .ok (.iload_n 2, 1) := by decide +kernel
theorem dX6_write_67 : decode cX6_write 67 = .ok (.iastore, 1) := by decide +kernel
theorem dX6_write_68 : decode cX6_write 68 = .ok (.aload_n 0, 1) := by decide +kernel
theorem dX6_write_69 : decode cX6_write 69 = .ok (.getfield 40, 3) := by decide +kernel
theorem dX6_write_72 : decode cX6_write 72 = .ok (.dup, 1) := by decide +kernel
theorem dX6_write_73 : decode cX6_write 73 = .ok (.getfield 137, 3) := by decide +kernel
theorem dX6_write_76 : decode cX6_write 76 = .ok (.iconst 1, 1) := by decide +kernel
theorem dX6_write_77 : decode cX6_write 77 = .ok (.iadd, 1) := by decide +kernel
theorem dX6_write_78 : decode cX6_write 78 = .ok (.putfield 137, 3) := by decide +kernel
theorem dX6_write_81 : decode cX6_write 81 = .ok (.aload_n 0, 1) := by decide +kernel
theorem dX6_write_82 : decode cX6_write 82 = .ok (.getfield 40, 3) := by decide +kernel
theorem dX6_write_85 : decode cX6_write 85 = .ok (.getfield 137, 3) := by decide +kernel
theorem dX6_write_88 : decode cX6_write 88 = .ok (.ireturn, 1) := by decide +kernel
set_option maxRecDepth 20000 in
theorem ggX6_tear_X2_forget : GoodIn wsX6_tear wsX2_forget := goodIn_r _ [8, 9, 10, 20, 21, 22, 23, 24, 25] (by decide +kernel) (by decide +kernel)
set_option maxRecDepth 20000 in
theorem gX6_tear_X2_forget : GoodIn wsX6_tear (wsV RX6 92 RX2 yX2_forget wsX2_forget) := goodIn_app (goodIn_of _ (by decide +kernel)) ggX6_tear_X2_forget
theorem dX6_tear_0 : decode cX6_tear 0 = .ok (.aload_n 0, 1) := by decide +kernel
theorem dX6_tear_1 : decode cX6_tear 1 = .ok (.getfield 40, 3) := by decide +kernel
theorem dX6_tear_4 : decode cX6_tear 4 = .ok (.getfield 134, 3) := by decide +kernel
theorem dX6_tear_7 : decode cX6_tear 7 = .ok (.aload_n 0, 1) := by decide +kernel
theorem dX6_tear_8 : decode cX6_tear 8 = .ok (.getfield 40, 3) := by decide +kernel
theorem dX6_tear_11 : decode cX6_tear 11 = .ok (.getfield 137, 3) := by decide +kernel
theorem dX6_tear_14 : decode cX6_tear 14 = .ok (.iadd, 1) := by decide +kernel
theorem dX6_tear_15 : decode cX6_tear 15 = .ok (.istore_n 1, 1) := by decide +kernel
theorem dX6_tear_16 : decode cX6_tear 16 = .ok (.aload_n 0, 1) := by decide +kernel
theorem dX6_tear_17 : decode cX6_tear 17 = .ok (.getfield 40, 3) := by decide +kernel
theorem dX6_tear_20 : decode cX6_tear 20 = .ok (.invokevirtual 92, 3) := by decide +kernel
theorem dX6_tear_23 : decode cX6_tear 23 = .ok (.iload_n 1, 1) := by decide +kernel
theorem dX6_tear_24 : decode cX6_tear 24 = .ok (.ireturn, 1) := by decide +kernel
set_option maxRecDepth 20000 in
theorem ggX6_judge_X5_ownerOf : GoodIn wsX6_judge wsX5_ownerOf := goodIn_r _ [10, 11, 27, 28, 29, 30, 31, 32] (by decide +kernel) (by decide +kernel)
set_option maxRecDepth 20000 in
theorem gX6_judge_X5_ownerOf : GoodIn wsX6_judge (wsV RX6 151 RX5 yX5_ownerOf wsX5_ownerOf) := goodIn_app (goodIn_of _ (by decide +kernel)) ggX6_judge_X5_ownerOf
theorem dX6_judge_0 : decode cX6_judge 0 = .ok (.iconst 0, 1) := by decide +kernel
theorem dX6_judge_1 : decode cX6_judge 1 = .ok (.istore_n 1, 1) := by decide +kernel
theorem dX6_judge_2 : decode cX6_judge 2 = .ok (.iload_n 1, 1) := by decide +kernel
theorem dX6_judge_3 : decode cX6_judge 3 = .ok (.aload_n 0, 1) := by decide +kernel
theorem dX6_judge_4 : decode cX6_judge 4 = .ok (.getfield 40, 3) := by decide +kernel
theorem dX6_judge_7 : decode cX6_judge 7 = .ok (.getfield 137, 3) := by decide +kernel
theorem dX6_judge_10 : decode cX6_judge 10 = .ok (.if_icmp .ge 39, 3) := by decide +kernel
theorem dX6_judge_13 : decode cX6_judge 13 = .ok (.aload_n 0, 1) := by decide +kernel
theorem dX6_judge_14 : decode cX6_judge 14 = .ok (.getfield 26, 3) := by decide +kernel
theorem dX6_judge_17 : decode cX6_judge 17 = .ok (.aload_n 0, 1) := by decide +kernel
theorem dX6_judge_18 : decode cX6_judge 18 = .ok (.getfield 40, 3) := by decide +kernel
theorem dX6_judge_21 : decode cX6_judge 21 = .ok (.getfield 272, 3) := by decide +kernel
theorem dX6_judge_24 : decode cX6_judge 24 = .ok (.iload_n 1, 1) := by decide +kernel
theorem dX6_judge_25 : decode cX6_judge 25 = .ok (.iaload, 1) := by decide +kernel
theorem dX6_judge_26 : decode cX6_judge 26 = .ok (.invokevirtual 151, 3) := by decide +kernel
theorem dX6_judge_29 : decode cX6_judge 29 = .ok (.aload_n 0, 1) := by decide +kernel
theorem dX6_judge_30 : decode cX6_judge 30 = .ok (.getfield 40, 3) := by decide +kernel
theorem dX6_judge_33 : decode cX6_judge 33 = .ok (.getfield 275, 3) := by decide +kernel
theorem dX6_judge_36 : decode cX6_judge 36 = .ok (.iload_n 1, 1) := by decide +kernel
theorem dX6_judge_37 : decode cX6_judge 37 = .ok (.iaload, 1) := by decide +kernel
theorem dX6_judge_38 : decode cX6_judge 38 = .ok (.if_icmp .eq 5, 3) := by decide +kernel
theorem dX6_judge_41 : decode cX6_judge 41 = .ok (.iload_n 1, 1) := by decide +kernel
theorem dX6_judge_42 : decode cX6_judge 42 = .ok (.ireturn, 1) := by decide +kernel
theorem dX6_judge_43 : decode cX6_judge 43 = .ok (.iinc 1 1, 3) := by decide +kernel
theorem dX6_judge_46 : decode cX6_judge 46 = .ok (.goto (-44), 3) := by decide +kernel
theorem dX6_judge_49 : decode cX6_judge 49 = .ok (.iconst (-1), 1) := by decide +kernel
theorem dX6_judge_50 : decode cX6_judge 50 = .ok (.ireturn, 1) := by decide +kernel
theorem dX6_seed_0 : decode cX6_seed 0 = .ok (.iload_n 1, 1) := by decide +kernel
theorem dX6_seed_1 : decode cX6_seed 1 = .ok (.ifCond .ge 6, 3) := by decide +kernel
theorem dX6_seed_4 : decode cX6_seed 4 = .ok (.ldc 62, 2) := by decide +kernel
theorem dX6_seed_6 : decode cX6_seed 6 = .ok (.ireturn, 1) := by decide +kernel
theorem dX6_seed_7 : decode cX6_seed 7 = .ok (.aload_n 0, 1) := by decide +kernel
theorem dX6_seed_8 : decode cX6_seed 8 = .ok (.getfield 58, 3) := by decide +kernel
theorem dX6_seed_11 : decode cX6_seed 11 = .ok (.istore_n 2, 1) := by decide +kernel
theorem dX6_seed_12 : decode cX6_seed 12 = .ok (.aload_n 0, 1) := by decide +kernel
theorem dX6_seed_13 : decode cX6_seed 13 = .ok (.iload_n 1, 1) := by decide +kernel
theorem dX6_seed_14 : decode cX6_seed 14 = .ok (.putfield 58, 3) := by decide +kernel
theorem dX6_seed_17 : decode cX6_seed 17 = .ok (.iload_n 2, 1) := by decide +kernel
theorem dX6_seed_18 : decode cX6_seed 18 = .ok (.ireturn, 1) := by decide +kernel
set_option maxRecDepth 20000 in
theorem ggX6_keep_X5_copyFrom : GoodIn wsX6_keep wsX5_copyFrom := goodIn_r _ [13, 14, 15, 16, 17, 18, 19, 20, 21, 22, 23, 42, 43, 44, 45, 46, 47] (by decide +kernel) (by decide +kernel)
set_option maxRecDepth 20000 in
theorem gX6_keep_X5_copyFrom : GoodIn wsX6_keep (wsV RX6 86 RX5 yX5_copyFrom wsX5_copyFrom) := goodIn_app (goodIn_of _ (by decide +kernel)) ggX6_keep_X5_copyFrom
set_option maxRecDepth 20000 in
theorem ggX6_keep_X3_forget : GoodIn wsX6_keep wsX3_forget := goodIn_r _ [28, 29, 48, 49, 50] (by decide +kernel) (by decide +kernel)
set_option maxRecDepth 20000 in
theorem gX6_keep_X3_forget : GoodIn wsX6_keep (wsV RX6 89 RX3 yX3_forget wsX3_forget) := goodIn_app (goodIn_of _ (by decide +kernel)) ggX6_keep_X3_forget
theorem dX6_keep_0 : decode cX6_keep 0 = .ok (.iload_n 1, 1) := by decide +kernel
theorem dX6_keep_1 : decode cX6_keep 1 = .ok (.ifCond .lt 8, 3) := by decide +kernel
theorem dX6_keep_4 : decode cX6_keep 4 = .ok (.iload_n 1, 1) := by decide +kernel
theorem dX6_keep_5 : decode cX6_keep 5 = .ok (.iconst 2, 1) := by decide +kernel
theorem dX6_keep_6 : decode cX6_keep 6 = .ok (.if_icmp .lt 6, 3) := by decide +kernel
theorem dX6_keep_9 : decode cX6_keep 9 = .ok (.ldc 147, 2) := by decide +kernel
theorem dX6_keep_11 : decode cX6_keep 11 = .ok (.ireturn, 1) := by decide +kernel
theorem dX6_keep_12 : decode cX6_keep 12 = .ok (.aload_n 0, 1) := by decide +kernel
theorem dX6_keep_13 : decode cX6_keep 13 = .ok (.getfield 46, 3) := by decide +kernel
theorem dX6_keep_16 : decode cX6_keep 16 = .ok (.iload_n 1, 1) := by decide +kernel
theorem dX6_keep_17 : decode cX6_keep 17 = .ok (.aaload, 1) := by decide +kernel
theorem dX6_keep_18 : decode cX6_keep 18 = .ok (.astore_n 2, 1) := by decide +kernel
theorem dX6_keep_19 : decode cX6_keep 19 = .ok (.aload_n 2, 1) := by decide +kernel
theorem dX6_keep_20 : decode cX6_keep 20 = .ok (.getfield 278, 3) := by decide +kernel
theorem dX6_keep_23 : decode cX6_keep 23 = .ok (.aload_n 0, 1) := by decide +kernel
theorem dX6_keep_24 : decode cX6_keep 24 = .ok (.getfield 26, 3) := by decide +kernel
theorem dX6_keep_27 : decode cX6_keep 27 = .ok (.invokevirtual 86, 3) := by decide +kernel
theorem dX6_keep_30 : decode cX6_keep 30 = .ok (.aload_n 2, 1) := by decide +kernel
theorem dX6_keep_31 : decode cX6_keep 31 = .ok (.aload_n 0, 1) := by decide +kernel
theorem dX6_keep_32 : decode cX6_keep 32 = .ok (.getfield 58, 3) := by decide +kernel
theorem dX6_keep_35 : decode cX6_keep 35 = .ok (.putfield 279, 3) := by decide +kernel
theorem dX6_keep_38 : decode cX6_keep 38 = .ok (.aload_n 2, 1) := by decide +kernel
theorem dX6_keep_39 : decode cX6_keep 39 = .ok (.iconst 1, 1) := by decide +kernel
theorem dX6_keep_40 : decode cX6_keep 40 = .ok (.putfield 93, 3) := by decide +kernel
theorem dX6_keep_43 : decode cX6_keep 43 = .ok (.aload_n 0, 1) := by decide +kernel
