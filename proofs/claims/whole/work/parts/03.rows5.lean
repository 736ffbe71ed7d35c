theorem dX7_told_128 : decode cX7_told 128 = .ok (.iaload, 1) := by decide +kernel
theorem dX7_told_129 : decode cX7_told 129 = .ok (.invokestatic 201, 3) := by decide +kernel
theorem dX7_told_132 : decode cX7_told 132 = .ok (.ireturn, 1) := by decide +kernel
theorem dX7_told_133 : decode cX7_told 133 = .ok (.aload_n 0, 1) := by decide +kernel
theorem dX7_told_134 : decode cX7_told 134 = .ok (.invokevirtual 204, 3) := by decide +kernel
theorem dX7_told_137 : decode cX7_told 137 = .ok (.ireturn, 1) := by decide +kernel
theorem dX7_told_138 : decode cX7_told 138 = .ok (.aload_n 0, 1) := by decide +kernel
theorem dX7_told_139 : decode cX7_told 139 = .ok (.getfield 175, 3) := by decide +kernel
theorem dX7_told_142 : decode cX7_told 142 = .ok (.ireturn, 1) := by decide +kernel
theorem dX7_told_143 : decode cX7_told 143 = .ok (.aload_n 0, 1) := by decide +kernel
theorem dX7_told_144 : decode cX7_told 144 = .ok (.getfield 178, 3) := by decide +kernel
theorem dX7_told_147 : decode cX7_told 147 = .ok (.ireturn, 1) := by decide +kernel
theorem dX7_told_148 : decode cX7_told 148 = .ok (.aload_n 0, 1) := by decide +kernel
theorem dX7_told_149 : decode cX7_told 149 = .ok (.getfield 181, 3) := by decide +kernel
theorem dX7_told_152 : decode cX7_told 152 = .ok (.ireturn, 1) := by decide +kernel
theorem dX7_told_153 : decode cX7_told 153 = .ok (.ldc 96, 2) := by decide +kernel
theorem dX7_told_155 : decode cX7_told 155 = .ok (.ireturn, 1) := by decide +kernel
set_option maxRecDepth 20000 in
theorem ggX7_field_X7_isField : GoodIn wsX7_field wsX7_isField := goodIn_r _ [9, 10, 11, 12, 8, 13, 49, 50, 51, 52, 53, 54, 55, 56, 57, 58, 59, 60, 61, 62, 63, 64, 65, 66, 67, 68, 69, 70, 71, 72, 73, 74, 75, 76, 77, 78, 79, 80, 81, 82, 83, 84, 85, 86] (by decide +kernel) (by decide +kernel)
set_option maxRecDepth 20000 in
theorem gX7_field_X7_isField : GoodIn wsX7_field (wsV RX7 207 RX7 yX7_isField wsX7_isField) := goodIn_app (goodIn_of _ (by decide +kernel)) ggX7_field_X7_isField
set_option maxRecDepth 20000 in
theorem ggX7_field_X7_landOf : GoodIn wsX7_field wsX7_landOf := goodIn_r _ [17, 18, 19, 20, 21, 22, 8, 23, 24, 25, 26, 27, 3, 28, 29, 30, 31, 32, 33, 34, 35, 2, 49, 50, 51, 52, 53, 54, 55, 56, 57, 58, 59, 60, 61, 62, 63, 64, 65, 66, 67, 68, 69, 70, 71, 72, 73, 74, 75, 76, 77, 78, 79, 80, 81, 82, 83, 84, 85, 86] (by decide +kernel) (by decide +kernel)
set_option maxRecDepth 20000 in
theorem gX7_field_X7_landOf : GoodIn wsX7_field (wsV RX7 211 RX7 yX7_landOf wsX7_landOf) := goodIn_app (goodIn_of _ (by decide +kernel)) ggX7_field_X7_landOf
set_option maxRecDepth 20000 in
theorem ggX7_field_X7_bits : GoodIn wsX7_field wsX7_bits := goodIn_r _ [38] (by decide +kernel) (by decide +kernel)
set_option maxRecDepth 20000 in
theorem gX7_field_X7_bits : GoodIn wsX7_field (va_wsS RX7 201 yX7_bits wsX7_bits) := goodIn_app (goodIn_of _ (by decide +kernel)) ggX7_field_X7_bits
set_option maxRecDepth 20000 in
theorem ggX7_field_X7_shutInBy : GoodIn wsX7_field wsX7_shutInBy := goodIn_r _ [42, 10, 18, 19, 20, 3, 21, 22, 8, 23, 43, 44, 45, 46, 47, 48, 49, 50, 51, 52, 53, 54, 55, 56, 57, 58, 59, 60, 61, 62, 63, 64, 65, 66, 67, 68, 69, 70, 71, 72, 73, 74, 75, 76, 77, 78, 79, 80, 81, 82, 83, 84, 85, 86] (by decide +kernel) (by decide +kernel)
set_option maxRecDepth 20000 in
theorem gX7_field_X7_shutInBy : GoodIn wsX7_field (wsV RX7 214 RX7 yX7_shutInBy wsX7_shutInBy) := goodIn_app (goodIn_of _ (by decide +kernel)) ggX7_field_X7_shutInBy
theorem dX7_field_0 : decode cX7_field 0 = .ok (.aload_n 0, 1) := by decide +kernel
theorem dX7_field_1 : decode cX7_field 1 = .ok (.iload_n 1, 1) := by decide +kernel
theorem dX7_field_2 : decode cX7_field 2 = .ok (.invokevirtual 207, 3) := by decide +kernel
theorem dX7_field_5 : decode cX7_field 5 = .ok (.ifCond .ne 6, 3) := by decide +kernel
theorem dX7_field_8 : decode cX7_field 8 = .ok (.ldc 210, 2) := by decide +kernel
theorem dX7_field_10 : decode cX7_field 10 = .ok (.ireturn, 1) := by decide +kernel
theorem dX7_field_11 : decode cX7_field 11 = .ok (.iload_n 2, 1) := by decide +kernel
theorem dX7_field_12 : decode cX7_field 12 = .ok (.tableswitch 70 0 3 #[32, 39, 51, 60], 32) := by decide +kernel
theorem dX7_field_44 : decode cX7_field 44 = .ok (.aload_n 0, 1) := by decide +kernel
theorem dX7_field_45 : decode cX7_field 45 = .ok (.getfield 7, 3) := by decide +kernel
theorem dX7_field_48 : decode cX7_field 48 = .ok (.iload_n 1, 1) := by decide +kernel
theorem dX7_field_49 : decode cX7_field 49 = .ok (.iaload, 1) := by decide +kernel
theorem dX7_field_50 : decode cX7_field 50 = .ok (.ireturn, 1) := by decide +kernel
theorem dX7_field_51 : decode cX7_field 51 = .ok (.aload_n 0, 1) := by decide +kernel
theorem dX7_field_52 : decode cX7_field 52 = .ok (.getfield 23, 3) := by decide +kernel
theorem dX7_field_55 : decode cX7_field 55 = .ok (.bipush 120, 2) := by decide +kernel
theorem dX7_field_57 : decode cX7_field 57 = .ok (.iaload, 1) := by decide +kernel
theorem dX7_field_58 : decode cX7_field 58 = .ok (.iload_n 1, 1) := by decide +kernel
theorem dX7_field_59 : decode cX7_field 59 = .ok (.ishr, 1) := by decide +kernel
theorem dX7_field_60 : decode cX7_field 60 = .ok (.iconst 1, 1) := by decide +kernel
theorem dX7_field_61 : decode cX7_field 61 = .ok (.iand, 1) := by decide +kernel
theorem dX7_field_62 : decode cX7_field 62 = .ok (.ireturn, 1) := by decide +kernel
theorem dX7_field_63 : decode cX7_field 63 = .ok (.aload_n 0, 1) := by decide +kernel
theorem dX7_field_64 : decode cX7_field 64 = .ok (.iload_n 1, 1) := by decide +kernel
theorem dX7_field_65 : decode cX7_field 65 = .ok (.invokevirtual 211, 3) := by decide +kernel
theorem dX7_field_68 : decode cX7_field 68 = .ok (.invokestatic 201, 3) := by decide +kernel
theorem dX7_field_71 : decode cX7_field 71 = .ok (.ireturn, 1) := by decide +kernel
theorem dX7_field_72 : decode cX7_field 72 = .ok (.aload_n 0, 1) := by decide +kernel
theorem dX7_field_73 : decode cX7_field 73 = .ok (.aload_n 0, 1) := by decide +kernel
theorem dX7_field_74 : decode cX7_field 74 = .ok (.iload_n 1, 1) := by decide +kernel
theorem dX7_field_75 : decode cX7_field 75 = .ok (.invokevirtual 211, 3) := by decide +kernel
theorem dX7_field_78 : decode cX7_field 78 = .ok (.invokevirtual 214, 3) := by decide +kernel
theorem dX7_field_81 : decode cX7_field 81 = .ok (.ireturn, 1) := by decide +kernel
theorem dX7_field_82 : decode cX7_field 82 = .ok (.ldc 96, 2) := by decide +kernel
theorem dX7_field_84 : decode cX7_field 84 = .ok (.ireturn, 1) := by decide +kernel
set_option maxRecDepth 20000 in
theorem ggX7_edge_X7_isEdge : GoodIn wsX7_edge wsX7_isEdge := goodIn_r _ [11, 12, 13, 14, 10, 15, 29, 30, 31, 32, 33, 34, 35, 36, 37, 38, 39, 40, 41, 42, 43, 44, 45, 46, 47, 48, 49, 50, 51, 52, 53, 54, 55, 56, 57, 58, 59, 60, 61, 62, 63, 64, 65, 66] (by decide +kernel) (by decide +kernel)
set_option maxRecDepth 20000 in
theorem gX7_edge_X7_isEdge : GoodIn wsX7_edge (wsV RX7 217 RX7 yX7_isEdge wsX7_isEdge) := goodIn_app (goodIn_of _ (by decide +kernel)) ggX7_edge_X7_isEdge
set_option maxRecDepth 20000 in
theorem ggX7_edge_X7_heightBy : GoodIn wsX7_edge wsX7_heightBy := goodIn_r _ [19, 20, 21, 22, 10, 23, 24, 2, 3, 29, 30, 31, 32, 33, 34, 35, 36, 37, 38, 39, 40, 41, 42, 43, 44, 45, 46, 47, 48, 49, 50, 51, 52, 53, 54, 55, 56, 57, 58, 59, 60, 61, 62, 63, 64, 65, 66] (by decide +kernel) (by decide +kernel)
set_option maxRecDepth 20000 in
theorem gX7_edge_X7_heightBy : GoodIn wsX7_edge (wsV RX7 188 RX7 yX7_heightBy wsX7_heightBy) := goodIn_app (goodIn_of _ (by decide +kernel)) ggX7_edge_X7_heightBy
set_option maxRecDepth 20000 in
theorem ggX7_edge_X7_isShut : GoodIn wsX7_edge wsX7_isShut := goodIn_r _ [28, 4, 16, 17, 18, 10, 19, 20, 21, 22, 23, 24, 2, 3, 29, 30, 31, 32, 33, 34, 35, 36, 37, 38, 39, 40, 41, 42, 43, 44, 45, 46, 47, 48, 49, 50, 51, 52, 53, 54, 55, 56, 57, 58, 59, 60, 61, 62, 63, 64, 65, 66] (by decide +kernel) (by decide +kernel)
set_option maxRecDepth 20000 in
theorem gX7_edge_X7_isShut : GoodIn wsX7_edge (wsV RX7 191 RX7 yX7_isShut wsX7_isShut) := goodIn_app (goodIn_of _ (by decide +kernel)) ggX7_edge_X7_isShut
theorem dX7_edge_0 : decode cX7_edge 0 = .ok (.aload_n 0, 1) := by decide +kernel
theorem dX7_edge_1 : decode cX7_edge 1 = .ok (.iload_n 1, 1) := by decide +kernel
theorem dX7_edge_2 : decode cX7_edge 2 = .ok (.invokevirtual 217, 3) := by decide +kernel
theorem dX7_edge_5 : decode cX7_edge 5 = .ok (.ifCond .ne 6, 3) := by decide +kernel
theorem dX7_edge_8 : decode cX7_edge 8 = .ok (.ldc 210, 2) := by decide +kernel
theorem dX7_edge_10 : decode cX7_edge 10 = .ok (.ireturn, 1) := by decide +kernel
theorem dX7_edge_11 : decode cX7_edge 11 = .ok (.iload_n 2, 1) := by decide +kernel
theorem dX7_edge_12 : decode cX7_edge 12 = .ok (.tableswitch 159 0 7 #[48, 55, 62, 69, 92, 120, 130, 145], 48) := by decide +kernel
theorem dX7_edge_60 : decode cX7_edge 60 = .ok (.aload_n 0, 1) := by decide +kernel
theorem dX7_edge_61 : decode cX7_edge 61 = .ok (.getfield 13, 3) := by decide +kernel
theorem dX7_edge_64 : decode cX7_edge 64 = .ok (.iload_n 1, 1) := by decide +kernel
theorem dX7_edge_65 : decode cX7_edge 65 = .ok (.iaload, 1) := by decide +kernel
theorem dX7_edge_66 : decode cX7_edge 66 = .ok (.ireturn, 1) := by decide +kernel
theorem dX7_edge_67 : decode cX7_edge 67 = .ok (.aload_n 0, 1) := by decide +kernel
theorem dX7_edge_68 : decode cX7_edge 68 = .ok (.getfield 16, 3) := by decide +kernel
theorem dX7_edge_71 : decode cX7_edge 71 = .ok (.iload_n 1, 1) := by decide +kernel
theorem dX7_edge_72 : decode cX7_edge 72 = .ok (.iaload, 1) := by decide +kernel
theorem dX7_edge_73 : decode cX7_edge 73 = .ok (.ireturn, 1) := by decide +kernel
theorem dX7_edge_74 : decode cX7_edge 74 = .ok (.aload_n 0, 1) := by decide +kernel
theorem dX7_edge_75 : decode cX7_edge 75 = .ok (.getfield 23, 3) := by decide +kernel
theorem dX7_edge_78 : decode cX7_edge 78 = .ok (.iload_n 1, 1) := by decide +kernel
theorem dX7_edge_79 : decode cX7_edge 79 = .ok (.iaload, 1) := by decide +kernel
theorem dX7_edge_80 : decode cX7_edge 80 = .ok (.ireturn, 1) := by decide +kernel
theorem dX7_edge_81 : decode cX7_edge 81 = .ok (.aload_n 0, 1) := by decide +kernel
theorem dX7_edge_82 : decode cX7_edge 82 = .ok (.getfield 23, 3) := by decide +kernel
theorem dX7_edge_85 : decode cX7_edge 85 = .ok (.iload_n 1, 1) := by decide +kernel
theorem dX7_edge_86 : decode cX7_edge 86 = .ok (.iaload, 1) := by decide +kernel
theorem dX7_edge_87 : decode cX7_edge 87 = .ok (.ifCond .ge 7, 3) := by decide +kernel
theorem dX7_edge_90 : decode cX7_edge 90 = .ok (.iconst (-1), 1) := by decide +kernel
theorem dX7_edge_91 : decode cX7_edge 91 = .ok (.goto 12, 3) := by decide +kernel
theorem dX7_edge_94 : decode cX7_edge 94 = .ok (.aload_n 0, 1) := by decide +kernel
theorem dX7_edge_95 : decode cX7_edge 95 = .ok (.getfield 23, 3) := by decide +kernel
theorem dX7_edge_98 : decode cX7_edge 98 = .ok (.bipush 40, 2) := by decide +kernel
theorem dX7_edge_100 : decode cX7_edge 100 = .ok (.iload_n 1, 1) := by decide +kernel
theorem dX7_edge_101 : decode cX7_edge 101 = .ok (.iadd, 1) := by decide +kernel
theorem dX7_edge_102 : decode cX7_edge 102 = .ok (.iaload, 1) := by decide +kernel
theorem dX7_edge_103 : decode cX7_edge 103 = .ok (.ireturn, 1) := by decide +kernel
theorem dX7_edge_104 : decode cX7_edge 104 = .ok (.aload_n 0, 1) := by decide +kernel
theorem dX7_edge_105 : decode cX7_edge 105 = .ok (.getfield 23, 3) := by decide +kernel
theorem dX7_edge_108 : decode cX7_edge 108 = .ok (.iload_n 1, 1) := by decide +kernel
theorem dX7_edge_109 : decode cX7_edge 109 = .ok (.iaload, 1) := by decide +kernel
theorem dX7_edge_110 : decode cX7_edge 110 = .ok (.ifCond .ge 7, 3) := by decide +kernel
theorem dX7_edge_113 : decode cX7_edge 113 = .ok (.iconst 0, 1) := by decide +kernel
theorem dX7_edge_114 : decode cX7_edge 114 = .ok (.goto 17, 3) := by decide +kernel
theorem dX7_edge_117 : decode cX7_edge 117 = .ok (.aload_n 0, 1) := by decide +kernel
theorem dX7_edge_118 : decode cX7_edge 118 = .ok (.iload_n 1, 1) := by decide +kernel
theorem dX7_edge_119 : decode cX7_edge 119 = .ok (.aload_n 0, 1) := by decide +kernel
theorem dX7_edge_120 : decode cX7_edge 120 = .ok (.getfield 23, 3) := by decide +kernel
theorem dX7_edge_123 : decode cX7_edge 123 = .ok (.bipush 40, 2) := by decide +kernel
theorem dX7_edge_125 : decode cX7_edge 125 = .ok (.iload_n 1, 1) := by decide +kernel
theorem dX7_edge_126 : decode cX7_edge 126 = .ok (.iadd, 1) := by decide +kernel
theorem dX7_edge_127 : decode cX7_edge 127 = .ok (.iaload, 1) := by decide +kernel
theorem dX7_edge_128 : decode cX7_edge 128 = .ok (.invokevirtual 188, 3) := by decide +kernel
theorem dX7_edge_131 : decode cX7_edge 131 = .ok (.ireturn, 1) := by decide +kernel
theorem dX7_edge_132 : decode cX7_edge 132 = .ok (.aload_n 0, 1) := by decide +kernel
theorem dX7_edge_133 : decode cX7_edge 133 = .ok (.getfield 23, 3) := by decide +kernel
theorem dX7_edge_136 : decode cX7_edge 136 = .ok (.bipush 80, 2) := by decide +kernel
theorem dX7_edge_138 : decode cX7_edge 138 = .ok (.iload_n 1, 1) := by decide +kernel
theorem dX7_edge_139 : decode cX7_edge 139 = .ok (.iadd, 1) := by decide +kernel
theorem dX7_edge_140 : decode cX7_edge 140 = .ok (.iaload, 1) := by decide +kernel
theorem dX7_edge_141 : decode cX7_edge 141 = .ok (.ireturn, 1) := by decide +kernel
theorem dX7_edge_142 : decode cX7_edge 142 = .ok (.aload_n 0, 1) := by decide +kernel
theorem dX7_edge_143 : decode cX7_edge 143 = .ok (.getfield 19, 3) := by decide +kernel
theorem dX7_edge_146 : decode cX7_edge 146 = .ok (.iload_n 1, 1) := by decide +kernel
theorem dX7_edge_147 : decode cX7_edge 147 = .ok (.baload, 1) := by decide +kernel
theorem dX7_edge_148 : decode cX7_edge 148 = .ok (.ifCond .eq 7, 3) := by decide +kernel
theorem dX7_edge_151 : decode cX7_edge 151 = .ok (.iconst 1, 1) := by decide +kernel
theorem dX7_edge_152 : decode cX7_edge 152 = .ok (.goto 4, 3) := by decide +kernel
theorem dX7_edge_155 : decode cX7_edge 155 = .ok (.iconst 0, 1) := by decide +kernel
theorem dX7_edge_156 : decode cX7_edge 156 = .ok (.ireturn, 1) := by decide +kernel
theorem dX7_edge_157 : decode cX7_edge 157 = .ok (.aload_n 0, 1) := by decide +kernel
theorem dX7_edge_158 : decode cX7_edge 158 = .ok (.iload_n 1, 1) := by decide +kernel
theorem dX7_edge_159 : decode cX7_edge 159 = .ok (.invokevirtual 191, 3) := by decide +kernel
theorem dX7_edge_162 : decode cX7_edge 162 = .ok (.ifCond .eq 7, 3) := by decide +kernel
theorem dX7_edge_165 : decode cX7_edge 165 = .ok (.iconst 1, 1) := by decide +kernel
theorem dX7_edge_166 : decode cX7_edge 166 = .ok (.goto 4, 3) := by decide +kernel
theorem dX7_edge_169 : decode cX7_edge 169 = .ok (.iconst 0, 1) := by decide +kernel
theorem dX7_edge_170 : decode cX7_edge 170 = .ok (.ireturn, 1) := by decide +kernel
theorem dX7_edge_171 : decode cX7_edge 171 = .ok (.ldc 96, 2) := by decide +kernel
theorem dX7_edge_173 : decode cX7_edge 173 = .ok (.ireturn, 1) := by decide +kernel
theorem dX7_remember_0 : decode cX7_remember 0 = .ok (.aload_n 0, 1) := by decide +kernel
theorem dX7_remember_1 : decode cX7_remember 1 = .ok (.getfield 181, 3) := by decide +kernel
theorem dX7_remember_4 : decode cX7_remember 4 = .ok (.bipush 20, 2) := by decide +kernel
theorem dX7_remember_6 : decode cX7_remember 6 = .ok (.if_icmp .ne 44, 3) := by decide +kernel
theorem dX7_remember_9 : decode cX7_remember 9 = .ok (.bipush 122, 2) := by decide +kernel
theorem dX7_remember_11 : decode cX7_remember 11 = .ok (.istore_n 1, 1) := by decide +kernel
theorem dX7_remember_12 : decode cX7_remember 12 = .ok (.iload_n 1, 1) := by decide +kernel
theorem dX7_remember_13 : decode cX7_remember 13 = .ok (.sipush 2440, 3) := by decide +kernel
theorem dX7_remember_16 : decode cX7_remember 16 = .ok (.if_icmp .ge 24, 3) := by decide +kernel
theorem dX7_remember_19 : decode cX7_remember 19 = .ok (.aload_n 0, 1) := by decide +kernel
theorem dX7_remember_20 : decode cX7_remember 20 = .ok (.getfield 48, 3) := by decide +kernel
theorem dX7_remember_23 : decode cX7_remember 23 = .ok (.iload_n 1, 1) := by decide +kernel
theorem dX7_remember_24 : decode cX7_remember 24 = .ok (.bipush 122, 2) := by decide +kernel
theorem dX7_remember_26 : decode cX7_remember 26 = .ok (.isub, 1) := by decide +kernel
theorem dX7_remember_27 : decode cX7_remember 27 = .ok (.aload_n 0, 1) := by decide +kernel
theorem dX7_remember_28 : decode cX7_remember 28 = .ok (.getfield 48, 3) := by decide +kernel
theorem dX7_remember_31 : decode cX7_remember 31 = .ok (.iload_n 1, 1) := by decide +kernel
theorem dX7_remember_32 : decode cX7_remember 32 = .ok (.iaload, 1) := by decide +kernel
theorem dX7_remember_33 : decode cX7_remember 33 = .ok (.iastore, 1) := by decide +kernel
theorem dX7_remember_34 : decode cX7_remember 34 = .ok (.iinc 1 1, 3) := by decide +kernel
theorem dX7_remember_37 : decode cX7_remember 37 = .ok (.goto (-25), 3) := by decide +kernel
theorem dX7_remember_40 : decode cX7_remember 40 = .ok (.aload_n 0, 1) := by decide +kernel
theorem dX7_remember_41 : decode cX7_remember 41 = .ok (.dup, 1) := by decide +kernel
theorem dX7_remember_42 : decode cX7_remember 42 = .ok (.getfield 181, 3) := by decide +kernel
theorem dX7_remember_45 : decode cX7_remember 45 = .ok (.iconst 1, 1) := by decide +kernel
theorem dX7_remember_46 : decode cX7_remember 46 = .ok (.isub, 1) := by decide +kernel
theorem dX7_remember_47 : decode cX7_remember 47 = .ok (.putfield 181, 3) := by decide +kernel
theorem dX7_remember_50 : decode cX7_remember 50 = .ok (.iconst 0, 1) := by decide +kernel
theorem dX7_remember_51 : decode cX7_remember 51 = .ok (.istore_n 1, 1) := by decide +kernel
theorem dX7_remember_52 : decode cX7_remember 52 = .ok (.iload_n 1, 1) := by decide +kernel
theorem dX7_remember_53 : decode cX7_remember 53 = .ok (.bipush 122, 2) := by decide +kernel
theorem dX7_remember_55 : decode cX7_remember 55 = .ok (.if_icmp .ge 29, 3) := by decide +kernel
theorem dX7_remember_58 : decode cX7_remember 58 = .ok (.aload_n 0, 1) := by decide +kernel
theorem dX7_remember_59 : decode cX7_remember 59 = .ok (.getfield 48, 3) := by decide +kernel
theorem dX7_remember_62 : decode cX7_remember 62 = .ok (.bipush 122, 2) := by decide +kernel
theorem dX7_remember_64 : decode cX7_remember 64 = .ok (.aload_n 0, 1) := by decide +kernel
theorem dX7_remember_65 : decode cX7_remember 65 = .ok (.getfield 181, 3) := by decide +kernel
theorem dX7_remember_68 : decode cX7_remember 68 = .ok (.imul, 1) := by decide +kernel
theorem dX7_remember_69 : decode cX7_remember 69 = .ok (.iload_n 1, 1) := by decide +kernel
theorem dX7_remember_70 : decode cX7_remember 70 = .ok (.iadd, 1) := by decide +kernel
theorem dX7_remember_71 : decode cX7_remember 71 = .ok (.aload_n 0, 1) := by decide +kernel
theorem dX7_remember_72 : decode cX7_remember 72 = .ok (.getfield 23, 3) := by decide +kernel
theorem dX7_remember_75 : decode cX7_remember 75 = .ok (.iload_n 1, 1) := by decide +kernel
theorem dX7_remember_76 : decode cX7_remember 76 = .ok (.iaload, 1) := by decide +kernel
theorem dX7_remember_77 : decode cX7_remember 77 = .ok (.iastore, 1) := by decide +kernel
theorem dX7_remember_78 : decode cX7_remember 78 = .ok (.iinc 1 1, 3) := by decide +kernel
theorem dX7_remember_81 : decode cX7_remember 81 = .ok (.goto (-29), 3) := by decide +kernel
theorem dX7_remember_84 : decode cX7_remember 84 = .ok (.aload_n 0, 1) := by decide +kernel
theorem dX7_remember_85 : decode cX7_remember 85 = .ok (.dup, 1) := by decide +kernel
theorem dX7_remember_86 : decode cX7_remember 86 = .ok (.getfield 181, 3) := by decide +kernel
theorem dX7_remember_89 : decode cX7_remember 89 = .ok (.iconst 1, 1) := by decide +kernel
theorem dX7_remember_90 : decode cX7_remember 90 = .ok (.iadd, 1) := by decide +kernel
theorem dX7_remember_91 : decode cX7_remember 91 = .ok (.putfield 181, 3) := by decide +kernel
theorem dX7_remember_94 : decode cX7_remember 94 = .ok (.return_, 1) := by decide +kernel
theorem dX7_mayPlant_0 : decode cX7_mayPlant 0 = .ok (.aload_n 0, 1) := by decide +kernel
theorem dX7_mayPlant_1 : decode cX7_mayPlant 1 = .ok (.getfield 23, 3) := by decide +kernel
theorem dX7_mayPlant_4 : decode cX7_mayPlant 4 = .ok (.iload_n 1, 1) := by decide +kernel
theorem dX7_mayPlant_5 : decode cX7_mayPlant 5 = .ok (.iaload, 1) := by decide +kernel
theorem dX7_mayPlant_6 : decode cX7_mayPlant 6 = .ok (.ifCond .ge 16, 3) := by decide +kernel
theorem dX7_mayPlant_9 : decode cX7_mayPlant 9 = .ok (.aload_n 0, 1) := by decide +kernel
theorem dX7_mayPlant_10 : decode cX7_mayPlant 10 = .ok (.getfield 19, 3) := by decide +kernel
theorem dX7_mayPlant_13 : decode cX7_mayPlant 13 = .ok (.iload_n 1, 1) := by decide +kernel
theorem dX7_mayPlant_14 : decode cX7_mayPlant 14 = .ok (.baload, 1) := by decide +kernel
theorem dX7_mayPlant_15 : decode cX7_mayPlant 15 = .ok (.ifCond .ne 7, 3) := by decide +kernel
theorem dX7_mayPlant_18 : decode cX7_mayPlant 18 = .ok (.iconst 1, 1) := by decide +kernel
theorem dX7_mayPlant_19 : decode cX7_mayPlant 19 = .ok (.goto 4, 3) := by decide +kernel
theorem dX7_mayPlant_22 : decode cX7_mayPlant 22 = .ok (.iconst 0, 1) := by decide +kernel
theorem dX7_mayPlant_23 : decode cX7_mayPlant 23 = .ok (.ireturn, 1) := by decide +kernel
theorem dX7_plantNow_0 : decode cX7_plantNow 0 = .ok (.aload_n 0, 1) := by decide +kernel
theorem dX7_plantNow_1 : decode cX7_plantNow 1 = .ok (.getfield 23, 3) := by decide +kernel
theorem dX7_plantNow_4 : decode cX7_plantNow 4 = .ok (.iload_n 1, 1) := by decide +kernel
theorem dX7_plantNow_5 : decode cX7_plantNow 5 = .ok (.iload_n 2, 1) := by decide +kernel
theorem dX7_plantNow_6 : decode cX7_plantNow 6 = .ok (.iastore, 1) := by decide +kernel
theorem dX7_plantNow_7 : decode cX7_plantNow 7 = .ok (.aload_n 0, 1) := by decide +kernel
theorem dX7_plantNow_8 : decode cX7_plantNow 8 = .ok (.getfield 23, 3) := by decide +kernel
theorem dX7_plantNow_11 : decode cX7_plantNow 11 = .ok (.bipush 40, 2) := by decide +kernel
theorem dX7_plantNow_13 : decode cX7_plantNow 13 = .ok (.iload_n 1, 1) := by decide +kernel
theorem dX7_plantNow_14 : decode cX7_plantNow 14 = .ok (.iadd, 1) := by decide +kernel
theorem dX7_plantNow_15 : decode cX7_plantNow 15 = .ok (.iconst 0, 1) := by decide +kernel
theorem dX7_plantNow_16 : decode cX7_plantNow 16 = .ok (.iastore, 1) := by decide +kernel
theorem dX7_plantNow_17 : decode cX7_plantNow 17 = .ok (.aload_n 0, 1) := by decide +kernel
theorem dX7_plantNow_18 : decode cX7_plantNow 18 = .ok (.getfield 23, 3) := by decide +kernel
theorem dX7_plantNow_21 : decode cX7_plantNow 21 = .ok (.bipush 80, 2) := by decide +kernel
theorem dX7_plantNow_23 : decode cX7_plantNow 23 = .ok (.iload_n 1, 1) := by decide +kernel
theorem dX7_plantNow_24 : decode cX7_plantNow 24 = .ok (.iadd, 1) := by decide +kernel
theorem dX7_plantNow_25 : decode cX7_plantNow 25 = .ok (.iconst 0, 1) := by decide +kernel
theorem dX7_plantNow_26 : decode cX7_plantNow 26 = .ok (.iastore, 1) := by decide +kernel
theorem dX7_plantNow_27 : decode cX7_plantNow 27 = .ok (.return_, 1) := by decide +kernel
set_option maxRecDepth 20000 in
theorem ggX7_plant_X7_isEdge : GoodIn wsX7_plant wsX7_isEdge := goodIn_r _ [7, 8, 9, 10, 6, 11, 35, 36, 37, 38, 39, 40, 41, 42, 43, 44, 45, 46, 47, 48, 49, 50, 51, 52, 53, 54, 55, 56, 57, 58, 59, 60, 61, 62, 63, 64, 65, 66, 67, 68, 69, 70, 71, 72] (by decide +kernel) (by decide +kernel)
set_option maxRecDepth 20000 in
theorem gX7_plant_X7_isEdge : GoodIn wsX7_plant (wsV RX7 217 RX7 yX7_isEdge wsX7_isEdge) := goodIn_app (goodIn_of _ (by decide +kernel)) ggX7_plant_X7_isEdge
set_option maxRecDepth 20000 in
theorem ggX7_plant_X7_isEstate : GoodIn wsX7_plant wsX7_isEstate := goodIn_r _ [14] (by decide +kernel) (by decide +kernel)
set_option maxRecDepth 20000 in
theorem gX7_plant_X7_isEstate : GoodIn wsX7_plant (va_wsS RX7 220 yX7_isEstate wsX7_isEstate) := goodIn_app (goodIn_of _ (by decide +kernel)) ggX7_plant_X7_isEstate
set_option maxRecDepth 20000 in
theorem ggX7_plant_X7_mayPlant : GoodIn wsX7_plant wsX7_mayPlant := goodIn_r _ [18, 19, 20, 35, 36, 37, 38, 39, 40, 41, 42, 43, 44, 45, 46, 47, 48, 49, 50, 51, 52, 53, 54, 55, 56, 57, 58, 59, 60, 61, 62, 63, 64, 65, 66, 67, 68, 69, 70, 71, 72] (by decide +kernel) (by decide +kernel)
set_option maxRecDepth 20000 in
theorem gX7_plant_X7_mayPlant : GoodIn wsX7_plant (wsV RX7 223 RX7 yX7_mayPlant wsX7_mayPlant) := goodIn_app (goodIn_of _ (by decide +kernel)) ggX7_plant_X7_mayPlant
set_option maxRecDepth 20000 in
theorem ggX7_plant_X7_remember : GoodIn wsX7_plant wsX7_remember := goodIn_r _ [24, 25, 26, 19, 35, 36, 37, 38, 39, 40, 41, 42, 43, 44, 45, 46, 47, 48, 49, 50, 51, 52, 53, 54, 55, 56, 57, 58, 59, 60, 61, 62, 63, 64, 65, 66, 67, 68, 69, 70, 71, 72] (by decide +kernel) (by decide +kernel)
set_option maxRecDepth 20000 in
theorem gX7_plant_X7_remember : GoodIn wsX7_plant (wsV RX7 227 RX7 yX7_remember wsX7_remember) := goodIn_app (goodIn_of _ (by decide +kernel)) ggX7_plant_X7_remember
set_option maxRecDepth 20000 in
theorem ggX7_plant_X7_plantNow : GoodIn wsX7_plant wsX7_plantNow := goodIn_r _ [30, 19, 35, 36, 37, 38, 39, 40, 41, 42, 43, 44, 45, 46, 47, 48, 49, 50, 51, 52, 53, 54, 55, 56, 57, 58, 59, 60, 61, 62, 63, 64, 65, 66, 67, 68, 69, 70, 71, 72] (by decide +kernel) (by decide +kernel)
set_option maxRecDepth 20000 in
theorem gX7_plant_X7_plantNow : GoodIn wsX7_plant (wsV RX7 230 RX7 yX7_plantNow wsX7_plantNow) := goodIn_app (goodIn_of _ (by decide +kernel)) ggX7_plant_X7_plantNow
set_option maxRecDepth 20000 in
theorem ggX7_plant_X7_hedges : GoodIn wsX7_plant wsX7_hedges := goodIn_r _ [34, 8, 19, 35, 36, 37, 38, 39, 40, 41, 42, 43, 44, 45, 46, 47, 48, 49, 50, 51, 52, 53, 54, 55, 56, 57, 58, 59, 60, 61, 62, 63, 64, 65, 66, 67, 68, 69, 70, 71, 72] (by decide +kernel) (by decide +kernel)
set_option maxRecDepth 20000 in
theorem gX7_plant_X7_hedges : GoodIn wsX7_plant (wsV RX7 198 RX7 yX7_hedges wsX7_hedges) := goodIn_app (goodIn_of _ (by decide +kernel)) ggX7_plant_X7_hedges
theorem dX7_plant_0 : decode cX7_plant 0 = .ok (.aload_n 0, 1) := by decide +kernel
theorem dX7_plant_1 : decode cX7_plant 1 = .ok (.iload_n 1, 1) := by decide +kernel
theorem dX7_plant_2 : decode cX7_plant 2 = .ok (.invokevirtual 217, 3) := by decide +kernel
theorem dX7_plant_5 : decode cX7_plant 5 = .ok (.ifCond .eq 10, 3) := by decide +kernel
theorem dX7_plant_8 : decode cX7_plant 8 = .ok (.iload_n 2, 1) := by decide +kernel
theorem dX7_plant_9 : decode cX7_plant 9 = .ok (.invokestatic 220, 3) := by decide +kernel
theorem dX7_plant_12 : decode cX7_plant 12 = .ok (.ifCond .ne 6, 3) := by decide +kernel
theorem dX7_plant_15 : decode cX7_plant 15 = .ok (.ldc 210, 2) := by decide +kernel
theorem dX7_plant_17 : decode cX7_plant 17 = .ok (.ireturn, 1) := by decide +kernel
theorem dX7_plant_18 : decode cX7_plant 18 = .ok (.aload_n 0, 1) := by decide +kernel
theorem dX7_plant_19 : decode cX7_plant 19 = .ok (.iload_n 1, 1) := by decide +kernel
theorem dX7_plant_20 : decode cX7_plant 20 = .ok (.invokevirtual 223, 3) := by decide +kernel
theorem dX7_plant_23 : decode cX7_plant 23 = .ok (.ifCond .ne 6, 3) := by decide +kernel
theorem dX7_plant_26 : decode cX7_plant 26 = .ok (.ldc 226, 2) := by decide +kernel
theorem dX7_plant_28 : decode cX7_plant 28 = .ok (.ireturn, 1) := by decide +kernel
theorem dX7_plant_29 : decode cX7_plant 29 = .ok (.aload_n 0, 1) := by decide +kernel
theorem dX7_plant_30 : decode cX7_plant 30 = .ok (.invokevirtual 227, 3) := by decide +kernel
theorem dX7_plant_33 : decode cX7_plant 33 = .ok (.aload_n 0, 1) := by decide +kernel
theorem dX7_plant_34 : decode cX7_plant 34 = .ok (.iload_n 1, 1) := by decide +kernel
theorem dX7_plant_35 : decode cX7_plant 35 = .ok (.iload_n 2, 1) := by decide +kernel
theorem dX7_plant_36 : decode cX7_plant 36 = .ok (.invokevirtual 230, 3) := by decide +kernel
theorem dX7_plant_39 : decode cX7_plant 39 = .ok (.aload_n 0, 1) := by decide +kernel
theorem dX7_plant_40 : decode cX7_plant 40 = .ok (.invokevirtual 198, 3) := by decide +kernel
theorem dX7_plant_43 : decode cX7_plant 43 = .ok (.ireturn, 1) := by decide +kernel
set_option maxRecDepth 20000 in
theorem ggX7_graze_X7_isEdge : GoodIn wsX7_graze wsX7_isEdge := goodIn_r _ [8, 9, 10, 11, 7, 12, 23, 24, 25, 26, 27, 28, 29, 30, 31, 32, 33, 34, 35, 36, 37, 38, 39, 40, 41, 42, 43, 44, 45, 46, 47, 48, 49, 50, 51, 52, 53, 54, 55, 56, 57, 58, 59, 60] (by decide +kernel) (by decide +kernel)
set_option maxRecDepth 20000 in
theorem gX7_graze_X7_isEdge : GoodIn wsX7_graze (wsV RX7 217 RX7 yX7_isEdge wsX7_isEdge) := goodIn_app (goodIn_of _ (by decide +kernel)) ggX7_graze_X7_isEdge
set_option maxRecDepth 20000 in
theorem ggX7_graze_X7_remember : GoodIn wsX7_graze wsX7_remember := goodIn_r _ [16, 17, 18, 2, 23, 24, 25, 26, 27, 28, 29, 30, 31, 32, 33, 34, 35, 36, 37, 38, 39, 40, 41, 42, 43, 44, 45, 46, 47, 48, 49, 50, 51, 52, 53, 54, 55, 56, 57, 58, 59, 60] (by decide +kernel) (by decide +kernel)
set_option maxRecDepth 20000 in
theorem gX7_graze_X7_remember : GoodIn wsX7_graze (wsV RX7 227 RX7 yX7_remember wsX7_remember) := goodIn_app (goodIn_of _ (by decide +kernel)) ggX7_graze_X7_remember
set_option maxRecDepth 20000 in
theorem ggX7_graze_X7_plantNow : GoodIn wsX7_graze wsX7_plantNow := goodIn_r _ [22, 2, 23, 24, 25, 26, 27, 28, 29, 30, 31, 32, 33, 34, 35, 36, 37, 38, 39, 40, 41, 42, 43, 44, 45, 46, 47, 48, 49, 50, 51, 52, 53, 54, 55, 56, 57, 58, 59, 60] (by decide +kernel) (by decide +kernel)
set_option maxRecDepth 20000 in
theorem gX7_graze_X7_plantNow : GoodIn wsX7_graze (wsV RX7 230 RX7 yX7_plantNow wsX7_plantNow) := goodIn_app (goodIn_of _ (by decide +kernel)) ggX7_graze_X7_plantNow
theorem dX7_graze_0 : decode cX7_graze 0 = .ok (.aload_n 0, 1) := by decide +kernel
theorem dX7_graze_1 : decode cX7_graze 1 = .ok (.iload_n 1, 1) := by decide +kernel
theorem dX7_graze_2 : decode cX7_graze 2 = .ok (.invokevirtual 217, 3) := by decide +kernel
theorem dX7_graze_5 : decode cX7_graze 5 = .ok (.ifCond .ne 6, 3) := by decide +kernel
theorem dX7_graze_8 : decode cX7_graze 8 = .ok (.ldc 210, 2) := by decide +kernel
theorem dX7_graze_10 : decode cX7_graze 10 = .ok (.ireturn, 1) := by decide +kernel
theorem dX7_graze_11 : decode cX7_graze 11 = .ok (.aload_n 0, 1) := by decide +kernel
theorem dX7_graze_12 : decode cX7_graze 12 = .ok (.getfield 23, 3) := by decide +kernel
theorem dX7_graze_15 : decode cX7_graze 15 = .ok (.iload_n 1, 1) := by decide +kernel
theorem dX7_graze_16 : decode cX7_graze 16 = .ok (.iaload, 1) := by decide +kernel
theorem dX7_graze_17 : decode cX7_graze 17 = .ok (.ifCond .ge 6, 3) := by decide +kernel
theorem dX7_graze_20 : decode cX7_graze 20 = .ok (.ldc 226, 2) := by decide +kernel
theorem dX7_graze_22 : decode cX7_graze 22 = .ok (.ireturn, 1) := by decide +kernel
theorem dX7_graze_23 : decode cX7_graze 23 = .ok (.aload_n 0, 1) := by decide +kernel
theorem dX7_graze_24 : decode cX7_graze 24 = .ok (.invokevirtual 227, 3) := by decide +kernel
theorem dX7_graze_27 : decode cX7_graze 27 = .ok (.aload_n 0, 1) := by decide +kernel
theorem dX7_graze_28 : decode cX7_graze 28 = .ok (.getfield 23, 3) := by decide +kernel
theorem dX7_graze_31 : decode cX7_graze 31 = .ok (.bipush 40, 2) := by decide +kernel
theorem dX7_graze_33 : decode cX7_graze 33 = .ok (.iload_n 1, 1) := by decide +kernel
theorem dX7_graze_34 : decode cX7_graze 34 = .ok (.iadd, 1) := by decide +kernel
theorem dX7_graze_35 : decode cX7_graze 35 = .ok (.iaload, 1) := by decide +kernel
theorem dX7_graze_36 : decode cX7_graze 36 = .ok (.istore_n 2, 1) := by decide +kernel
theorem dX7_graze_37 : decode cX7_graze 37 = .ok (.aload_n 0, 1) := by decide +kernel
theorem dX7_graze_38 : decode cX7_graze 38 = .ok (.iload_n 1, 1) := by decide +kernel
theorem dX7_graze_39 : decode cX7_graze 39 = .ok (.iconst (-1), 1) := by decide +kernel
theorem dX7_graze_40 : decode cX7_graze 40 = .ok (.invokevirtual 230, 3) := by decide +kernel
theorem dX7_graze_43 : decode cX7_graze 43 = .ok (.iload_n 2, 1) := by decide +kernel
theorem dX7_graze_44 : decode cX7_graze 44 = .ok (.ireturn, 1) := by decide +kernel
set_option maxRecDepth 20000 in
theorem ggX7_gate_X7_isEdge : GoodIn wsX7_gate wsX7_isEdge := goodIn_r _ [8, 9, 10, 11, 7, 12, 19, 20, 21, 22, 23, 24, 25, 26, 27, 28, 29, 30, 31, 32, 33, 34, 35, 36, 37, 38, 39, 40, 41, 42, 43, 44, 45, 46, 47, 48, 49, 50, 51, 52, 53, 54, 55, 56] (by decide +kernel) (by decide +kernel)
set_option maxRecDepth 20000 in
theorem gX7_gate_X7_isEdge : GoodIn wsX7_gate (wsV RX7 217 RX7 yX7_isEdge wsX7_isEdge) := goodIn_app (goodIn_of _ (by decide +kernel)) ggX7_gate_X7_isEdge
set_option maxRecDepth 20000 in
theorem ggX7_gate_X7_remember : GoodIn wsX7_gate wsX7_remember := goodIn_r _ [16, 17, 18, 2, 19, 20, 21, 22, 23, 24, 25, 26, 27, 28, 29, 30, 31, 32, 33, 34, 35, 36, 37, 38, 39, 40, 41, 42, 43, 44, 45, 46, 47, 48, 49, 50, 51, 52, 53, 54, 55, 56] (by decide +kernel) (by decide +kernel)
set_option maxRecDepth 20000 in
theorem gX7_gate_X7_remember : GoodIn wsX7_gate (wsV RX7 227 RX7 yX7_remember wsX7_remember) := goodIn_app (goodIn_of _ (by decide +kernel)) ggX7_gate_X7_remember
theorem dX7_gate_0 : decode cX7_gate 0 = .ok (.aload_n 0, 1) := by decide +kernel
theorem dX7_gate_1 : decode cX7_gate 1 = .ok (.iload_n 1, 1) := by decide +kernel
theorem dX7_gate_2 : decode cX7_gate 2 = .ok (.invokevirtual 217, 3) := by decide +kernel
theorem dX7_gate_5 : decode cX7_gate 5 = .ok (.ifCond .ne 6, 3) := by decide +kernel
theorem dX7_gate_8 : decode cX7_gate 8 = .ok (.ldc 210, 2) := by decide +kernel
theorem dX7_gate_10 : decode cX7_gate 10 = .ok (.ireturn, 1) := by decide +kernel
theorem dX7_gate_11 : decode cX7_gate 11 = .ok (.aload_n 0, 1) := by decide +kernel
theorem dX7_gate_12 : decode cX7_gate 12 = .ok (.getfield 23, 3) := by decide +kernel
theorem dX7_gate_15 : decode cX7_gate 15 = .ok (.iload_n 1, 1) := by decide +kernel
theorem dX7_gate_16 : decode cX7_gate 16 = .ok (.iaload, 1) := by decide +kernel
theorem dX7_gate_17 : decode cX7_gate 17 = .ok (.ifCond .ge 6, 3) := by decide +kernel
theorem dX7_gate_20 : decode cX7_gate 20 = .ok (.ldc 226, 2) := by decide +kernel
theorem dX7_gate_22 : decode cX7_gate 22 = .ok (.ireturn, 1) := by decide +kernel
theorem dX7_gate_23 : decode cX7_gate 23 = .ok (.aload_n 0, 1) := by decide +kernel
theorem dX7_gate_24 : decode cX7_gate 24 = .ok (.invokevirtual 227, 3) := by decide +kernel
theorem dX7_gate_27 : decode cX7_gate 27 = .ok (.aload_n 0, 1) := by decide +kernel
theorem dX7_gate_28 : decode cX7_gate 28 = .ok (.getfield 23, 3) := by decide +kernel
theorem dX7_gate_31 : decode cX7_gate 31 = .ok (.bipush 80, 2) := by decide +kernel
theorem dX7_gate_33 : decode cX7_gate 33 = .ok (.iload_n 1, 1) := by decide +kernel
theorem dX7_gate_34 : decode cX7_gate 34 = .ok (.iadd, 1) := by decide +kernel
theorem dX7_gate_35 : decode cX7_gate 35 = .ok (.iaload, 1) := by decide +kernel
theorem dX7_gate_36 : decode cX7_gate 36 = .ok (.istore_n 3, 1) := by decide +kernel
theorem dX7_gate_37 : decode cX7_gate 37 = .ok (.aload_n 0, 1) := by decide +kernel
theorem dX7_gate_38 : decode cX7_gate 38 = .ok (.getfield 23, 3) := by decide +kernel
theorem dX7_gate_41 : decode cX7_gate 41 = .ok (.bipush 80, 2) := by decide +kernel
theorem dX7_gate_43 : decode cX7_gate 43 = .ok (.iload_n 1, 1) := by decide +kernel
theorem dX7_gate_44 : decode cX7_gate 44 = .ok (.iadd, 1) := by decide +kernel
theorem dX7_gate_45 : decode cX7_gate 45 = .ok (.iload_n 2, 1) := by decide +kernel
theorem dX7_gate_46 : decode cX7_gate 46 = .ok (.ifCond .eq 7, 3) := by decide +kernel
theorem dX7_gate_49 : decode cX7_gate 49 = .ok (.iconst 1, 1) := by decide +kernel
theorem dX7_gate_50 : decode cX7_gate 50 = .ok (.goto 4, 3) := by decide +kernel
theorem dX7_gate_53 : decode cX7_gate 53 = .ok (.iconst 0, 1) := by decide +kernel
theorem dX7_gate_54 : decode cX7_gate 54 = .ok (.iastore, 1) := by decide +kernel
theorem dX7_gate_55 : decode cX7_gate 55 = .ok (.iload_n 3, 1) := by decide +kernel
theorem dX7_gate_56 : decode cX7_gate 56 = .ok (.ireturn, 1) := by decide +kernel
set_option maxRecDepth 20000 in
theorem ggX7_pass_X7_has : GoodIn wsX7_pass wsX7_has := goodIn_r _ [7] (by decide +kernel) (by decide +kernel)
set_option maxRecDepth 20000 in
theorem gX7_pass_X7_has : GoodIn wsX7_pass (va_wsS RX7 135 yX7_has wsX7_has) := goodIn_app (goodIn_of _ (by decide +kernel)) ggX7_pass_X7_has
set_option maxRecDepth 20000 in
theorem ggX7_pass_X7_landOf : GoodIn wsX7_pass wsX7_landOf := goodIn_r _ [11, 1, 12, 13, 4, 5, 6, 7, 14, 15, 16, 17, 2, 18, 19, 20, 21, 22, 23, 24, 25, 26, 37, 38, 39, 40, 41, 42, 43, 44, 45, 46, 47, 48, 49, 50, 51, 52, 53, 54, 55, 56, 57, 58, 59, 60, 61, 62, 63, 64, 65, 66, 67, 68, 69, 70, 71, 72, 73, 74] (by decide +kernel) (by decide +kernel)
set_option maxRecDepth 20000 in
theorem gX7_pass_X7_landOf : GoodIn wsX7_pass (wsV RX7 211 RX7 yX7_landOf wsX7_landOf) := goodIn_app (goodIn_of _ (by decide +kernel)) ggX7_pass_X7_landOf
set_option maxRecDepth 20000 in
theorem ggX7_pass_X7_shutInBy : GoodIn wsX7_pass wsX7_shutInBy := goodIn_r _ [30, 3, 1, 12, 13, 2, 4, 5, 6, 7, 31, 32, 33, 34, 35, 36, 37, 38, 39, 40, 41, 42, 43, 44, 45, 46, 47, 48, 49, 50, 51, 52, 53, 54, 55, 56, 57, 58, 59, 60, 61, 62, 63, 64, 65, 66, 67, 68, 69, 70, 71, 72, 73, 74] (by decide +kernel) (by decide +kernel)
set_option maxRecDepth 20000 in
theorem gX7_pass_X7_shutInBy : GoodIn wsX7_pass (wsV RX7 214 RX7 yX7_shutInBy wsX7_shutInBy) := goodIn_app (goodIn_of _ (by decide +kernel)) ggX7_pass_X7_shutInBy
theorem dX7_pass_0 : decode cX7_pass 0 = .ok (.iconst 0, 1) := by decide +kernel
theorem dX7_pass_1 : decode cX7_pass 1 = .ok (.istore_n 1, 1) := by decide +kernel
theorem dX7_pass_2 : decode cX7_pass 2 = .ok (.iload_n 1, 1) := by decide +kernel
theorem dX7_pass_3 : decode cX7_pass 3 = .ok (.aload_n 0, 1) := by decide +kernel
theorem dX7_pass_4 : decode cX7_pass 4 = .ok (.getfield 91, 3) := by decide +kernel
theorem dX7_pass_7 : decode cX7_pass 7 = .ok (.if_icmp .ge 64, 3) := by decide +kernel
theorem dX7_pass_10 : decode cX7_pass 10 = .ok (.aload_n 0, 1) := by decide +kernel
theorem dX7_pass_11 : decode cX7_pass 11 = .ok (.getfield 23, 3) := by decide +kernel
theorem dX7_pass_14 : decode cX7_pass 14 = .ok (.bipush 40, 2) := by decide +kernel
theorem dX7_pass_16 : decode cX7_pass 16 = .ok (.iload_n 1, 1) := by decide +kernel
theorem dX7_pass_17 : decode cX7_pass 17 = .ok (.iadd, 1) := by decide +kernel
theorem dX7_pass_18 : decode cX7_pass 18 = .ok (.aload_n 0, 1) := by decide +kernel
theorem dX7_pass_19 : decode cX7_pass 19 = .ok (.getfield 23, 3) := by decide +kernel
theorem dX7_pass_22 : decode cX7_pass 22 = .ok (.iload_n 1, 1) := by decide +kernel
theorem dX7_pass_23 : decode cX7_pass 23 = .ok (.iaload, 1) := by decide +kernel
theorem dX7_pass_24 : decode cX7_pass 24 = .ok (.ifCond .lt 31, 3) := by decide +kernel
theorem dX7_pass_27 : decode cX7_pass 27 = .ok (.aload_n 0, 1) := by decide +kernel
theorem dX7_pass_28 : decode cX7_pass 28 = .ok (.getfield 23, 3) := by decide +kernel
theorem dX7_pass_31 : decode cX7_pass 31 = .ok (.bipush 40, 2) := by decide +kernel
theorem dX7_pass_33 : decode cX7_pass 33 = .ok (.iload_n 1, 1) := by decide +kernel
theorem dX7_pass_34 : decode cX7_pass 34 = .ok (.iadd, 1) := by decide +kernel
theorem dX7_pass_35 : decode cX7_pass 35 = .ok (.iaload, 1) := by decide +kernel
theorem dX7_pass_36 : decode cX7_pass 36 = .ok (.bipush 99, 2) := by decide +kernel
theorem dX7_pass_38 : decode cX7_pass 38 = .ok (.if_icmp .ge 17, 3) := by decide +kernel
theorem dX7_pass_41 : decode cX7_pass 41 = .ok (.aload_n 0, 1) := by decide +kernel
theorem dX7_pass_42 : decode cX7_pass 42 = .ok (.getfield 23, 3) := by decide +kernel
theorem dX7_pass_45 : decode cX7_pass 45 = .ok (.bipush 40, 2) := by decide +kernel
theorem dX7_pass_47 : decode cX7_pass 47 = .ok (.iload_n 1, 1) := by decide +kernel
theorem dX7_pass_48 : decode cX7_pass 48 = .ok (.iadd, 1) := by decide +kernel
theorem dX7_pass_49 : decode cX7_pass 49 = .ok (.iaload, 1) := by decide +kernel
theorem dX7_pass_50 : decode cX7_pass 50 = .ok (.iconst 1, 1) := by decide +kernel
theorem dX7_pass_51 : decode cX7_pass 51 = .ok (.iadd, 1) := by decide +kernel
theorem dX7_pass_52 : decode cX7_pass 52 = .ok (.goto 12, 3) := by decide +kernel
theorem dX7_pass_55 : decode cX7_pass 55 = .ok (.aload_n 0, 1) := by decide +kernel
theorem dX7_pass_56 : decode cX7_pass 56 = .ok (.getfield 23, 3) := by decide +kernel
theorem dX7_pass_59 : decode cX7_pass 59 = .ok (.bipush 40, 2) := by decide +kernel
theorem dX7_pass_61 : decode cX7_pass 61 = .ok (.iload_n 1, 1) := by decide +kernel
theorem dX7_pass_62 : decode cX7_pass 62 = .ok (.iadd, 1) := by decide +kernel
theorem dX7_pass_63 : decode cX7_pass 63 = .ok (.iaload, 1) := by decide +kernel
theorem dX7_pass_64 : decode cX7_pass 64 = .ok (.iastore, 1) := by decide +kernel
theorem dX7_pass_65 : decode cX7_pass 65 = .ok (.iinc 1 1, 3) := by decide +kernel
theorem dX7_pass_68 : decode cX7_pass 68 = .ok (.goto (-66), 3) := by decide +kernel
theorem dX7_pass_71 : decode cX7_pass 71 = .ok (.aload_n 0, 1) := by decide +kernel
theorem dX7_pass_72 : decode cX7_pass 72 = .ok (.getfield 23, 3) := by decide +kernel
theorem dX7_pass_75 : decode cX7_pass 75 = .ok (.bipush 120, 2) := by decide +kernel
theorem dX7_pass_77 : decode cX7_pass 77 = .ok (.iaload, 1) := by decide +kernel
theorem dX7_pass_78 : decode cX7_pass 78 = .ok (.istore_n 1, 1) := by decide +kernel
theorem dX7_pass_79 : decode cX7_pass 79 = .ok (.iconst 0, 1) := by decide +kernel
theorem dX7_pass_80 : decode cX7_pass 80 = .ok (.istore_n 2, 1) := by decide +kernel
theorem dX7_pass_81 : decode cX7_pass 81 = .ok (.iconst 0, 1) := by decide +kernel
theorem dX7_pass_82 : decode cX7_pass 82 = .ok (.istore_n 3, 1) := by decide +kernel
theorem dX7_pass_83 : decode cX7_pass 83 = .ok (.iload_n 3, 1) := by decide +kernel
theorem dX7_pass_84 : decode cX7_pass 84 = .ok (.aload_n 0, 1) := by decide +kernel
theorem dX7_pass_85 : decode cX7_pass 85 = .ok (.getfield 84, 3) := by decide +kernel
theorem dX7_pass_88 : decode cX7_pass 88 = .ok (.if_icmp .ge 66, 3) := by decide +kernel
theorem dX7_pass_91 : decode cX7_pass 91 = .ok (.iload_n 2, 1) := by decide +kernel
theorem dX7_pass_92 : decode cX7_pass 92 = .ok (.iload_n 3, 1) := by decide +kernel
theorem dX7_pass_93 : decode cX7_pass 93 = .ok (.invokestatic 135, 3) := by decide +kernel
theorem dX7_pass_96 : decode cX7_pass 96 = .ok (.ifCond .ne 52, 3) := by decide +kernel
theorem dX7_pass_99 : decode cX7_pass 99 = .ok (.aload_n 0, 1) := by decide +kernel
theorem dX7_pass_100 : decode cX7_pass 100 = .ok (.iload_n 3, 1) := by decide +kernel
theorem dX7_pass_101 : decode cX7_pass 101 = .ok (.invokevirtual 211, 3) := by decide +kernel
theorem dX7_pass_104 : decode cX7_pass 104 = .ok (.istore 4, 2) := by decide +kernel
theorem dX7_pass_106 : decode cX7_pass 106 = .ok (.aload_n 0, 1) := by decide +kernel
theorem dX7_pass_107 : decode cX7_pass 107 = .ok (.iload 4, 2) := by decide +kernel
theorem dX7_pass_109 : decode cX7_pass 109 = .ok (.invokevirtual 214, 3) := by decide +kernel
theorem dX7_pass_112 : decode cX7_pass 112 = .ok (.istore 5, 2) := by decide +kernel
theorem dX7_pass_114 : decode cX7_pass 114 = .ok (.iload_n 2, 1) := by decide +kernel
theorem dX7_pass_115 : decode cX7_pass 115 = .ok (.iload 4, 2) := by decide +kernel
theorem dX7_pass_117 : decode cX7_pass 117 = .ok (.ior, 1) := by decide +kernel
theorem dX7_pass_118 : decode cX7_pass 118 = .ok (.istore_n 2, 1) := by decide +kernel
theorem dX7_pass_119 : decode cX7_pass 119 = .ok (.iload 5, 2) := by decide +kernel
theorem dX7_pass_121 : decode cX7_pass 121 = .ok (.iconst 1, 1) := by decide +kernel
theorem dX7_pass_122 : decode cX7_pass 122 = .ok (.if_icmp .ne 10, 3) := by decide +kernel
theorem dX7_pass_125 : decode cX7_pass 125 = .ok (.iload_n 1, 1) := by decide +kernel
theorem dX7_pass_126 : decode cX7_pass 126 = .ok (.iload 4, 2) := by decide +kernel
theorem dX7_pass_128 : decode cX7_pass 128 = .ok (.ior, 1) := by decide +kernel
theorem dX7_pass_129 : decode cX7_pass 129 = .ok (.goto 18, 3) := by decide +kernel
theorem dX7_pass_132 : decode cX7_pass 132 = .ok (.iload 5, 2) := by decide +kernel
theorem dX7_pass_134 : decode cX7_pass 134 = .ok (.ifCond .ne 12, 3) := by decide +kernel
theorem dX7_pass_137 : decode cX7_pass 137 = .ok (.iload_n 1, 1) := by decide +kernel
theorem dX7_pass_138 : decode cX7_pass 138 = .ok (.iload 4, 2) := by decide +kernel
theorem dX7_pass_140 : decode cX7_pass 140 = .ok (.iconst (-1), 1) := by decide +kernel
theorem dX7_pass_141 : decode cX7_pass 141 = .ok (.ixor, 1) := by decide +kernel
theorem dX7_pass_142 : decode cX7_pass 142 = .ok (.iand, 1) := by decide +kernel
theorem dX7_pass_143 : decode cX7_pass 143 = .ok (.goto 4, 3) := by decide +kernel
theorem dX7_pass_146 : decode cX7_pass 146 = .ok (.iload_n 1, 1) := by decide +kernel
theorem dX7_pass_147 : decode cX7_pass 147 = .ok (.istore_n 1, 1) := by decide +kernel
theorem dX7_pass_148 : decode cX7_pass 148 = .ok (.iinc 3 1, 3) := by decide +kernel
theorem dX7_pass_151 : decode cX7_pass 151 = .ok (.goto (-68), 3) := by decide +kernel
theorem dX7_pass_154 : decode cX7_pass 154 = .ok (.aload_n 0, 1) := by decide +kernel
theorem dX7_pass_155 : decode cX7_pass 155 = .ok (.getfield 23, 3) := by decide +kernel
theorem dX7_pass_158 : decode cX7_pass 158 = .ok (.bipush 120, 2) := by decide +kernel
theorem dX7_pass_160 : decode cX7_pass 160 = .ok (.iload_n 1, 1) := by decide +kernel
theorem dX7_pass_161 : decode cX7_pass 161 = .ok (.iastore, 1) := by decide +kernel
theorem dX7_pass_162 : decode cX7_pass 162 = .ok (.aload_n 0, 1) := by decide +kernel
theorem dX7_pass_163 : decode cX7_pass 163 = .ok (.getfield 23, 3) := by decide +kernel
theorem dX7_pass_166 : decode cX7_pass 166 = .ok (.bipush 121, 2) := by decide +kernel
theorem dX7_pass_168 : decode cX7_pass 168 = .ok (.dup2, 1) := by decide +kernel
theorem dX7_pass_169 : decode cX7_pass 169 = .ok (.iaload, 1) := by decide +kernel
theorem dX7_pass_170 : decode cX7_pass 170 = .ok (.iconst 1, 1) := by decide +kernel
theorem dX7_pass_171 : decode cX7_pass 171 = .ok (.iadd, 1) := by decide +kernel
theorem dX7_pass_172 : decode cX7_pass 172 = .ok (.iastore, 1) := by decide +kernel
theorem dX7_pass_173 : decode cX7_pass 173 = .ok (.return_, 1) := by decide +kernel
set_option maxRecDepth 20000 in
theorem ggX7_yearsRefused_X7_in : GoodIn wsX7_yearsRefused wsX7_in := goodIn_r _ [10] (by decide +kernel) (by decide +kernel)
set_option maxRecDepth 20000 in
theorem gX7_yearsRefused_X7_in : GoodIn wsX7_yearsRefused (va_wsS RX7 87 yX7_in wsX7_in) := goodIn_app (goodIn_of _ (by decide +kernel)) ggX7_yearsRefused_X7_in
theorem dX7_yearsRefused_0 : decode cX7_yearsRefused 0 = .ok (.iload_n 1, 1) := by decide +kernel
theorem dX7_yearsRefused_1 : decode cX7_yearsRefused 1 = .ok (.i2l, 1) := by decide +kernel
theorem dX7_yearsRefused_2 : decode cX7_yearsRefused 2 = .ok (.lconst 1, 1) := by decide +kernel
theorem dX7_yearsRefused_3 : decode cX7_yearsRefused 3 = .ok (.ldc2_w 234, 3) := by decide +kernel
theorem dX7_yearsRefused_6 : decode cX7_yearsRefused 6 = .ok (.invokestatic 87, 3) := by decide +kernel
theorem dX7_yearsRefused_9 : decode cX7_yearsRefused 9 = .ok (.ifCond .ne 6, 3) := by decide +kernel
theorem dX7_yearsRefused_12 : decode cX7_yearsRefused 12 = .ok (.ldc 96, 2) := by decide +kernel
theorem dX7_yearsRefused_14 : decode cX7_yearsRefused 14 = .ok (.ireturn, 1) := by decide +kernel
theorem dX7_yearsRefused_15 : decode cX7_yearsRefused 15 = .ok (.aload_n 0, 1) := by decide +kernel
theorem dX7_yearsRefused_16 : decode cX7_yearsRefused 16 = .ok (.getfield 84, 3) := by decide +kernel
theorem dX7_yearsRefused_19 : decode cX7_yearsRefused 19 = .ok (.ifCond .ne 8, 3) := by decide +kernel
theorem dX7_yearsRefused_22 : decode cX7_yearsRefused 22 = .ok (.ldc 226, 2) := by decide +kernel
theorem dX7_yearsRefused_24 : decode cX7_yearsRefused 24 = .ok (.goto 22, 3) := by decide +kernel
theorem dX7_yearsRefused_27 : decode cX7_yearsRefused 27 = .ok (.aload_n 0, 1) := by decide +kernel
theorem dX7_yearsRefused_28 : decode cX7_yearsRefused 28 = .ok (.getfield 23, 3) := by decide +kernel
theorem dX7_yearsRefused_31 : decode cX7_yearsRefused 31 = .ok (.bipush 121, 2) := by decide +kernel
theorem dX7_yearsRefused_33 : decode cX7_yearsRefused 33 = .ok (.iaload, 1) := by decide +kernel
theorem dX7_yearsRefused_34 : decode cX7_yearsRefused 34 = .ok (.sipush 9000, 3) := by decide +kernel
theorem dX7_yearsRefused_37 : decode cX7_yearsRefused 37 = .ok (.if_icmp .le 8, 3) := by decide +kernel
theorem dX7_yearsRefused_40 : decode cX7_yearsRefused 40 = .ok (.ldc 100, 2) := by decide +kernel
theorem dX7_yearsRefused_42 : decode cX7_yearsRefused 42 = .ok (.goto 4, 3) := by decide +kernel
theorem dX7_yearsRefused_45 : decode cX7_yearsRefused 45 = .ok (.iconst 0, 1) := by decide +kernel
theorem dX7_yearsRefused_46 : decode cX7_yearsRefused 46 = .ok (.ireturn, 1) := by decide +kernel
set_option maxRecDepth 20000 in
theorem ggX7_year_X7_yearsRefused : GoodIn wsX7_year wsX7_yearsRefused := goodIn_r _ [6, 7, 8, 9, 10, 1, 11, 12, 13, 5, 14, 61, 62, 63, 64, 65, 66, 67, 68, 69, 70, 71, 72, 73, 74, 75, 76, 77, 78, 79, 80, 81, 82, 83, 84, 85, 86, 87, 88, 89, 90, 91, 92, 93, 94, 95, 96, 97, 98] (by decide +kernel) (by decide +kernel)
set_option maxRecDepth 20000 in
theorem gX7_year_X7_yearsRefused : GoodIn wsX7_year (wsV RX7 236 RX7 yX7_yearsRefused wsX7_yearsRefused) := goodIn_app (goodIn_of _ (by decide +kernel)) ggX7_year_X7_yearsRefused
set_option maxRecDepth 20000 in
theorem ggX7_year_X7_remember : GoodIn wsX7_year wsX7_remember := goodIn_r _ [18, 19, 20, 1, 61, 62, 63, 64, 65, 66, 67, 68, 69, 70, 71, 72, 73, 74, 75, 76, 77, 78, 79, 80, 81, 82, 83, 84, 85, 86, 87, 88, 89, 90, 91, 92, 93, 94, 95, 96, 97, 98] (by decide +kernel) (by decide +kernel)
set_option maxRecDepth 20000 in
theorem gX7_year_X7_remember : GoodIn wsX7_year (wsV RX7 227 RX7 yX7_remember wsX7_remember) := goodIn_app (goodIn_of _ (by decide +kernel)) ggX7_year_X7_remember
set_option maxRecDepth 20000 in
theorem ggX7_year_X7_pass : GoodIn wsX7_year wsX7_pass := goodIn_r _ [24, 25, 1, 9, 26, 27, 5, 28, 29, 30, 31, 32, 33, 34, 35, 36, 37, 38, 39, 40, 41, 42, 43, 44, 45, 46, 47, 48, 49, 50, 51, 52, 53, 54, 55, 56, 57, 61, 62, 63, 64, 65, 66, 67, 68, 69, 70, 71, 72, 73, 74, 75, 76, 77, 78, 79, 80, 81, 82, 83, 84, 85, 86, 87, 88, 89, 90, 91, 92, 93, 94, 95, 96, 97, 98] (by decide +kernel) (by decide +kernel)
set_option maxRecDepth 20000 in
theorem gX7_year_X7_pass : GoodIn wsX7_year (wsV RX7 239 RX7 yX7_pass wsX7_pass) := goodIn_app (goodIn_of _ (by decide +kernel)) ggX7_year_X7_pass
set_option maxRecDepth 20000 in
theorem ggX7_year_X7_bits : GoodIn wsX7_year wsX7_bits := goodIn_r _ [60] (by decide +kernel) (by decide +kernel)
set_option maxRecDepth 20000 in
theorem gX7_year_X7_bits : GoodIn wsX7_year (va_wsS RX7 201 yX7_bits wsX7_bits) := goodIn_app (goodIn_of _ (by decide +kernel)) ggX7_year_X7_bits
theorem dX7_year_0 : decode cX7_year 0 = .ok (.aload_n 0, 1) := by decide +kernel
theorem dX7_year_1 : decode cX7_year 1 = .ok (.iload_n 1, 1) := by decide +kernel
theorem dX7_year_2 : decode cX7_year 2 = .ok (.invokevirtual 236, 3) := by decide +kernel
theorem dX7_year_5 : decode cX7_year 5 = .ok (.istore_n 2, 1) := by decide +kernel
theorem dX7_year_6 : decode cX7_year 6 = .ok (.iload_n 2, 1) := by decide +kernel
theorem dX7_year_7 : decode cX7_year 7 = .ok (.ifCond .eq 5, 3) := by decide +kernel
theorem dX7_year_10 : decode cX7_year 10 = .ok (.iload_n 2, 1) := by decide +kernel
theorem dX7_year_11 : decode cX7_year 11 = .ok (.ireturn, 1) := by decide +kernel
theorem dX7_year_12 : decode cX7_year 12 = .ok (.aload_n 0, 1) := by decide +kernel
theorem dX7_year_13 : decode cX7_year 13 = .ok (.invokevirtual 227, 3) := by decide +kernel
theorem dX7_year_16 : decode cX7_year 16 = .ok (.iconst 0, 1) := by decide +kernel
theorem dX7_year_17 : decode cX7_year 17 = .ok (.istore_n 3, 1) := by decide +kernel
theorem dX7_year_18 : decode cX7_year 18 = .ok (.iload_n 3, 1) := by decide +kernel
theorem dX7_year_19 : decode cX7_year 19 = .ok (.iload_n 1, 1) := by decide +kernel
theorem dX7_year_20 : decode cX7_year 20 = .ok (.if_icmp .ge 13, 3) := by decide +kernel
theorem dX7_year_23 : decode cX7_year 23 = .ok (.aload_n 0, 1) := by decide +kernel
theorem dX7_year_24 : decode cX7_year 24 = .ok (.invokevirtual 239, 3) := by decide +kernel
theorem dX7_year_27 : decode cX7_year 27 = .ok (.iinc 3 1, 3) := by decide +kernel
theorem dX7_year_30 : decode cX7_year 30 = .ok (.goto (-12), 3) := by decide +kernel
theorem dX7_year_33 : decode cX7_year 33 = .ok (.aload_n 0, 1) := by decide +kernel
theorem dX7_year_34 : decode cX7_year 34 = .ok (.getfield 23, 3) := by decide +kernel
theorem dX7_year_37 : decode cX7_year 37 = .ok (.bipush 120, 2) := by decide +kernel
theorem dX7_year_39 : decode cX7_year 39 = .ok (.iaload, 1) := by decide +kernel
theorem dX7_year_40 : decode cX7_year 40 = .ok (.invokestatic 201, 3) := by decide +kernel
theorem dX7_year_43 : decode cX7_year 43 = .ok (.ireturn, 1) := by decide +kernel
theorem dX7_draw_0 : decode cX7_draw 0 = .ok (.aload_n 0, 1) := by decide +kernel
theorem dX7_draw_1 : decode cX7_draw 1 = .ok (.aload_n 0, 1) := by decide +kernel
theorem dX7_draw_2 : decode cX7_draw 2 = .ok (.getfield 242, 3) := by decide +kernel
theorem dX7_draw_5 : decode cX7_draw 5 = .ok (.i2l, 1) := by decide +kernel
theorem dX7_draw_6 : decode cX7_draw 6 = .ok (.ldc2_w 245, 3) := by decide +kernel
theorem dX7_draw_9 : decode cX7_draw 9 = .ok (.lmul, 1) := by decide +kernel
theorem dX7_draw_10 : decode cX7_draw 10 = .ok (.ldc2_w 247, 3) := by decide +kernel
theorem dX7_draw_13 : decode cX7_draw 13 = .ok (.ladd, 1) := by decide +kernel
theorem dX7_draw_14 : decode cX7_draw 14 = .ok (.ldc2_w 249, 3) := by decide +kernel
theorem dX7_draw_17 : decode cX7_draw 17 = .ok (.lrem, 1) := by decide +kernel
theorem dX7_draw_18 : decode cX7_draw 18 = .ok (.l2i, 1) := by decide +kernel
theorem dX7_draw_19 : decode cX7_draw 19 = .ok (.putfield 242, 3) := by decide +kernel
theorem dX7_draw_22 : decode cX7_draw 22 = .ok (.aload_n 0, 1) := by decide +kernel
theorem dX7_draw_23 : decode cX7_draw 23 = .ok (.getfield 242, 3) := by decide +kernel
theorem dX7_draw_26 : decode cX7_draw 26 = .ok (.ldc 251, 2) := by decide +kernel
theorem dX7_draw_28 : decode cX7_draw 28 = .ok (.idiv, 1) := by decide +kernel
theorem dX7_draw_29 : decode cX7_draw 29 = .ok (.iload_n 1, 1) := by decide +kernel
theorem dX7_draw_30 : decode cX7_draw 30 = .ok (.irem, 1) := by decide +kernel
theorem dX7_draw_31 : decode cX7_draw 31 = .ok (.ireturn, 1) := by decide +kernel
set_option maxRecDepth 20000 in
theorem ggX7_drift_X7_yearsRefused : GoodIn wsX7_drift wsX7_yearsRefused := goodIn_r _ [7, 8, 9, 10, 11, 2, 12, 13, 14, 6, 15, 79, 80, 81, 82, 83, 84, 85, 86, 87, 88, 89, 90, 91, 92, 93, 94, 95, 96, 97, 98, 99, 100, 101, 102, 103, 104, 105, 106, 107, 108, 109, 110, 111, 112, 113, 114, 115, 116] (by decide +kernel) (by decide +kernel)
set_option maxRecDepth 20000 in
theorem gX7_drift_X7_yearsRefused : GoodIn wsX7_drift (wsV RX7 236 RX7 yX7_yearsRefused wsX7_yearsRefused) := goodIn_app (goodIn_of _ (by decide +kernel)) ggX7_drift_X7_yearsRefused
set_option maxRecDepth 20000 in
theorem ggX7_drift_X7_remember : GoodIn wsX7_drift wsX7_remember := goodIn_r _ [19, 20, 21, 2, 79, 80, 81, 82, 83, 84, 85, 86, 87, 88, 89, 90, 91, 92, 93, 94, 95, 96, 97, 98, 99, 100, 101, 102, 103, 104, 105, 106, 107, 108, 109, 110, 111, 112, 113, 114, 115, 116] (by decide +kernel) (by decide +kernel)
set_option maxRecDepth 20000 in
theorem gX7_drift_X7_remember : GoodIn wsX7_drift (wsV RX7 227 RX7 yX7_remember wsX7_remember) := goodIn_app (goodIn_of _ (by decide +kernel)) ggX7_drift_X7_remember
set_option maxRecDepth 20000 in
theorem ggX7_drift_X7_draw : GoodIn wsX7_drift wsX7_draw := goodIn_r _ [25, 26, 27, 28, 29, 30, 79, 80, 81, 82, 83, 84, 85, 86, 87, 88, 89, 90, 91, 92, 93, 94, 95, 96, 97, 98, 99, 100, 101, 102, 103, 104, 105, 106, 107, 108, 109, 110, 111, 112, 113, 114, 115, 116] (by decide +kernel) (by decide +kernel)
set_option maxRecDepth 20000 in
theorem gX7_drift_X7_draw : GoodIn wsX7_drift (wsV RX7 252 RX7 yX7_draw wsX7_draw) := goodIn_app (goodIn_of _ (by decide +kernel)) ggX7_drift_X7_draw
set_option maxRecDepth 20000 in
theorem ggX7_drift_X7_mayPlant : GoodIn wsX7_drift wsX7_mayPlant := goodIn_r _ [34, 2, 35, 79, 80, 81, 82, 83, 84, 85, 86, 87, 88, 89, 90, 91, 92, 93, 94, 95, 96, 97, 98, 99, 100, 101, 102, 103, 104, 105, 106, 107, 108, 109, 110, 111, 112, 113, 114, 115, 116] (by decide +kernel) (by decide +kernel)
set_option maxRecDepth 20000 in
theorem gX7_drift_X7_mayPlant : GoodIn wsX7_drift (wsV RX7 223 RX7 yX7_mayPlant wsX7_mayPlant) := goodIn_app (goodIn_of _ (by decide +kernel)) ggX7_drift_X7_mayPlant
set_option maxRecDepth 20000 in
theorem ggX7_drift_X7_plantNow : GoodIn wsX7_drift wsX7_plantNow := goodIn_r _ [39, 2, 79, 80, 81, 82, 83, 84, 85, 86, 87, 88, 89, 90, 91, 92, 93, 94, 95, 96, 97, 98, 99, 100, 101, 102, 103, 104, 105, 106, 107, 108, 109, 110, 111, 112, 113, 114, 115, 116] (by decide +kernel) (by decide +kernel)
set_option maxRecDepth 20000 in
theorem gX7_drift_X7_plantNow : GoodIn wsX7_drift (wsV RX7 230 RX7 yX7_plantNow wsX7_plantNow) := goodIn_app (goodIn_of _ (by decide +kernel)) ggX7_drift_X7_plantNow
set_option maxRecDepth 20000 in
theorem ggX7_drift_X7_pass : GoodIn wsX7_drift wsX7_pass := goodIn_r _ [43, 1, 2, 10, 44, 45, 6, 46, 47, 48, 49, 50, 51, 52, 53, 54, 55, 56, 57, 58, 59, 60, 61, 62, 63, 64, 65, 66, 67, 68, 69, 70, 71, 72, 73, 74, 75, 79, 80, 81, 82, 83, 84, 85, 86, 87, 88, 89, 90, 91, 92, 93, 94, 95, 96, 97, 98, 99, 100, 101, 102, 103, 104, 105, 106, 107, 108, 109, 110, 111, 112, 113, 114, 115, 116] (by decide +kernel) (by decide +kernel)
set_option maxRecDepth 20000 in
theorem gX7_drift_X7_pass : GoodIn wsX7_drift (wsV RX7 239 RX7 yX7_pass wsX7_pass) := goodIn_app (goodIn_of _ (by decide +kernel)) ggX7_drift_X7_pass
set_option maxRecDepth 20000 in
theorem ggX7_drift_X7_bits : GoodIn wsX7_drift wsX7_bits := goodIn_r _ [78] (by decide +kernel) (by decide +kernel)
set_option maxRecDepth 20000 in
theorem gX7_drift_X7_bits : GoodIn wsX7_drift (va_wsS RX7 201 yX7_bits wsX7_bits) := goodIn_app (goodIn_of _ (by decide +kernel)) ggX7_drift_X7_bits
theorem dX7_drift_0 : decode cX7_drift 0 = .ok (.aload_n 0, 1) := by decide +kernel
theorem dX7_drift_1 : decode cX7_drift 1 = .ok (.iload_n 1, 1) := by decide +kernel
theorem dX7_drift_2 : decode cX7_drift 2 = .ok (.invokevirtual 236, 3) := by decide +kernel
theorem dX7_drift_5 : decode cX7_drift 5 = .ok (.istore_n 2, 1) := by decide +kernel
theorem dX7_drift_6 : decode cX7_drift 6 = .ok (.iload_n 2, 1) := by decide +kernel
theorem dX7_drift_7 : decode cX7_drift 7 = .ok (.ifCond .eq 5, 3) := by decide +kernel
theorem dX7_drift_10 : decode cX7_drift 10 = .ok (.iload_n 2, 1) := by decide +kernel
theorem dX7_drift_11 : decode cX7_drift 11 = .ok (.ireturn, 1) := by decide +kernel
theorem dX7_drift_12 : decode cX7_drift 12 = .ok (.aload_n 0, 1) := by decide +kernel
theorem dX7_drift_13 : decode cX7_drift 13 = .ok (.invokevirtual 227, 3) := by decide +kernel
theorem dX7_drift_16 : decode cX7_drift 16 = .ok (.iconst 0, 1) := by decide +kernel
theorem dX7_drift_17 : decode cX7_drift 17 = .ok (.istore_n 3, 1) := by decide +kernel
theorem dX7_drift_18 : decode cX7_drift 18 = .ok (.iload_n 3, 1) := by decide +kernel
theorem dX7_drift_19 : decode cX7_drift 19 = .ok (.iload_n 1, 1) := by decide +kernel
theorem dX7_drift_20 : decode cX7_drift 20 = .ok (.if_icmp .ge 47, 3) := by decide +kernel
theorem dX7_drift_23 : decode cX7_drift 23 = .ok (.aload_n 0, 1) := by decide +kernel
theorem dX7_drift_24 : decode cX7_drift 24 = .ok (.aload_n 0, 1) := by decide +kernel
theorem dX7_drift_25 : decode cX7_drift 25 = .ok (.getfield 91, 3) := by decide +kernel
theorem dX7_drift_28 : decode cX7_drift 28 = .ok (.invokevirtual 252, 3) := by decide +kernel
theorem dX7_drift_31 : decode cX7_drift 31 = .ok (.istore 4, 2) := by decide +kernel
theorem dX7_drift_33 : decode cX7_drift 33 = .ok (.aload_n 0, 1) := by decide +kernel
theorem dX7_drift_34 : decode cX7_drift 34 = .ok (.iconst 2, 1) := by decide +kernel
theorem dX7_drift_35 : decode cX7_drift 35 = .ok (.invokevirtual 252, 3) := by decide +kernel
theorem dX7_drift_38 : decode cX7_drift 38 = .ok (.istore 5, 2) := by decide +kernel
theorem dX7_drift_40 : decode cX7_drift 40 = .ok (.aload_n 0, 1) := by decide +kernel
theorem dX7_drift_41 : decode cX7_drift 41 = .ok (.iload 4, 2) := by decide +kernel
theorem dX7_drift_43 : decode cX7_drift 43 = .ok (.invokevirtual 223, 3) := by decide +kernel
theorem dX7_drift_46 : decode cX7_drift 46 = .ok (.ifCond .eq 11, 3) := by decide +kernel
theorem dX7_drift_49 : decode cX7_drift 49 = .ok (.aload_n 0, 1) := by decide +kernel
theorem dX7_drift_50 : decode cX7_drift 50 = .ok (.iload 4, 2) := by decide +kernel
theorem dX7_drift_52 : decode cX7_drift 52 = .ok (.iload 5, 2) := by decide +kernel
theorem dX7_drift_54 : decode cX7_drift 54 = .ok (.invokevirtual 230, 3) := by decide +kernel
theorem dX7_drift_57 : decode cX7_drift 57 = .ok (.aload_n 0, 1) := by decide +kernel
theorem dX7_drift_58 : decode cX7_drift 58 = .ok (.invokevirtual 239, 3) := by decide +kernel
theorem dX7_drift_61 : decode cX7_drift 61 = .ok (.iinc 3 1, 3) := by decide +kernel
theorem dX7_drift_64 : decode cX7_drift 64 = .ok (.goto (-46), 3) := by decide +kernel
theorem dX7_drift_67 : decode cX7_drift 67 = .ok (.aload_n 0, 1) := by decide +kernel
theorem dX7_drift_68 : decode cX7_drift 68 = .ok (.getfield 23, 3) := by decide +kernel
theorem dX7_drift_71 : decode cX7_drift 71 = .ok (.bipush 120, 2) := by decide +kernel
theorem dX7_drift_73 : decode cX7_drift 73 = .ok (.iaload, 1) := by decide +kernel
theorem dX7_drift_74 : decode cX7_drift 74 = .ok (.invokestatic 201, 3) := by decide +kernel
theorem dX7_drift_77 : decode cX7_drift 77 = .ok (.ireturn, 1) := by decide +kernel
theorem dX7_undo_0 : decode cX7_undo 0 = .ok (.aload_n 0, 1) := by decide +kernel
theorem dX7_undo_1 : decode cX7_undo 1 = .ok (.getfield 181, 3) := by decide +kernel
theorem dX7_undo_4 : decode cX7_undo 4 = .ok (.ifCond .ne 6, 3) := by decide +kernel
theorem dX7_undo_7 : decode cX7_undo 7 = .ok (.ldc 226, 2) := by decide +kernel
theorem dX7_undo_9 : decode cX7_undo 9 = .ok (.ireturn, 1) := by decide +kernel
theorem dX7_undo_10 : decode cX7_undo 10 = .ok (.aload_n 0, 1) := by decide +kernel
theorem dX7_undo_11 : decode cX7_undo 11 = .ok (.dup, 1) := by decide +kernel
theorem dX7_undo_12 : decode cX7_undo 12 = .ok (.getfield 181, 3) := by decide +kernel
theorem dX7_undo_15 : decode cX7_undo 15 = .ok (.iconst 1, 1) := by decide +kernel
theorem dX7_undo_16 : decode cX7_undo 16 = .ok (.isub, 1) := by decide +kernel
theorem dX7_undo_17 : decode cX7_undo 17 = .ok (.putfield 181, 3) := by decide +kernel
theorem dX7_undo_20 : decode cX7_undo 20 = .ok (.iconst 0, 1) := by decide +kernel
theorem dX7_undo_21 : decode cX7_undo 21 = .ok (.istore_n 1, 1) := by decide +kernel
theorem dX7_undo_22 : decode cX7_undo 22 = .ok (.iload_n 1, 1) := by decide +kernel
theorem dX7_undo_23 : decode cX7_undo 23 = .ok (.bipush 122, 2) := by decide +kernel
theorem dX7_undo_25 : decode cX7_undo 25 = .ok (.if_icmp .ge 29, 3) := by decide +kernel
theorem dX7_undo_28 : decode cX7_undo 28 = .ok (.aload_n 0, 1) := by decide +kernel
theorem dX7_undo_29 : decode cX7_undo 29 = .ok (.getfield 23, 3) := by decide +kernel
theorem dX7_undo_32 : decode cX7_undo 32 = .ok (.iload_n 1, 1) := by decide +kernel
theorem dX7_undo_33 : decode cX7_undo 33 = .ok (.aload_n 0, 1) := by decide +kernel
theorem dX7_undo_34 : decode cX7_undo 34 = .ok (.getfield 48, 3) := by decide +kernel
theorem dX7_undo_37 : decode cX7_undo 37 = .ok (.bipush 122, 2) := by decide +kernel
theorem dX7_undo_39 : decode cX7_undo 39 = .ok (.aload_n 0, 1) := by decide +kernel
theorem dX7_undo_40 : decode cX7_undo 40 = .ok (.getfield 181, 3) := by decide +kernel
theorem dX7_undo_43 : decode cX7_undo 43 = .ok (.imul, 1) := by decide +kernel
theorem dX7_undo_44 : decode cX7_undo 44 = .ok (.iload_n 1, 1) := by decide +kernel
theorem dX7_undo_45 : decode cX7_undo 45 = .ok (.iadd, 1) := by decide +kernel
theorem dX7_undo_46 : decode cX7_undo 46 = .ok (.iaload, 1) := by decide +kernel
theorem dX7_undo_47 : decode cX7_undo 47 = .ok (.iastore, 1) := by decide +kernel
theorem dX7_undo_48 : decode cX7_undo 48 = .ok (.iinc 1 1, 3) := by decide +kernel
theorem dX7_undo_51 : decode cX7_undo 51 = .ok (.goto (-29), 3) := by decide +kernel
theorem dX7_undo_54 : decode cX7_undo 54 = .ok (.aload_n 0, 1) := by decide +kernel
theorem dX7_undo_55 : decode cX7_undo 55 = .ok (.getfield 181, 3) := by decide +kernel
theorem dX7_undo_58 : decode cX7_undo 58 = .ok (.ireturn, 1) := by decide +kernel
set_option maxRecDepth 20000 in
theorem ggX7_findRoom_X7_heightBy : GoodIn wsX7_findRoom wsX7_heightBy := goodIn_r _ [9, 10, 11, 12, 8, 13, 14, 15, 16, 22, 23, 24, 25, 26, 27, 28, 29, 30, 31, 32, 33, 34, 35, 36, 37, 38, 39, 40, 41, 42, 43, 44, 45, 46, 47, 48, 49, 50, 51, 52, 53, 54, 55, 56, 57, 58, 59] (by decide +kernel) (by decide +kernel)
set_option maxRecDepth 20000 in
theorem gX7_findRoom_X7_heightBy : GoodIn wsX7_findRoom (wsV RX7 188 RX7 yX7_heightBy wsX7_heightBy) := goodIn_app (goodIn_of _ (by decide +kernel)) ggX7_findRoom_X7_heightBy
set_option maxRecDepth 20000 in
theorem ggX7_findRoom_X7_mayPlant : GoodIn wsX7_findRoom wsX7_mayPlant := goodIn_r _ [20, 2, 21, 22, 23, 24, 25, 26, 27, 28, 29, 30, 31, 32, 33, 34, 35, 36, 37, 38, 39, 40, 41, 42, 43, 44, 45, 46, 47, 48, 49, 50, 51, 52, 53, 54, 55, 56, 57, 58, 59] (by decide +kernel) (by decide +kernel)
set_option maxRecDepth 20000 in
theorem gX7_findRoom_X7_mayPlant : GoodIn wsX7_findRoom (wsV RX7 223 RX7 yX7_mayPlant wsX7_mayPlant) := goodIn_app (goodIn_of _ (by decide +kernel)) ggX7_findRoom_X7_mayPlant
theorem dX7_findRoom_0 : decode cX7_findRoom 0 = .ok (.iconst 0, 1) := by decide +kernel
theorem dX7_findRoom_1 : decode cX7_findRoom 1 = .ok (.istore_n 3, 1) := by decide +kernel
theorem dX7_findRoom_2 : decode cX7_findRoom 2 = .ok (.iload_n 3, 1) := by decide +kernel
theorem dX7_findRoom_3 : decode cX7_findRoom 3 = .ok (.aload_n 0, 1) := by decide +kernel
theorem dX7_findRoom_4 : decode cX7_findRoom 4 = .ok (.getfield 91, 3) := by decide +kernel
theorem dX7_findRoom_7 : decode cX7_findRoom 7 = .ok (.if_icmp .ge 119, 3) := by decide +kernel
theorem dX7_findRoom_10 : decode cX7_findRoom 10 = .ok (.aload_n 0, 1) := by decide +kernel
theorem dX7_findRoom_11 : decode cX7_findRoom 11 = .ok (.getfield 23, 3) := by decide +kernel
theorem dX7_findRoom_14 : decode cX7_findRoom 14 = .ok (.iload_n 3, 1) := by decide +kernel
theorem dX7_findRoom_15 : decode cX7_findRoom 15 = .ok (.iaload, 1) := by decide +kernel
theorem dX7_findRoom_16 : decode cX7_findRoom 16 = .ok (.iload_n 1, 1) := by decide +kernel
theorem dX7_findRoom_17 : decode cX7_findRoom 17 = .ok (.if_icmp .ne 40, 3) := by decide +kernel
theorem dX7_findRoom_20 : decode cX7_findRoom 20 = .ok (.aload_n 0, 1) := by decide +kernel
theorem dX7_findRoom_21 : decode cX7_findRoom 21 = .ok (.getfield 23, 3) := by decide +kernel
theorem dX7_findRoom_24 : decode cX7_findRoom 24 = .ok (.bipush 80, 2) := by decide +kernel
theorem dX7_findRoom_26 : decode cX7_findRoom 26 = .ok (.iload_n 3, 1) := by decide +kernel
theorem dX7_findRoom_27 : decode cX7_findRoom 27 = .ok (.iadd, 1) := by decide +kernel
theorem dX7_findRoom_28 : decode cX7_findRoom 28 = .ok (.iaload, 1) := by decide +kernel
theorem dX7_findRoom_29 : decode cX7_findRoom 29 = .ok (.ifCond .ne 28, 3) := by decide +kernel
theorem dX7_findRoom_32 : decode cX7_findRoom 32 = .ok (.aload_n 0, 1) := by decide +kernel
theorem dX7_findRoom_33 : decode cX7_findRoom 33 = .ok (.iload_n 3, 1) := by decide +kernel
theorem dX7_findRoom_34 : decode cX7_findRoom 34 = .ok (.aload_n 0, 1) := by decide +kernel
theorem dX7_findRoom_35 : decode cX7_findRoom 35 = .ok (.getfield 23, 3) := by decide +kernel
theorem dX7_findRoom_38 : decode cX7_findRoom 38 = .ok (.bipush 40, 2) := by decide +kernel
theorem dX7_findRoom_40 : decode cX7_findRoom 40 = .ok (.iload_n 3, 1) := by decide +kernel
theorem dX7_findRoom_41 : decode cX7_findRoom 41 = .ok (.iadd, 1) := by decide +kernel
theorem dX7_findRoom_42 : decode cX7_findRoom 42 = .ok (.iaload, 1) := by decide +kernel
theorem dX7_findRoom_43 : decode cX7_findRoom 43 = .ok (.iload_n 2, 1) := by decide +kernel
theorem dX7_findRoom_44 : decode cX7_findRoom 44 = .ok (.iadd, 1) := by decide +kernel
theorem dX7_findRoom_45 : decode cX7_findRoom 45 = .ok (.invokevirtual 188, 3) := by decide +kernel
theorem dX7_findRoom_48 : decode cX7_findRoom 48 = .ok (.bipush 12, 2) := by decide +kernel
theorem dX7_findRoom_50 : decode cX7_findRoom 50 = .ok (.if_icmp .lt 7, 3) := by decide +kernel
theorem dX7_findRoom_53 : decode cX7_findRoom 53 = .ok (.iconst 1, 1) := by decide +kernel
theorem dX7_findRoom_54 : decode cX7_findRoom 54 = .ok (.goto 4, 3) := by decide +kernel
theorem dX7_findRoom_57 : decode cX7_findRoom 57 = .ok (.iconst 0, 1) := by decide +kernel
theorem dX7_findRoom_58 : decode cX7_findRoom 58 = .ok (.istore 4, 2) := by decide +kernel
theorem dX7_findRoom_60 : decode cX7_findRoom 60 = .ok (.aload_n 0, 1) := by decide +kernel
theorem dX7_findRoom_61 : decode cX7_findRoom 61 = .ok (.iload_n 3, 1) := by decide +kernel
theorem dX7_findRoom_62 : decode cX7_findRoom 62 = .ok (.invokevirtual 223, 3) := by decide +kernel
theorem dX7_findRoom_65 : decode cX7_findRoom 65 = .ok (.ifCond .eq 18, 3) := by decide +kernel
theorem dX7_findRoom_68 : decode cX7_findRoom 68 = .ok (.aload_n 0, 1) := by decide +kernel
theorem dX7_findRoom_69 : decode cX7_findRoom 69 = .ok (.iload_n 3, 1) := by decide +kernel
theorem dX7_findRoom_70 : decode cX7_findRoom 70 = .ok (.iload_n 2, 1) := by decide +kernel
theorem dX7_findRoom_71 : decode cX7_findRoom 71 = .ok (.invokevirtual 188, 3) := by decide +kernel
theorem dX7_findRoom_74 : decode cX7_findRoom 74 = .ok (.bipush 12, 2) := by decide +kernel
theorem dX7_findRoom_76 : decode cX7_findRoom 76 = .ok (.if_icmp .lt 7, 3) := by decide +kernel
theorem dX7_findRoom_79 : decode cX7_findRoom 79 = .ok (.iconst 1, 1) := by decide +kernel
theorem dX7_findRoom_80 : decode cX7_findRoom 80 = .ok (.goto 4, 3) := by decide +kernel
theorem dX7_findRoom_83 : decode cX7_findRoom 83 = .ok (.iconst 0, 1) := by decide +kernel
theorem dX7_findRoom_84 : decode cX7_findRoom 84 = .ok (.istore 5, 2) := by decide +kernel
theorem dX7_findRoom_86 : decode cX7_findRoom 86 = .ok (.aload_n 0, 1) := by decide +kernel
theorem dX7_findRoom_87 : decode cX7_findRoom 87 = .ok (.getfield 51, 3) := by decide +kernel
theorem dX7_findRoom_90 : decode cX7_findRoom 90 = .ok (.iload_n 3, 1) := by decide +kernel
theorem dX7_findRoom_91 : decode cX7_findRoom 91 = .ok (.iload 4, 2) := by decide +kernel
theorem dX7_findRoom_93 : decode cX7_findRoom 93 = .ok (.ifCond .eq 7, 3) := by decide +kernel
theorem dX7_findRoom_96 : decode cX7_findRoom 96 = .ok (.iconst 0, 1) := by decide +kernel
theorem dX7_findRoom_97 : decode cX7_findRoom 97 = .ok (.goto 15, 3) := by decide +kernel
theorem dX7_findRoom_100 : decode cX7_findRoom 100 = .ok (.iload 5, 2) := by decide +kernel
theorem dX7_findRoom_102 : decode cX7_findRoom 102 = .ok (.ifCond .eq 7, 3) := by decide +kernel
theorem dX7_findRoom_105 : decode cX7_findRoom 105 = .ok (.iconst 1, 1) := by decide +kernel
theorem dX7_findRoom_106 : decode cX7_findRoom 106 = .ok (.goto 6, 3) := by decide +kernel
theorem dX7_findRoom_109 : decode cX7_findRoom 109 = .ok (.sipush 1000, 3) := by decide +kernel
theorem dX7_findRoom_112 : decode cX7_findRoom 112 = .ok (.iastore, 1) := by decide +kernel
theorem dX7_findRoom_113 : decode cX7_findRoom 113 = .ok (.aload_n 0, 1) := by decide +kernel
theorem dX7_findRoom_114 : decode cX7_findRoom 114 = .ok (.getfield 54, 3) := by decide +kernel
theorem dX7_findRoom_117 : decode cX7_findRoom 117 = .ok (.iload_n 3, 1) := by decide +kernel
theorem dX7_findRoom_118 : decode cX7_findRoom 118 = .ok (.iconst 0, 1) := by decide +kernel
theorem dX7_findRoom_119 : decode cX7_findRoom 119 = .ok (.iastore, 1) := by decide +kernel
theorem dX7_findRoom_120 : decode cX7_findRoom 120 = .ok (.iinc 3 1, 3) := by decide +kernel
theorem dX7_findRoom_123 : decode cX7_findRoom 123 = .ok (.goto (-121), 3) := by decide +kernel
theorem dX7_findRoom_126 : decode cX7_findRoom 126 = .ok (.return_, 1) := by decide +kernel
set_option maxRecDepth 20000 in
theorem ggX7_search_X7_has : GoodIn wsX7_search wsX7_has := goodIn_r _ [12] (by decide +kernel) (by decide +kernel)
set_option maxRecDepth 20000 in
theorem gX7_search_X7_has : GoodIn wsX7_search (va_wsS RX7 135 yX7_has wsX7_has) := goodIn_app (goodIn_of _ (by decide +kernel)) ggX7_search_X7_has
set_option maxRecDepth 20000 in
theorem ggX7_search_X7_isRim : GoodIn wsX7_search wsX7_isRim := goodIn_r _ [16, 17, 18, 19, 20, 21, 22, 23, 24, 25, 26, 27, 28, 29, 30, 31, 32, 33, 34, 35, 36, 37, 38, 39, 40, 41, 42, 43, 44, 45, 46, 47, 48, 49, 50, 51, 52, 53, 54, 55, 56] (by decide +kernel) (by decide +kernel)
set_option maxRecDepth 20000 in
theorem gX7_search_X7_isRim : GoodIn wsX7_search (wsV RX7 195 RX7 yX7_isRim wsX7_isRim) := goodIn_app (goodIn_of _ (by decide +kernel)) ggX7_search_X7_isRim
theorem dX7_search_0 : decode cX7_search 0 = .ok (.aload_n 0, 1) := by decide +kernel
theorem dX7_search_1 : decode cX7_search 1 = .ok (.iconst 1, 1) := by decide +kernel
theorem dX7_search_2 : decode cX7_search 2 = .ok (.iload_n 1, 1) := by decide +kernel
theorem dX7_search_3 : decode cX7_search 3 = .ok (.ishl, 1) := by decide +kernel
theorem dX7_search_4 : decode cX7_search 4 = .ok (.putfield 255, 3) := by decide +kernel
theorem dX7_search_7 : decode cX7_search 7 = .ok (.iconst 1, 1) := by decide +kernel
theorem dX7_search_8 : decode cX7_search 8 = .ok (.istore_n 2, 1) := by decide +kernel
theorem dX7_search_9 : decode cX7_search 9 = .ok (.iload_n 2, 1) := by decide +kernel
theorem dX7_search_10 : decode cX7_search 10 = .ok (.ifCond .eq 168, 3) := by decide +kernel
theorem dX7_search_13 : decode cX7_search 13 = .ok (.iconst 0, 1) := by decide +kernel
theorem dX7_search_14 : decode cX7_search 14 = .ok (.istore_n 2, 1) := by decide +kernel
theorem dX7_search_15 : decode cX7_search 15 = .ok (.iconst 0, 1) := by decide +kernel
theorem dX7_search_16 : decode cX7_search 16 = .ok (.istore_n 3, 1) := by decide +kernel
theorem dX7_search_17 : decode cX7_search 17 = .ok (.iload_n 3, 1) := by decide +kernel
theorem dX7_search_18 : decode cX7_search 18 = .ok (.aload_n 0, 1) := by decide +kernel
theorem dX7_search_19 : decode cX7_search 19 = .ok (.getfield 91, 3) := by decide +kernel
theorem dX7_search_22 : decode cX7_search 22 = .ok (.if_icmp .ge 153, 3) := by decide +kernel
theorem dX7_search_25 : decode cX7_search 25 = .ok (.aload_n 0, 1) := by decide +kernel
theorem dX7_search_26 : decode cX7_search 26 = .ok (.getfield 13, 3) := by decide +kernel
theorem dX7_search_29 : decode cX7_search 29 = .ok (.iload_n 3, 1) := by decide +kernel
theorem dX7_search_30 : decode cX7_search 30 = .ok (.iaload, 1) := by decide +kernel
theorem dX7_search_31 : decode cX7_search 31 = .ok (.istore 4, 2) := by decide +kernel
theorem dX7_search_33 : decode cX7_search 33 = .ok (.aload_n 0, 1) := by decide +kernel
theorem dX7_search_34 : decode cX7_search 34 = .ok (.getfield 16, 3) := by decide +kernel
theorem dX7_search_37 : decode cX7_search 37 = .ok (.iload_n 3, 1) := by decide +kernel
theorem dX7_search_38 : decode cX7_search 38 = .ok (.iaload, 1) := by decide +kernel
theorem dX7_search_39 : decode cX7_search 39 = .ok (.istore 5, 2) := by decide +kernel
theorem dX7_search_41 : decode cX7_search 41 = .ok (.aload_n 0, 1) := by decide +kernel
theorem dX7_search_42 : decode cX7_search 42 = .ok (.getfield 255, 3) := by decide +kernel
theorem dX7_search_45 : decode cX7_search 45 = .ok (.iload 4, 2) := by decide +kernel
theorem dX7_search_47 : decode cX7_search 47 = .ok (.invokestatic 135, 3) := by decide +kernel
theorem dX7_search_50 : decode cX7_search 50 = .ok (.ifCond .eq 56, 3) := by decide +kernel
theorem dX7_search_53 : decode cX7_search 53 = .ok (.aload_n 0, 1) := by decide +kernel
theorem dX7_search_54 : decode cX7_search 54 = .ok (.getfield 255, 3) := by decide +kernel
theorem dX7_search_57 : decode cX7_search 57 = .ok (.iload 5, 2) := by decide +kernel
theorem dX7_search_59 : decode cX7_search 59 = .ok (.invokestatic 135, 3) := by decide +kernel
theorem dX7_search_62 : decode cX7_search 62 = .ok (.ifCond .ne 44, 3) := by decide +kernel
theorem dX7_search_65 : decode cX7_search 65 = .ok (.aload_n 0, 1) := by decide +kernel
theorem dX7_search_66 : decode cX7_search 66 = .ok (.getfield 54, 3) := by decide +kernel
theorem dX7_search_69 : decode cX7_search 69 = .ok (.iload_n 3, 1) := by decide +kernel
theorem dX7_search_70 : decode cX7_search 70 = .ok (.iaload, 1) := by decide +kernel
theorem dX7_search_71 : decode cX7_search 71 = .ok (.aload_n 0, 1) := by decide +kernel
theorem dX7_search_72 : decode cX7_search 72 = .ok (.getfield 51, 3) := by decide +kernel
theorem dX7_search_75 : decode cX7_search 75 = .ok (.iload_n 3, 1) := by decide +kernel
theorem dX7_search_76 : decode cX7_search 76 = .ok (.iaload, 1) := by decide +kernel
theorem dX7_search_77 : decode cX7_search 77 = .ok (.if_icmp .ge 29, 3) := by decide +kernel
theorem dX7_search_80 : decode cX7_search 80 = .ok (.aload_n 0, 1) := by decide +kernel
theorem dX7_search_81 : decode cX7_search 81 = .ok (.dup, 1) := by decide +kernel
theorem dX7_search_82 : decode cX7_search 82 = .ok (.getfield 255, 3) := by decide +kernel
theorem dX7_search_85 : decode cX7_search 85 = .ok (.iconst 1, 1) := by decide +kernel
theorem dX7_search_86 : decode cX7_search 86 = .ok (.iload 5, 2) := by decide +kernel
theorem dX7_search_88 : decode cX7_search 88 = .ok (.ishl, 1) := by decide +kernel
theorem dX7_search_89 : decode cX7_search 89 = .ok (.ior, 1) := by decide +kernel
theorem dX7_search_90 : decode cX7_search 90 = .ok (.putfield 255, 3) := by decide +kernel
theorem dX7_search_93 : decode cX7_search 93 = .ok (.aload_n 0, 1) := by decide +kernel
theorem dX7_search_94 : decode cX7_search 94 = .ok (.getfield 57, 3) := by decide +kernel
theorem dX7_search_97 : decode cX7_search 97 = .ok (.iload 5, 2) := by decide +kernel
theorem dX7_search_99 : decode cX7_search 99 = .ok (.iload_n 3, 1) := by decide +kernel
theorem dX7_search_100 : decode cX7_search 100 = .ok (.iastore, 1) := by decide +kernel
theorem dX7_search_101 : decode cX7_search 101 = .ok (.iconst 1, 1) := by decide +kernel
theorem dX7_search_102 : decode cX7_search 102 = .ok (.istore_n 2, 1) := by decide +kernel
theorem dX7_search_103 : decode cX7_search 103 = .ok (.goto 66, 3) := by decide +kernel
theorem dX7_search_106 : decode cX7_search 106 = .ok (.aload_n 0, 1) := by decide +kernel
theorem dX7_search_107 : decode cX7_search 107 = .ok (.getfield 255, 3) := by decide +kernel
theorem dX7_search_110 : decode cX7_search 110 = .ok (.iload 5, 2) := by decide +kernel
theorem dX7_search_112 : decode cX7_search 112 = .ok (.invokestatic 135, 3) := by decide +kernel
theorem dX7_search_115 : decode cX7_search 115 = .ok (.ifCond .eq 54, 3) := by decide +kernel
theorem dX7_search_118 : decode cX7_search 118 = .ok (.aload_n 0, 1) := by decide +kernel
theorem dX7_search_119 : decode cX7_search 119 = .ok (.getfield 255, 3) := by decide +kernel
theorem dX7_search_122 : decode cX7_search 122 = .ok (.iload 4, 2) := by decide +kernel
theorem dX7_search_124 : decode cX7_search 124 = .ok (.invokestatic 135, 3) := by decide +kernel
theorem dX7_search_127 : decode cX7_search 127 = .ok (.ifCond .ne 42, 3) := by decide +kernel
theorem dX7_search_130 : decode cX7_search 130 = .ok (.aload_n 0, 1) := by decide +kernel
theorem dX7_search_131 : decode cX7_search 131 = .ok (.getfield 54, 3) := by decide +kernel
theorem dX7_search_134 : decode cX7_search 134 = .ok (.iload_n 3, 1) := by decide +kernel
theorem dX7_search_135 : decode cX7_search 135 = .ok (.iaload, 1) := by decide +kernel
theorem dX7_search_136 : decode cX7_search 136 = .ok (.aload_n 0, 1) := by decide +kernel
theorem dX7_search_137 : decode cX7_search 137 = .ok (.getfield 51, 3) := by decide +kernel
theorem dX7_search_140 : decode cX7_search 140 = .ok (.iload_n 3, 1) := by decide +kernel
theorem dX7_search_141 : decode cX7_search 141 = .ok (.iaload, 1) := by decide +kernel
theorem dX7_search_142 : decode cX7_search 142 = .ok (.ineg, 1) := by decide +kernel
theorem dX7_search_143 : decode cX7_search 143 = .ok (.if_icmp .le 26, 3) := by decide +kernel
theorem dX7_search_146 : decode cX7_search 146 = .ok (.aload_n 0, 1) := by decide +kernel
theorem dX7_search_147 : decode cX7_search 147 = .ok (.dup, 1) := by decide +kernel
theorem dX7_search_148 : decode cX7_search 148 = .ok (.getfield 255, 3) := by decide +kernel
theorem dX7_search_151 : decode cX7_search 151 = .ok (.iconst 1, 1) := by decide +kernel
theorem dX7_search_152 : decode cX7_search 152 = .ok (.iload 4, 2) := by decide +kernel
theorem dX7_search_154 : decode cX7_search 154 = .ok (.ishl, 1) := by decide +kernel
theorem dX7_search_155 : decode cX7_search 155 = .ok (.ior, 1) := by decide +kernel
theorem dX7_search_156 : decode cX7_search 156 = .ok (.putfield 255, 3) := by decide +kernel
theorem dX7_search_159 : decode cX7_search 159 = .ok (.aload_n 0, 1) := by decide +kernel
theorem dX7_search_160 : decode cX7_search 160 = .ok (.getfield 57, 3) := by decide +kernel
theorem dX7_search_163 : decode cX7_search 163 = .ok (.iload 4, 2) := by decide +kernel
theorem dX7_search_165 : decode cX7_search 165 = .ok (.iload_n 3, 1) := by decide +kernel
theorem dX7_search_166 : decode cX7_search 166 = .ok (.iastore, 1) := by decide +kernel
theorem dX7_search_167 : decode cX7_search 167 = .ok (.iconst 1, 1) := by decide +kernel
theorem dX7_search_168 : decode cX7_search 168 = .ok (.istore_n 2, 1) := by decide +kernel
theorem dX7_search_169 : decode cX7_search 169 = .ok (.iinc 3 1, 3) := by decide +kernel
theorem dX7_search_172 : decode cX7_search 172 = .ok (.goto (-155), 3) := by decide +kernel
theorem dX7_search_175 : decode cX7_search 175 = .ok (.goto (-166), 3) := by decide +kernel
theorem dX7_search_178 : decode cX7_search 178 = .ok (.iconst 0, 1) := by decide +kernel
theorem dX7_search_179 : decode cX7_search 179 = .ok (.istore_n 3, 1) := by decide +kernel
theorem dX7_search_180 : decode cX7_search 180 = .ok (.iload_n 3, 1) := by decide +kernel
theorem dX7_search_181 : decode cX7_search 181 = .ok (.aload_n 0, 1) := by decide +kernel
theorem dX7_search_182 : decode cX7_search 182 = .ok (.getfield 84, 3) := by decide +kernel
theorem dX7_search_185 : decode cX7_search 185 = .ok (.if_icmp .ge 30, 3) := by decide +kernel
theorem dX7_search_188 : decode cX7_search 188 = .ok (.aload_n 0, 1) := by decide +kernel
theorem dX7_search_189 : decode cX7_search 189 = .ok (.getfield 255, 3) := by decide +kernel
theorem dX7_search_192 : decode cX7_search 192 = .ok (.iload_n 3, 1) := by decide +kernel
theorem dX7_search_193 : decode cX7_search 193 = .ok (.invokestatic 135, 3) := by decide +kernel
theorem dX7_search_196 : decode cX7_search 196 = .ok (.ifCond .eq 13, 3) := by decide +kernel
theorem dX7_search_199 : decode cX7_search 199 = .ok (.aload_n 0, 1) := by decide +kernel
theorem dX7_search_200 : decode cX7_search 200 = .ok (.iload_n 3, 1) := by decide +kernel
theorem dX7_search_201 : decode cX7_search 201 = .ok (.invokevirtual 195, 3) := by decide +kernel
theorem dX7_search_204 : decode cX7_search 204 = .ok (.ifCond .eq 5, 3) := by decide +kernel
theorem dX7_search_207 : decode cX7_search 207 = .ok (.iload_n 3, 1) := by decide +kernel
theorem dX7_search_208 : decode cX7_search 208 = .ok (.ireturn, 1) := by decide +kernel
theorem dX7_search_209 : decode cX7_search 209 = .ok (.iinc 3 1, 3) := by decide +kernel
theorem dX7_search_212 : decode cX7_search 212 = .ok (.goto (-32), 3) := by decide +kernel
theorem dX7_search_215 : decode cX7_search 215 = .ok (.iconst (-1), 1) := by decide +kernel
theorem dX7_search_216 : decode cX7_search 216 = .ok (.ireturn, 1) := by decide +kernel
theorem dX7_push_0 : decode cX7_push 0 = .ok (.iload_n 2, 1) := by decide +kernel
theorem dX7_push_1 : decode cX7_push 1 = .ok (.istore_n 3, 1) := by decide +kernel
theorem dX7_push_2 : decode cX7_push 2 = .ok (.iload_n 3, 1) := by decide +kernel
theorem dX7_push_3 : decode cX7_push 3 = .ok (.iload_n 1, 1) := by decide +kernel
theorem dX7_push_4 : decode cX7_push 4 = .ok (.if_icmp .eq 75, 3) := by decide +kernel
theorem dX7_push_7 : decode cX7_push 7 = .ok (.aload_n 0, 1) := by decide +kernel
theorem dX7_push_8 : decode cX7_push 8 = .ok (.getfield 57, 3) := by decide +kernel
theorem dX7_push_11 : decode cX7_push 11 = .ok (.iload_n 3, 1) := by decide +kernel
theorem dX7_push_12 : decode cX7_push 12 = .ok (.iaload, 1) := by decide +kernel
theorem dX7_push_13 : decode cX7_push 13 = .ok (.istore 4, 2) := by decide +kernel
theorem dX7_push_15 : decode cX7_push 15 = .ok (.aload_n 0, 1) := by decide +kernel
theorem dX7_push_16 : decode cX7_push 16 = .ok (.getfield 16, 3) := by decide +kernel
theorem dX7_push_19 : decode cX7_push 19 = .ok (.iload 4, 2) := by decide +kernel
theorem dX7_push_21 : decode cX7_push 21 = .ok (.iaload, 1) := by decide +kernel
theorem dX7_push_22 : decode cX7_push 22 = .ok (.iload_n 3, 1) := by decide +kernel
theorem dX7_push_23 : decode cX7_push 23 = .ok (.if_icmp .ne 7, 3) := by decide +kernel
theorem dX7_push_26 : decode cX7_push 26 = .ok (.iconst 1, 1) := by decide +kernel
theorem dX7_push_27 : decode cX7_push 27 = .ok (.goto 4, 3) := by decide +kernel
theorem dX7_push_30 : decode cX7_push 30 = .ok (.iconst 0, 1) := by decide +kernel
theorem dX7_push_31 : decode cX7_push 31 = .ok (.istore 5, 2) := by decide +kernel
theorem dX7_push_33 : decode cX7_push 33 = .ok (.aload_n 0, 1) := by decide +kernel
theorem dX7_push_34 : decode cX7_push 34 = .ok (.getfield 54, 3) := by decide +kernel
theorem dX7_push_37 : decode cX7_push 37 = .ok (.iload 4, 2) := by decide +kernel
theorem dX7_push_39 : decode cX7_push 39 = .ok (.dup2, 1) := by decide +kernel
theorem dX7_push_40 : decode cX7_push 40 = .ok (.iaload, 1) := by decide +kernel
theorem dX7_push_41 : decode cX7_push 41 = .ok (.iload 5, 2) := by decide +kernel
theorem dX7_push_43 : decode cX7_push 43 = .ok (.ifCond .eq 7, 3) := by decide +kernel
theorem dX7_push_46 : decode cX7_push 46 = .ok (.iconst 1, 1) := by decide +kernel
theorem dX7_push_47 : decode cX7_push 47 = .ok (.goto 4, 3) := by decide +kernel
theorem dX7_push_50 : decode cX7_push 50 = .ok (.iconst (-1), 1) := by decide +kernel
theorem dX7_push_51 : decode cX7_push 51 = .ok (.iadd, 1) := by decide +kernel
theorem dX7_push_52 : decode cX7_push 52 = .ok (.iastore, 1) := by decide +kernel
theorem dX7_push_53 : decode cX7_push 53 = .ok (.iload 5, 2) := by decide +kernel
theorem dX7_push_55 : decode cX7_push 55 = .ok (.ifCond .eq 13, 3) := by decide +kernel
theorem dX7_push_58 : decode cX7_push 58 = .ok (.aload_n 0, 1) := by decide +kernel
theorem dX7_push_59 : decode cX7_push 59 = .ok (.getfield 13, 3) := by decide +kernel
theorem dX7_push_62 : decode cX7_push 62 = .ok (.iload 4, 2) := by decide +kernel
theorem dX7_push_64 : decode cX7_push 64 = .ok (.iaload, 1) := by decide +kernel
theorem dX7_push_65 : decode cX7_push 65 = .ok (.goto 10, 3) := by decide +kernel
theorem dX7_push_68 : decode cX7_push 68 = .ok (.aload_n 0, 1) := by decide +kernel
theorem dX7_push_69 : decode cX7_push 69 = .ok (.getfield 16, 3) := by decide +kernel
theorem dX7_push_72 : decode cX7_push 72 = .ok (.iload 4, 2) := by decide +kernel
theorem dX7_push_74 : decode cX7_push 74 = .ok (.iaload, 1) := by decide +kernel
theorem dX7_push_75 : decode cX7_push 75 = .ok (.istore_n 3, 1) := by decide +kernel
theorem dX7_push_76 : decode cX7_push 76 = .ok (.goto (-74), 3) := by decide +kernel
theorem dX7_push_79 : decode cX7_push 79 = .ok (.return_, 1) := by decide +kernel
set_option maxRecDepth 20000 in
theorem ggX7_cut_X7_search : GoodIn wsX7_cut wsX7_search := goodIn_r _ [5, 6, 7, 8, 9, 10, 11, 12, 13, 14, 15, 4, 16, 17, 18, 19, 20, 21, 22, 27, 28, 29, 30, 31, 32, 33, 34, 35, 36, 37, 38, 39, 40, 41, 42, 43, 44, 45, 46, 47, 48, 49, 50, 51, 52, 53, 54, 55, 56, 57, 58, 59, 60, 61, 62, 63, 64] (by decide +kernel) (by decide +kernel)
set_option maxRecDepth 20000 in
theorem gX7_cut_X7_search : GoodIn wsX7_cut (wsV RX7 258 RX7 yX7_search wsX7_search) := goodIn_app (goodIn_of _ (by decide +kernel)) ggX7_cut_X7_search
set_option maxRecDepth 20000 in
theorem ggX7_cut_X7_push : GoodIn wsX7_cut wsX7_push := goodIn_r _ [26, 12, 9, 10, 8, 27, 28, 29, 30, 31, 32, 33, 34, 35, 36, 37, 38, 39, 40, 41, 42, 43, 44, 45, 46, 47, 48, 49, 50, 51, 52, 53, 54, 55, 56, 57, 58, 59, 60, 61, 62, 63, 64] (by decide +kernel) (by decide +kernel)
set_option maxRecDepth 20000 in
theorem gX7_cut_X7_push : GoodIn wsX7_cut (wsV RX7 261 RX7 yX7_push wsX7_push) := goodIn_app (goodIn_of _ (by decide +kernel)) ggX7_cut_X7_push
theorem dX7_cut_0 : decode cX7_cut 0 = .ok (.iconst 0, 1) := by decide +kernel
theorem dX7_cut_1 : decode cX7_cut 1 = .ok (.istore_n 2, 1) := by decide +kernel
theorem dX7_cut_2 : decode cX7_cut 2 = .ok (.aload_n 0, 1) := by decide +kernel
theorem dX7_cut_3 : decode cX7_cut 3 = .ok (.iload_n 1, 1) := by decide +kernel
theorem dX7_cut_4 : decode cX7_cut 4 = .ok (.invokevirtual 258, 3) := by decide +kernel
theorem dX7_cut_7 : decode cX7_cut 7 = .ok (.istore_n 3, 1) := by decide +kernel
theorem dX7_cut_8 : decode cX7_cut 8 = .ok (.iload_n 3, 1) := by decide +kernel
theorem dX7_cut_9 : decode cX7_cut 9 = .ok (.ifCond .lt 29, 3) := by decide +kernel
theorem dX7_cut_12 : decode cX7_cut 12 = .ok (.aload_n 0, 1) := by decide +kernel
theorem dX7_cut_13 : decode cX7_cut 13 = .ok (.iload_n 1, 1) := by decide +kernel
theorem dX7_cut_14 : decode cX7_cut 14 = .ok (.iload_n 3, 1) := by decide +kernel
theorem dX7_cut_15 : decode cX7_cut 15 = .ok (.invokevirtual 261, 3) := by decide +kernel
theorem dX7_cut_18 : decode cX7_cut 18 = .ok (.iinc 2 1, 3) := by decide +kernel
theorem dX7_cut_21 : decode cX7_cut 21 = .ok (.iload_n 2, 1) := by decide +kernel
theorem dX7_cut_22 : decode cX7_cut 22 = .ok (.bipush 40, 2) := by decide +kernel
theorem dX7_cut_24 : decode cX7_cut 24 = .ok (.if_icmp .le 5, 3) := by decide +kernel
theorem dX7_cut_27 : decode cX7_cut 27 = .ok (.iconst (-1), 1) := by decide +kernel
theorem dX7_cut_28 : decode cX7_cut 28 = .ok (.ireturn, 1) := by decide +kernel
theorem dX7_cut_29 : decode cX7_cut 29 = .ok (.aload_n 0, 1) := by decide +kernel
theorem dX7_cut_30 : decode cX7_cut 30 = .ok (.iload_n 1, 1) := by decide +kernel
theorem dX7_cut_31 : decode cX7_cut 31 = .ok (.invokevirtual 258, 3) := by decide +kernel
theorem dX7_cut_34 : decode cX7_cut 34 = .ok (.istore_n 3, 1) := by decide +kernel
theorem dX7_cut_35 : decode cX7_cut 35 = .ok (.goto (-27), 3) := by decide +kernel
theorem dX7_cut_38 : decode cX7_cut 38 = .ok (.iload_n 2, 1) := by decide +kernel
theorem dX7_cut_39 : decode cX7_cut 39 = .ok (.ireturn, 1) := by decide +kernel
set_option maxRecDepth 20000 in
theorem ggX7_slips_X7_isEstate : GoodIn wsX7_slips wsX7_isEstate := goodIn_r _ [12] (by decide +kernel) (by decide +kernel)
set_option maxRecDepth 20000 in
theorem gX7_slips_X7_isEstate : GoodIn wsX7_slips (va_wsS RX7 220 yX7_isEstate wsX7_isEstate) := goodIn_app (goodIn_of _ (by decide +kernel)) ggX7_slips_X7_isEstate
set_option maxRecDepth 20000 in
theorem ggX7_slips_X7_isField : GoodIn wsX7_slips wsX7_isField := goodIn_r _ [16, 17, 18, 19, 11, 20, 63, 64, 65, 66, 67, 68, 69, 70, 71, 72, 73, 74, 75, 76, 77, 78, 79, 80, 81, 82, 83, 84, 85, 86, 87, 88, 89, 90, 91, 92, 93, 94, 95, 96, 97, 98, 99, 100] (by decide +kernel) (by decide +kernel)
set_option maxRecDepth 20000 in
theorem gX7_slips_X7_isField : GoodIn wsX7_slips (wsV RX7 207 RX7 yX7_isField wsX7_isField) := goodIn_app (goodIn_of _ (by decide +kernel)) ggX7_slips_X7_isField
set_option maxRecDepth 20000 in
theorem ggX7_slips_X7_in : GoodIn wsX7_slips wsX7_in := goodIn_r _ [20] (by decide +kernel) (by decide +kernel)
set_option maxRecDepth 20000 in
theorem gX7_slips_X7_in : GoodIn wsX7_slips (va_wsS RX7 87 yX7_in wsX7_in) := goodIn_app (goodIn_of _ (by decide +kernel)) ggX7_slips_X7_in
set_option maxRecDepth 20000 in
theorem ggX7_slips_X7_isRim : GoodIn wsX7_slips wsX7_isRim := goodIn_r _ [24, 25, 26, 63, 64, 65, 66, 67, 68, 69, 70, 71, 72, 73, 74, 75, 76, 77, 78, 79, 80, 81, 82, 83, 84, 85, 86, 87, 88, 89, 90, 91, 92, 93, 94, 95, 96, 97, 98, 99, 100] (by decide +kernel) (by decide +kernel)
set_option maxRecDepth 20000 in
theorem gX7_slips_X7_isRim : GoodIn wsX7_slips (wsV RX7 195 RX7 yX7_isRim wsX7_isRim) := goodIn_app (goodIn_of _ (by decide +kernel)) ggX7_slips_X7_isRim
set_option maxRecDepth 20000 in
theorem ggX7_slips_X7_findRoom : GoodIn wsX7_slips wsX7_findRoom := goodIn_r _ [30, 4, 31, 5, 32, 33, 34, 35, 11, 36, 37, 38, 39, 40, 41, 7, 8, 42, 43, 44, 45, 46, 63, 64, 65, 66, 67, 68, 69, 70, 71, 72, 73, 74, 75, 76, 77, 78, 79, 80, 81, 82, 83, 84, 85, 86, 87, 88, 89, 90, 91, 92, 93, 94, 95, 96, 97, 98, 99, 100] (by decide +kernel) (by decide +kernel)
set_option maxRecDepth 20000 in
theorem gX7_slips_X7_findRoom : GoodIn wsX7_slips (wsV RX7 266 RX7 yX7_findRoom wsX7_findRoom) := goodIn_app (goodIn_of _ (by decide +kernel)) ggX7_slips_X7_findRoom
set_option maxRecDepth 20000 in
theorem ggX7_slips_X7_cut : GoodIn wsX7_slips wsX7_cut := goodIn_r _ [50, 51, 52, 53, 11, 54, 6, 4, 7, 8, 32, 5, 55, 17, 56, 57, 58, 21, 22, 23, 24, 25, 26, 59, 60, 61, 62, 63, 64, 65, 66, 67, 68, 69, 70, 71, 72, 73, 74, 75, 76, 77, 78, 79, 80, 81, 82, 83, 84, 85, 86, 87, 88, 89, 90, 91, 92, 93, 94, 95, 96, 97, 98, 99, 100] (by decide +kernel) (by decide +kernel)
set_option maxRecDepth 20000 in
theorem gX7_slips_X7_cut : GoodIn wsX7_slips (wsV RX7 269 RX7 yX7_cut wsX7_cut) := goodIn_app (goodIn_of _ (by decide +kernel)) ggX7_slips_X7_cut
set_option maxRecDepth 20000 in
theorem ggX7_slips_X7_has : GoodIn wsX7_slips wsX7_has := goodIn_r _ [58] (by decide +kernel) (by decide +kernel)
set_option maxRecDepth 20000 in
theorem gX7_slips_X7_has : GoodIn wsX7_slips (va_wsS RX7 135 yX7_has wsX7_has) := goodIn_app (goodIn_of _ (by decide +kernel)) ggX7_slips_X7_has
