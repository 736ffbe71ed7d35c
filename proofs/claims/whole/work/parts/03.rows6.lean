theorem dX7_slips_0 : decode cX7_slips 0 = .ok (.iload_n 1, 1) := by decide +kernel
theorem dX7_slips_1 : decode cX7_slips 1 = .ok (.invokestatic 220, 3) := by decide +kernel
theorem dX7_slips_4 : decode cX7_slips 4 = .ok (.ifCond .eq 11, 3) := by decide +kernel
theorem dX7_slips_7 : decode cX7_slips 7 = .ok (.aload_n 0, 1) := by decide +kernel
theorem dX7_slips_8 : decode cX7_slips 8 = .ok (.iload_n 2, 1) := by decide +kernel
theorem dX7_slips_9 : decode cX7_slips 9 = .ok (.invokevirtual 207, 3) := by decide +kernel
theorem dX7_slips_12 : decode cX7_slips 12 = .ok (.ifCond .ne 6, 3) := by decide +kernel
theorem dX7_slips_15 : decode cX7_slips 15 = .ok (.ldc 210, 2) := by decide +kernel
theorem dX7_slips_17 : decode cX7_slips 17 = .ok (.ireturn, 1) := by decide +kernel
theorem dX7_slips_18 : decode cX7_slips 18 = .ok (.iload_n 3, 1) := by decide +kernel
theorem dX7_slips_19 : decode cX7_slips 19 = .ok (.i2l, 1) := by decide +kernel
theorem dX7_slips_20 : decode cX7_slips 20 = .ok (.lconst 1, 1) := by decide +kernel
theorem dX7_slips_21 : decode cX7_slips 21 = .ok (.ldc2_w 264, 3) := by decide +kernel
theorem dX7_slips_24 : decode cX7_slips 24 = .ok (.invokestatic 87, 3) := by decide +kernel
theorem dX7_slips_27 : decode cX7_slips 27 = .ok (.ifCond .ne 6, 3) := by decide +kernel
theorem dX7_slips_30 : decode cX7_slips 30 = .ok (.ldc 96, 2) := by decide +kernel
theorem dX7_slips_32 : decode cX7_slips 32 = .ok (.ireturn, 1) := by decide +kernel
theorem dX7_slips_33 : decode cX7_slips 33 = .ok (.aload_n 0, 1) := by decide +kernel
theorem dX7_slips_34 : decode cX7_slips 34 = .ok (.iload_n 2, 1) := by decide +kernel
theorem dX7_slips_35 : decode cX7_slips 35 = .ok (.invokevirtual 195, 3) := by decide +kernel
theorem dX7_slips_38 : decode cX7_slips 38 = .ok (.ifCond .eq 5, 3) := by decide +kernel
theorem dX7_slips_41 : decode cX7_slips 41 = .ok (.iconst (-1), 1) := by decide +kernel
theorem dX7_slips_42 : decode cX7_slips 42 = .ok (.ireturn, 1) := by decide +kernel
theorem dX7_slips_43 : decode cX7_slips 43 = .ok (.aload_n 0, 1) := by decide +kernel
theorem dX7_slips_44 : decode cX7_slips 44 = .ok (.iload_n 1, 1) := by decide +kernel
theorem dX7_slips_45 : decode cX7_slips 45 = .ok (.iload_n 3, 1) := by decide +kernel
theorem dX7_slips_46 : decode cX7_slips 46 = .ok (.invokevirtual 266, 3) := by decide +kernel
theorem dX7_slips_49 : decode cX7_slips 49 = .ok (.aload_n 0, 1) := by decide +kernel
theorem dX7_slips_50 : decode cX7_slips 50 = .ok (.iload_n 2, 1) := by decide +kernel
theorem dX7_slips_51 : decode cX7_slips 51 = .ok (.invokevirtual 269, 3) := by decide +kernel
theorem dX7_slips_54 : decode cX7_slips 54 = .ok (.istore 5, 2) := by decide +kernel
theorem dX7_slips_56 : decode cX7_slips 56 = .ok (.iload 5, 2) := by decide +kernel
theorem dX7_slips_58 : decode cX7_slips 58 = .ok (.ifCond .lt 9, 3) := by decide +kernel
theorem dX7_slips_61 : decode cX7_slips 61 = .ok (.iload 4, 2) := by decide +kernel
theorem dX7_slips_63 : decode cX7_slips 63 = .ok (.iconst (-1), 1) := by decide +kernel
theorem dX7_slips_64 : decode cX7_slips 64 = .ok (.if_icmp .ne 6, 3) := by decide +kernel
theorem dX7_slips_67 : decode cX7_slips 67 = .ok (.iload 5, 2) := by decide +kernel
theorem dX7_slips_69 : decode cX7_slips 69 = .ok (.ireturn, 1) := by decide +kernel
theorem dX7_slips_70 : decode cX7_slips 70 = .ok (.iconst 0, 1) := by decide +kernel
theorem dX7_slips_71 : decode cX7_slips 71 = .ok (.istore 6, 2) := by decide +kernel
theorem dX7_slips_73 : decode cX7_slips 73 = .ok (.iconst 0, 1) := by decide +kernel
theorem dX7_slips_74 : decode cX7_slips 74 = .ok (.istore 7, 2) := by decide +kernel
theorem dX7_slips_76 : decode cX7_slips 76 = .ok (.iload 7, 2) := by decide +kernel
theorem dX7_slips_78 : decode cX7_slips 78 = .ok (.aload_n 0, 1) := by decide +kernel
theorem dX7_slips_79 : decode cX7_slips 79 = .ok (.getfield 91, 3) := by decide +kernel
theorem dX7_slips_82 : decode cX7_slips 82 = .ok (.if_icmp .ge 64, 3) := by decide +kernel
theorem dX7_slips_85 : decode cX7_slips 85 = .ok (.aload_n 0, 1) := by decide +kernel
theorem dX7_slips_86 : decode cX7_slips 86 = .ok (.getfield 51, 3) := by decide +kernel
theorem dX7_slips_89 : decode cX7_slips 89 = .ok (.iload 7, 2) := by decide +kernel
theorem dX7_slips_91 : decode cX7_slips 91 = .ok (.iaload, 1) := by decide +kernel
theorem dX7_slips_92 : decode cX7_slips 92 = .ok (.iconst 1, 1) := by decide +kernel
theorem dX7_slips_93 : decode cX7_slips 93 = .ok (.if_icmp .ne 47, 3) := by decide +kernel
theorem dX7_slips_96 : decode cX7_slips 96 = .ok (.aload_n 0, 1) := by decide +kernel
theorem dX7_slips_97 : decode cX7_slips 97 = .ok (.getfield 255, 3) := by decide +kernel
theorem dX7_slips_100 : decode cX7_slips 100 = .ok (.aload_n 0, 1) := by decide +kernel
theorem dX7_slips_101 : decode cX7_slips 101 = .ok (.getfield 13, 3) := by decide +kernel
theorem dX7_slips_104 : decode cX7_slips 104 = .ok (.iload 7, 2) := by decide +kernel
theorem dX7_slips_106 : decode cX7_slips 106 = .ok (.iaload, 1) := by decide +kernel
theorem dX7_slips_107 : decode cX7_slips 107 = .ok (.invokestatic 135, 3) := by decide +kernel
theorem dX7_slips_110 : decode cX7_slips 110 = .ok (.aload_n 0, 1) := by decide +kernel
theorem dX7_slips_111 : decode cX7_slips 111 = .ok (.getfield 255, 3) := by decide +kernel
theorem dX7_slips_114 : decode cX7_slips 114 = .ok (.aload_n 0, 1) := by decide +kernel
theorem dX7_slips_115 : decode cX7_slips 115 = .ok (.getfield 16, 3) := by decide +kernel
theorem dX7_slips_118 : decode cX7_slips 118 = .ok (.iload 7, 2) := by decide +kernel
theorem dX7_slips_120 : decode cX7_slips 120 = .ok (.iaload, 1) := by decide +kernel
theorem dX7_slips_121 : decode cX7_slips 121 = .ok (.invokestatic 135, 3) := by decide +kernel
theorem dX7_slips_124 : decode cX7_slips 124 = .ok (.if_icmp .eq 16, 3) := by decide +kernel
theorem dX7_slips_127 : decode cX7_slips 127 = .ok (.iload 6, 2) := by decide +kernel
theorem dX7_slips_129 : decode cX7_slips 129 = .ok (.iload 4, 2) := by decide +kernel
theorem dX7_slips_131 : decode cX7_slips 131 = .ok (.if_icmp .ne 6, 3) := by decide +kernel
theorem dX7_slips_134 : decode cX7_slips 134 = .ok (.iload 7, 2) := by decide +kernel
theorem dX7_slips_136 : decode cX7_slips 136 = .ok (.ireturn, 1) := by decide +kernel
theorem dX7_slips_137 : decode cX7_slips 137 = .ok (.iinc 6 1, 3) := by decide +kernel
theorem dX7_slips_140 : decode cX7_slips 140 = .ok (.iinc 7 1, 3) := by decide +kernel
theorem dX7_slips_143 : decode cX7_slips 143 = .ok (.goto (-67), 3) := by decide +kernel
theorem dX7_slips_146 : decode cX7_slips 146 = .ok (.iconst (-1), 1) := by decide +kernel
theorem dX7_slips_147 : decode cX7_slips 147 = .ok (.ireturn, 1) := by decide +kernel
set_option maxRecDepth 20000 in
theorem ggX7_wouldDecide_X7_isShut : GoodIn wsX7_wouldDecide wsX7_isShut := goodIn_r _ [6, 1, 7, 8, 9, 5, 10, 11, 12, 13, 14, 15, 16, 17, 37, 38, 39, 40, 41, 42, 43, 44, 45, 46, 47, 48, 49, 50, 51, 52, 53, 54, 55, 56, 57, 58, 59, 60, 61, 62, 63, 64, 65, 66, 67, 68, 69, 70, 71, 72, 73, 74] (by decide +kernel) (by decide +kernel)
set_option maxRecDepth 20000 in
theorem gX7_wouldDecide_X7_isShut : GoodIn wsX7_wouldDecide (wsV RX7 191 RX7 yX7_isShut wsX7_isShut) := goodIn_app (goodIn_of _ (by decide +kernel)) ggX7_wouldDecide_X7_isShut
set_option maxRecDepth 20000 in
theorem ggX7_wouldDecide_X7_landOf : GoodIn wsX7_wouldDecide wsX7_landOf := goodIn_r _ [21, 22, 16, 17, 23, 24, 5, 25, 2, 3, 4, 6, 1, 7, 8, 9, 10, 11, 12, 13, 14, 15, 37, 38, 39, 40, 41, 42, 43, 44, 45, 46, 47, 48, 49, 50, 51, 52, 53, 54, 55, 56, 57, 58, 59, 60, 61, 62, 63, 64, 65, 66, 67, 68, 69, 70, 71, 72, 73, 74] (by decide +kernel) (by decide +kernel)
set_option maxRecDepth 20000 in
theorem gX7_wouldDecide_X7_landOf : GoodIn wsX7_wouldDecide (wsV RX7 211 RX7 yX7_landOf wsX7_landOf) := goodIn_app (goodIn_of _ (by decide +kernel)) ggX7_wouldDecide_X7_landOf
set_option maxRecDepth 20000 in
theorem ggX7_wouldDecide_X7_shutInBy : GoodIn wsX7_wouldDecide wsX7_shutInBy := goodIn_r _ [29, 30, 22, 16, 17, 1, 23, 24, 5, 25, 31, 32, 33, 34, 35, 36, 37, 38, 39, 40, 41, 42, 43, 44, 45, 46, 47, 48, 49, 50, 51, 52, 53, 54, 55, 56, 57, 58, 59, 60, 61, 62, 63, 64, 65, 66, 67, 68, 69, 70, 71, 72, 73, 74] (by decide +kernel) (by decide +kernel)
set_option maxRecDepth 20000 in
theorem gX7_wouldDecide_X7_shutInBy : GoodIn wsX7_wouldDecide (wsV RX7 214 RX7 yX7_shutInBy wsX7_shutInBy) := goodIn_app (goodIn_of _ (by decide +kernel)) ggX7_wouldDecide_X7_shutInBy
theorem dX7_wouldDecide_0 : decode cX7_wouldDecide 0 = .ok (.aload_n 0, 1) := by decide +kernel
theorem dX7_wouldDecide_1 : decode cX7_wouldDecide 1 = .ok (.getfield 23, 3) := by decide +kernel
theorem dX7_wouldDecide_4 : decode cX7_wouldDecide 4 = .ok (.iload_n 1, 1) := by decide +kernel
theorem dX7_wouldDecide_5 : decode cX7_wouldDecide 5 = .ok (.iaload, 1) := by decide +kernel
theorem dX7_wouldDecide_6 : decode cX7_wouldDecide 6 = .ok (.ifCond .lt 15, 3) := by decide +kernel
theorem dX7_wouldDecide_9 : decode cX7_wouldDecide 9 = .ok (.aload_n 0, 1) := by decide +kernel
theorem dX7_wouldDecide_10 : decode cX7_wouldDecide 10 = .ok (.getfield 23, 3) := by decide +kernel
theorem dX7_wouldDecide_13 : decode cX7_wouldDecide 13 = .ok (.bipush 80, 2) := by decide +kernel
theorem dX7_wouldDecide_15 : decode cX7_wouldDecide 15 = .ok (.iload_n 1, 1) := by decide +kernel
theorem dX7_wouldDecide_16 : decode cX7_wouldDecide 16 = .ok (.iadd, 1) := by decide +kernel
theorem dX7_wouldDecide_17 : decode cX7_wouldDecide 17 = .ok (.iaload, 1) := by decide +kernel
theorem dX7_wouldDecide_18 : decode cX7_wouldDecide 18 = .ok (.ifCond .ne 5, 3) := by decide +kernel
theorem dX7_wouldDecide_21 : decode cX7_wouldDecide 21 = .ok (.iconst 0, 1) := by decide +kernel
theorem dX7_wouldDecide_22 : decode cX7_wouldDecide 22 = .ok (.ireturn, 1) := by decide +kernel
theorem dX7_wouldDecide_23 : decode cX7_wouldDecide 23 = .ok (.aload_n 0, 1) := by decide +kernel
theorem dX7_wouldDecide_24 : decode cX7_wouldDecide 24 = .ok (.getfield 23, 3) := by decide +kernel
theorem dX7_wouldDecide_27 : decode cX7_wouldDecide 27 = .ok (.bipush 80, 2) := by decide +kernel
theorem dX7_wouldDecide_29 : decode cX7_wouldDecide 29 = .ok (.iload_n 1, 1) := by decide +kernel
theorem dX7_wouldDecide_30 : decode cX7_wouldDecide 30 = .ok (.iadd, 1) := by decide +kernel
theorem dX7_wouldDecide_31 : decode cX7_wouldDecide 31 = .ok (.iconst 0, 1) := by decide +kernel
theorem dX7_wouldDecide_32 : decode cX7_wouldDecide 32 = .ok (.iastore, 1) := by decide +kernel
theorem dX7_wouldDecide_33 : decode cX7_wouldDecide 33 = .ok (.aload_n 0, 1) := by decide +kernel
theorem dX7_wouldDecide_34 : decode cX7_wouldDecide 34 = .ok (.iload_n 1, 1) := by decide +kernel
theorem dX7_wouldDecide_35 : decode cX7_wouldDecide 35 = .ok (.invokevirtual 191, 3) := by decide +kernel
theorem dX7_wouldDecide_38 : decode cX7_wouldDecide 38 = .ok (.ifCond .eq 19, 3) := by decide +kernel
theorem dX7_wouldDecide_41 : decode cX7_wouldDecide 41 = .ok (.aload_n 0, 1) := by decide +kernel
theorem dX7_wouldDecide_42 : decode cX7_wouldDecide 42 = .ok (.aload_n 0, 1) := by decide +kernel
theorem dX7_wouldDecide_43 : decode cX7_wouldDecide 43 = .ok (.iload_n 2, 1) := by decide +kernel
theorem dX7_wouldDecide_44 : decode cX7_wouldDecide 44 = .ok (.invokevirtual 211, 3) := by decide +kernel
theorem dX7_wouldDecide_47 : decode cX7_wouldDecide 47 = .ok (.invokevirtual 214, 3) := by decide +kernel
theorem dX7_wouldDecide_50 : decode cX7_wouldDecide 50 = .ok (.ifCond .lt 7, 3) := by decide +kernel
theorem dX7_wouldDecide_53 : decode cX7_wouldDecide 53 = .ok (.iconst 1, 1) := by decide +kernel
theorem dX7_wouldDecide_54 : decode cX7_wouldDecide 54 = .ok (.goto 4, 3) := by decide +kernel
theorem dX7_wouldDecide_57 : decode cX7_wouldDecide 57 = .ok (.iconst 0, 1) := by decide +kernel
theorem dX7_wouldDecide_58 : decode cX7_wouldDecide 58 = .ok (.istore_n 3, 1) := by decide +kernel
theorem dX7_wouldDecide_59 : decode cX7_wouldDecide 59 = .ok (.aload_n 0, 1) := by decide +kernel
theorem dX7_wouldDecide_60 : decode cX7_wouldDecide 60 = .ok (.getfield 23, 3) := by decide +kernel
theorem dX7_wouldDecide_63 : decode cX7_wouldDecide 63 = .ok (.bipush 80, 2) := by decide +kernel
theorem dX7_wouldDecide_65 : decode cX7_wouldDecide 65 = .ok (.iload_n 1, 1) := by decide +kernel
theorem dX7_wouldDecide_66 : decode cX7_wouldDecide 66 = .ok (.iadd, 1) := by decide +kernel
theorem dX7_wouldDecide_67 : decode cX7_wouldDecide 67 = .ok (.iconst 1, 1) := by decide +kernel
theorem dX7_wouldDecide_68 : decode cX7_wouldDecide 68 = .ok (.iastore, 1) := by decide +kernel
theorem dX7_wouldDecide_69 : decode cX7_wouldDecide 69 = .ok (.iload_n 3, 1) := by decide +kernel
theorem dX7_wouldDecide_70 : decode cX7_wouldDecide 70 = .ok (.ireturn, 1) := by decide +kernel
set_option maxRecDepth 20000 in
theorem ggX7_decides_X7_isField : GoodIn wsX7_decides wsX7_isField := goodIn_r _ [7, 8, 9, 10, 6, 11, 49, 50, 51, 52, 53, 54, 55, 56, 57, 58, 59, 60, 61, 62, 63, 64, 65, 66, 67, 68, 69, 70, 71, 72, 73, 74, 75, 76, 77, 78, 79, 80, 81, 82, 83, 84, 85, 86] (by decide +kernel) (by decide +kernel)
set_option maxRecDepth 20000 in
theorem gX7_decides_X7_isField : GoodIn wsX7_decides (wsV RX7 207 RX7 yX7_isField wsX7_isField) := goodIn_app (goodIn_of _ (by decide +kernel)) ggX7_decides_X7_isField
set_option maxRecDepth 20000 in
theorem ggX7_decides_X7_wouldDecide : GoodIn wsX7_decides wsX7_wouldDecide := goodIn_r _ [15, 16, 17, 18, 19, 6, 20, 21, 22, 23, 24, 25, 26, 27, 28, 29, 30, 31, 32, 33, 34, 35, 2, 36, 37, 38, 39, 40, 41, 42, 8, 43, 44, 45, 46, 47, 48, 49, 50, 51, 52, 53, 54, 55, 56, 57, 58, 59, 60, 61, 62, 63, 64, 65, 66, 67, 68, 69, 70, 71, 72, 73, 74, 75, 76, 77, 78, 79, 80, 81, 82, 83, 84, 85, 86] (by decide +kernel) (by decide +kernel)
set_option maxRecDepth 20000 in
theorem gX7_decides_X7_wouldDecide : GoodIn wsX7_decides (wsV RX7 272 RX7 yX7_wouldDecide wsX7_wouldDecide) := goodIn_app (goodIn_of _ (by decide +kernel)) ggX7_decides_X7_wouldDecide
theorem dX7_decides_0 : decode cX7_decides 0 = .ok (.aload_n 0, 1) := by decide +kernel
theorem dX7_decides_1 : decode cX7_decides 1 = .ok (.iload_n 1, 1) := by decide +kernel
theorem dX7_decides_2 : decode cX7_decides 2 = .ok (.invokevirtual 207, 3) := by decide +kernel
theorem dX7_decides_5 : decode cX7_decides 5 = .ok (.ifCond .ne 6, 3) := by decide +kernel
theorem dX7_decides_8 : decode cX7_decides 8 = .ok (.ldc 210, 2) := by decide +kernel
theorem dX7_decides_10 : decode cX7_decides 10 = .ok (.ireturn, 1) := by decide +kernel
theorem dX7_decides_11 : decode cX7_decides 11 = .ok (.iconst 0, 1) := by decide +kernel
theorem dX7_decides_12 : decode cX7_decides 12 = .ok (.istore_n 3, 1) := by decide +kernel
theorem dX7_decides_13 : decode cX7_decides 13 = .ok (.iconst 0, 1) := by decide +kernel
theorem dX7_decides_14 : decode cX7_decides 14 = .ok (.istore 4, 2) := by decide +kernel
theorem dX7_decides_16 : decode cX7_decides 16 = .ok (.iload 4, 2) := by decide +kernel
theorem dX7_decides_18 : decode cX7_decides 18 = .ok (.aload_n 0, 1) := by decide +kernel
theorem dX7_decides_19 : decode cX7_decides 19 = .ok (.getfield 91, 3) := by decide +kernel
theorem dX7_decides_22 : decode cX7_decides 22 = .ok (.if_icmp .ge 30, 3) := by decide +kernel
theorem dX7_decides_25 : decode cX7_decides 25 = .ok (.aload_n 0, 1) := by decide +kernel
theorem dX7_decides_26 : decode cX7_decides 26 = .ok (.iload 4, 2) := by decide +kernel
theorem dX7_decides_28 : decode cX7_decides 28 = .ok (.iload_n 1, 1) := by decide +kernel
theorem dX7_decides_29 : decode cX7_decides 29 = .ok (.invokevirtual 272, 3) := by decide +kernel
theorem dX7_decides_32 : decode cX7_decides 32 = .ok (.ifCond .eq 14, 3) := by decide +kernel
theorem dX7_decides_35 : decode cX7_decides 35 = .ok (.iload_n 3, 1) := by decide +kernel
theorem dX7_decides_36 : decode cX7_decides 36 = .ok (.iload_n 2, 1) := by decide +kernel
theorem dX7_decides_37 : decode cX7_decides 37 = .ok (.if_icmp .ne 6, 3) := by decide +kernel
theorem dX7_decides_40 : decode cX7_decides 40 = .ok (.iload 4, 2) := by decide +kernel
theorem dX7_decides_42 : decode cX7_decides 42 = .ok (.ireturn, 1) := by decide +kernel
theorem dX7_decides_43 : decode cX7_decides 43 = .ok (.iinc 3 1, 3) := by decide +kernel
theorem dX7_decides_46 : decode cX7_decides 46 = .ok (.iinc 4 1, 3) := by decide +kernel
theorem dX7_decides_49 : decode cX7_decides 49 = .ok (.goto (-33), 3) := by decide +kernel
theorem dX7_decides_52 : decode cX7_decides 52 = .ok (.iload_n 2, 1) := by decide +kernel
theorem dX7_decides_53 : decode cX7_decides 53 = .ok (.iconst (-1), 1) := by decide +kernel
theorem dX7_decides_54 : decode cX7_decides 54 = .ok (.if_icmp .ne 7, 3) := by decide +kernel
theorem dX7_decides_57 : decode cX7_decides 57 = .ok (.iload_n 3, 1) := by decide +kernel
theorem dX7_decides_58 : decode cX7_decides 58 = .ok (.goto 4, 3) := by decide +kernel
theorem dX7_decides_61 : decode cX7_decides 61 = .ok (.iconst (-1), 1) := by decide +kernel
theorem dX7_decides_62 : decode cX7_decides 62 = .ok (.ireturn, 1) := by decide +kernel
set_option maxRecDepth 20000 in
theorem ggX7_tallIn_X7_isEdge : GoodIn wsX7_tallIn wsX7_isEdge := goodIn_r _ [8, 9, 10, 11, 7, 12, 24, 25, 26, 27, 28, 29, 30, 31, 32, 33, 34, 35, 36, 37, 38, 39, 40, 41, 42, 43, 44, 45, 46, 47, 48, 49, 50, 51, 52, 53, 54, 55, 56, 57, 58, 59, 60, 61] (by decide +kernel) (by decide +kernel)
set_option maxRecDepth 20000 in
theorem gX7_tallIn_X7_isEdge : GoodIn wsX7_tallIn (wsV RX7 217 RX7 yX7_isEdge wsX7_isEdge) := goodIn_app (goodIn_of _ (by decide +kernel)) ggX7_tallIn_X7_isEdge
set_option maxRecDepth 20000 in
theorem ggX7_tallIn_X7_heightBy : GoodIn wsX7_tallIn wsX7_heightBy := goodIn_r _ [16, 17, 18, 19, 7, 20, 21, 22, 23, 24, 25, 26, 27, 28, 29, 30, 31, 32, 33, 34, 35, 36, 37, 38, 39, 40, 41, 42, 43, 44, 45, 46, 47, 48, 49, 50, 51, 52, 53, 54, 55, 56, 57, 58, 59, 60, 61] (by decide +kernel) (by decide +kernel)
set_option maxRecDepth 20000 in
theorem gX7_tallIn_X7_heightBy : GoodIn wsX7_tallIn (wsV RX7 188 RX7 yX7_heightBy wsX7_heightBy) := goodIn_app (goodIn_of _ (by decide +kernel)) ggX7_tallIn_X7_heightBy
theorem dX7_tallIn_0 : decode cX7_tallIn 0 = .ok (.aload_n 0, 1) := by decide +kernel
theorem dX7_tallIn_1 : decode cX7_tallIn 1 = .ok (.iload_n 1, 1) := by decide +kernel
theorem dX7_tallIn_2 : decode cX7_tallIn 2 = .ok (.invokevirtual 217, 3) := by decide +kernel
theorem dX7_tallIn_5 : decode cX7_tallIn 5 = .ok (.ifCond .ne 6, 3) := by decide +kernel
theorem dX7_tallIn_8 : decode cX7_tallIn 8 = .ok (.ldc 210, 2) := by decide +kernel
theorem dX7_tallIn_10 : decode cX7_tallIn 10 = .ok (.ireturn, 1) := by decide +kernel
theorem dX7_tallIn_11 : decode cX7_tallIn 11 = .ok (.aload_n 0, 1) := by decide +kernel
theorem dX7_tallIn_12 : decode cX7_tallIn 12 = .ok (.getfield 19, 3) := by decide +kernel
theorem dX7_tallIn_15 : decode cX7_tallIn 15 = .ok (.iload_n 1, 1) := by decide +kernel
theorem dX7_tallIn_16 : decode cX7_tallIn 16 = .ok (.baload, 1) := by decide +kernel
theorem dX7_tallIn_17 : decode cX7_tallIn 17 = .ok (.ifCond .eq 5, 3) := by decide +kernel
theorem dX7_tallIn_20 : decode cX7_tallIn 20 = .ok (.iconst (-1), 1) := by decide +kernel
theorem dX7_tallIn_21 : decode cX7_tallIn 21 = .ok (.ireturn, 1) := by decide +kernel
theorem dX7_tallIn_22 : decode cX7_tallIn 22 = .ok (.aload_n 0, 1) := by decide +kernel
theorem dX7_tallIn_23 : decode cX7_tallIn 23 = .ok (.getfield 23, 3) := by decide +kernel
theorem dX7_tallIn_26 : decode cX7_tallIn 26 = .ok (.iload_n 1, 1) := by decide +kernel
theorem dX7_tallIn_27 : decode cX7_tallIn 27 = .ok (.iaload, 1) := by decide +kernel
theorem dX7_tallIn_28 : decode cX7_tallIn 28 = .ok (.ifCond .ge 7, 3) := by decide +kernel
theorem dX7_tallIn_31 : decode cX7_tallIn 31 = .ok (.iconst 0, 1) := by decide +kernel
theorem dX7_tallIn_32 : decode cX7_tallIn 32 = .ok (.goto 12, 3) := by decide +kernel
theorem dX7_tallIn_35 : decode cX7_tallIn 35 = .ok (.aload_n 0, 1) := by decide +kernel
theorem dX7_tallIn_36 : decode cX7_tallIn 36 = .ok (.getfield 23, 3) := by decide +kernel
theorem dX7_tallIn_39 : decode cX7_tallIn 39 = .ok (.bipush 40, 2) := by decide +kernel
theorem dX7_tallIn_41 : decode cX7_tallIn 41 = .ok (.iload_n 1, 1) := by decide +kernel
theorem dX7_tallIn_42 : decode cX7_tallIn 42 = .ok (.iadd, 1) := by decide +kernel
theorem dX7_tallIn_43 : decode cX7_tallIn 43 = .ok (.iaload, 1) := by decide +kernel
theorem dX7_tallIn_44 : decode cX7_tallIn 44 = .ok (.istore_n 2, 1) := by decide +kernel
theorem dX7_tallIn_45 : decode cX7_tallIn 45 = .ok (.iconst 0, 1) := by decide +kernel
theorem dX7_tallIn_46 : decode cX7_tallIn 46 = .ok (.istore_n 3, 1) := by decide +kernel
theorem dX7_tallIn_47 : decode cX7_tallIn 47 = .ok (.aload_n 0, 1) := by decide +kernel
theorem dX7_tallIn_48 : decode cX7_tallIn 48 = .ok (.iload_n 1, 1) := by decide +kernel
theorem dX7_tallIn_49 : decode cX7_tallIn 49 = .ok (.iload_n 2, 1) := by decide +kernel
theorem dX7_tallIn_50 : decode cX7_tallIn 50 = .ok (.iload_n 3, 1) := by decide +kernel
theorem dX7_tallIn_51 : decode cX7_tallIn 51 = .ok (.iadd, 1) := by decide +kernel
theorem dX7_tallIn_52 : decode cX7_tallIn 52 = .ok (.invokevirtual 188, 3) := by decide +kernel
theorem dX7_tallIn_55 : decode cX7_tallIn 55 = .ok (.bipush 12, 2) := by decide +kernel
theorem dX7_tallIn_57 : decode cX7_tallIn 57 = .ok (.if_icmp .ge 9, 3) := by decide +kernel
theorem dX7_tallIn_60 : decode cX7_tallIn 60 = .ok (.iinc 3 1, 3) := by decide +kernel
theorem dX7_tallIn_63 : decode cX7_tallIn 63 = .ok (.goto (-16), 3) := by decide +kernel
theorem dX7_tallIn_66 : decode cX7_tallIn 66 = .ok (.iload_n 3, 1) := by decide +kernel
theorem dX7_tallIn_67 : decode cX7_tallIn 67 = .ok (.ireturn, 1) := by decide +kernel
set_option maxRecDepth 20000 in
theorem ggX7_walk_X7_isField : GoodIn wsX7_walk wsX7_isField := goodIn_r _ [10, 2, 11, 12, 9, 13, 31, 32, 33, 34, 35, 36, 37, 38, 39, 40, 41, 42, 43, 44, 45, 46, 47, 48, 49, 50, 51, 52, 53, 54, 55, 56, 57, 58, 59, 60, 61, 62, 63, 64, 65, 66, 67, 68] (by decide +kernel) (by decide +kernel)
set_option maxRecDepth 20000 in
theorem gX7_walk_X7_isField : GoodIn wsX7_walk (wsV RX7 207 RX7 yX7_isField wsX7_isField) := goodIn_app (goodIn_of _ (by decide +kernel)) ggX7_walk_X7_isField
set_option maxRecDepth 20000 in
theorem ggX7_walk_X7_has : GoodIn wsX7_walk wsX7_has := goodIn_r _ [16] (by decide +kernel) (by decide +kernel)
set_option maxRecDepth 20000 in
theorem gX7_walk_X7_has : GoodIn wsX7_walk (va_wsS RX7 135 yX7_has wsX7_has) := goodIn_app (goodIn_of _ (by decide +kernel)) ggX7_walk_X7_has
set_option maxRecDepth 20000 in
theorem ggX7_walk_X7_isShut : GoodIn wsX7_walk wsX7_isShut := goodIn_r _ [20, 21, 22, 23, 24, 9, 25, 26, 27, 28, 29, 30, 4, 5, 31, 32, 33, 34, 35, 36, 37, 38, 39, 40, 41, 42, 43, 44, 45, 46, 47, 48, 49, 50, 51, 52, 53, 54, 55, 56, 57, 58, 59, 60, 61, 62, 63, 64, 65, 66, 67, 68] (by decide +kernel) (by decide +kernel)
set_option maxRecDepth 20000 in
theorem gX7_walk_X7_isShut : GoodIn wsX7_walk (wsV RX7 191 RX7 yX7_isShut wsX7_isShut) := goodIn_app (goodIn_of _ (by decide +kernel)) ggX7_walk_X7_isShut
theorem dX7_walk_0 : decode cX7_walk 0 = .ok (.aload_n 0, 1) := by decide +kernel
theorem dX7_walk_1 : decode cX7_walk 1 = .ok (.iload_n 1, 1) := by decide +kernel
theorem dX7_walk_2 : decode cX7_walk 2 = .ok (.invokevirtual 207, 3) := by decide +kernel
theorem dX7_walk_5 : decode cX7_walk 5 = .ok (.ifCond .eq 11, 3) := by decide +kernel
theorem dX7_walk_8 : decode cX7_walk 8 = .ok (.aload_n 0, 1) := by decide +kernel
theorem dX7_walk_9 : decode cX7_walk 9 = .ok (.iload_n 2, 1) := by decide +kernel
theorem dX7_walk_10 : decode cX7_walk 10 = .ok (.invokevirtual 207, 3) := by decide +kernel
theorem dX7_walk_13 : decode cX7_walk 13 = .ok (.ifCond .ne 6, 3) := by decide +kernel
theorem dX7_walk_16 : decode cX7_walk 16 = .ok (.ldc 210, 2) := by decide +kernel
theorem dX7_walk_18 : decode cX7_walk 18 = .ok (.ireturn, 1) := by decide +kernel
theorem dX7_walk_19 : decode cX7_walk 19 = .ok (.iconst 1, 1) := by decide +kernel
theorem dX7_walk_20 : decode cX7_walk 20 = .ok (.iload_n 1, 1) := by decide +kernel
theorem dX7_walk_21 : decode cX7_walk 21 = .ok (.ishl, 1) := by decide +kernel
theorem dX7_walk_22 : decode cX7_walk 22 = .ok (.istore_n 3, 1) := by decide +kernel
theorem dX7_walk_23 : decode cX7_walk 23 = .ok (.iconst 0, 1) := by decide +kernel
theorem dX7_walk_24 : decode cX7_walk 24 = .ok (.istore 4, 2) := by decide +kernel
theorem dX7_walk_26 : decode cX7_walk 26 = .ok (.iload 4, 2) := by decide +kernel
theorem dX7_walk_28 : decode cX7_walk 28 = .ok (.aload_n 0, 1) := by decide +kernel
theorem dX7_walk_29 : decode cX7_walk 29 = .ok (.getfield 84, 3) := by decide +kernel
theorem dX7_walk_32 : decode cX7_walk 32 = .ok (.if_icmp .gt 102, 3) := by decide +kernel
theorem dX7_walk_35 : decode cX7_walk 35 = .ok (.iload_n 3, 1) := by decide +kernel
theorem dX7_walk_36 : decode cX7_walk 36 = .ok (.iload_n 2, 1) := by decide +kernel
theorem dX7_walk_37 : decode cX7_walk 37 = .ok (.invokestatic 135, 3) := by decide +kernel
theorem dX7_walk_40 : decode cX7_walk 40 = .ok (.ifCond .eq 6, 3) := by decide +kernel
theorem dX7_walk_43 : decode cX7_walk 43 = .ok (.iload 4, 2) := by decide +kernel
theorem dX7_walk_45 : decode cX7_walk 45 = .ok (.ireturn, 1) := by decide +kernel
theorem dX7_walk_46 : decode cX7_walk 46 = .ok (.iload_n 3, 1) := by decide +kernel
theorem dX7_walk_47 : decode cX7_walk 47 = .ok (.istore 5, 2) := by decide +kernel
theorem dX7_walk_49 : decode cX7_walk 49 = .ok (.iconst 0, 1) := by decide +kernel
theorem dX7_walk_50 : decode cX7_walk 50 = .ok (.istore 6, 2) := by decide +kernel
theorem dX7_walk_52 : decode cX7_walk 52 = .ok (.iload 6, 2) := by decide +kernel
theorem dX7_walk_54 : decode cX7_walk 54 = .ok (.aload_n 0, 1) := by decide +kernel
theorem dX7_walk_55 : decode cX7_walk 55 = .ok (.getfield 91, 3) := by decide +kernel
theorem dX7_walk_58 : decode cX7_walk 58 = .ok (.if_icmp .ge 67, 3) := by decide +kernel
theorem dX7_walk_61 : decode cX7_walk 61 = .ok (.aload_n 0, 1) := by decide +kernel
theorem dX7_walk_62 : decode cX7_walk 62 = .ok (.iload 6, 2) := by decide +kernel
theorem dX7_walk_64 : decode cX7_walk 64 = .ok (.invokevirtual 191, 3) := by decide +kernel
theorem dX7_walk_67 : decode cX7_walk 67 = .ok (.ifCond .ne 52, 3) := by decide +kernel
theorem dX7_walk_70 : decode cX7_walk 70 = .ok (.iload_n 3, 1) := by decide +kernel
theorem dX7_walk_71 : decode cX7_walk 71 = .ok (.aload_n 0, 1) := by decide +kernel
theorem dX7_walk_72 : decode cX7_walk 72 = .ok (.getfield 13, 3) := by decide +kernel
theorem dX7_walk_75 : decode cX7_walk 75 = .ok (.iload 6, 2) := by decide +kernel
theorem dX7_walk_77 : decode cX7_walk 77 = .ok (.iaload, 1) := by decide +kernel
theorem dX7_walk_78 : decode cX7_walk 78 = .ok (.invokestatic 135, 3) := by decide +kernel
theorem dX7_walk_81 : decode cX7_walk 81 = .ok (.iload_n 3, 1) := by decide +kernel
theorem dX7_walk_82 : decode cX7_walk 82 = .ok (.aload_n 0, 1) := by decide +kernel
theorem dX7_walk_83 : decode cX7_walk 83 = .ok (.getfield 16, 3) := by decide +kernel
theorem dX7_walk_86 : decode cX7_walk 86 = .ok (.iload 6, 2) := by decide +kernel
theorem dX7_walk_88 : decode cX7_walk 88 = .ok (.iaload, 1) := by decide +kernel
theorem dX7_walk_89 : decode cX7_walk 89 = .ok (.invokestatic 135, 3) := by decide +kernel
theorem dX7_walk_92 : decode cX7_walk 92 = .ok (.if_icmp .eq 27, 3) := by decide +kernel
theorem dX7_walk_95 : decode cX7_walk 95 = .ok (.iload 5, 2) := by decide +kernel
theorem dX7_walk_97 : decode cX7_walk 97 = .ok (.iconst 1, 1) := by decide +kernel
theorem dX7_walk_98 : decode cX7_walk 98 = .ok (.aload_n 0, 1) := by decide +kernel
theorem dX7_walk_99 : decode cX7_walk 99 = .ok (.getfield 13, 3) := by decide +kernel
theorem dX7_walk_102 : decode cX7_walk 102 = .ok (.iload 6, 2) := by decide +kernel
theorem dX7_walk_104 : decode cX7_walk 104 = .ok (.iaload, 1) := by decide +kernel
theorem dX7_walk_105 : decode cX7_walk 105 = .ok (.ishl, 1) := by decide +kernel
theorem dX7_walk_106 : decode cX7_walk 106 = .ok (.iconst 1, 1) := by decide +kernel
theorem dX7_walk_107 : decode cX7_walk 107 = .ok (.aload_n 0, 1) := by decide +kernel
theorem dX7_walk_108 : decode cX7_walk 108 = .ok (.getfield 16, 3) := by decide +kernel
theorem dX7_walk_111 : decode cX7_walk 111 = .ok (.iload 6, 2) := by decide +kernel
theorem dX7_walk_113 : decode cX7_walk 113 = .ok (.iaload, 1) := by decide +kernel
theorem dX7_walk_114 : decode cX7_walk 114 = .ok (.ishl, 1) := by decide +kernel
theorem dX7_walk_115 : decode cX7_walk 115 = .ok (.ior, 1) := by decide +kernel
theorem dX7_walk_116 : decode cX7_walk 116 = .ok (.ior, 1) := by decide +kernel
theorem dX7_walk_117 : decode cX7_walk 117 = .ok (.istore 5, 2) := by decide +kernel
theorem dX7_walk_119 : decode cX7_walk 119 = .ok (.iinc 6 1, 3) := by decide +kernel
theorem dX7_walk_122 : decode cX7_walk 122 = .ok (.goto (-70), 3) := by decide +kernel
theorem dX7_walk_125 : decode cX7_walk 125 = .ok (.iload 5, 2) := by decide +kernel
theorem dX7_walk_127 : decode cX7_walk 127 = .ok (.istore_n 3, 1) := by decide +kernel
theorem dX7_walk_128 : decode cX7_walk 128 = .ok (.iinc 4 1, 3) := by decide +kernel
theorem dX7_walk_131 : decode cX7_walk 131 = .ok (.goto (-105), 3) := by decide +kernel
theorem dX7_walk_134 : decode cX7_walk 134 = .ok (.iconst (-1), 1) := by decide +kernel
theorem dX7_walk_135 : decode cX7_walk 135 = .ok (.ireturn, 1) := by decide +kernel
theorem dX7_putBack_0 : decode cX7_putBack 0 = .ok (.iconst 0, 1) := by decide +kernel
theorem dX7_putBack_1 : decode cX7_putBack 1 = .ok (.istore_n 1, 1) := by decide +kernel
theorem dX7_putBack_2 : decode cX7_putBack 2 = .ok (.iload_n 1, 1) := by decide +kernel
theorem dX7_putBack_3 : decode cX7_putBack 3 = .ok (.bipush 122, 2) := by decide +kernel
theorem dX7_putBack_5 : decode cX7_putBack 5 = .ok (.if_icmp .ge 21, 3) := by decide +kernel
theorem dX7_putBack_8 : decode cX7_putBack 8 = .ok (.aload_n 0, 1) := by decide +kernel
theorem dX7_putBack_9 : decode cX7_putBack 9 = .ok (.getfield 23, 3) := by decide +kernel
theorem dX7_putBack_12 : decode cX7_putBack 12 = .ok (.iload_n 1, 1) := by decide +kernel
theorem dX7_putBack_13 : decode cX7_putBack 13 = .ok (.aload_n 0, 1) := by decide +kernel
theorem dX7_putBack_14 : decode cX7_putBack 14 = .ok (.getfield 60, 3) := by decide +kernel
theorem dX7_putBack_17 : decode cX7_putBack 17 = .ok (.iload_n 1, 1) := by decide +kernel
theorem dX7_putBack_18 : decode cX7_putBack 18 = .ok (.iaload, 1) := by decide +kernel
theorem dX7_putBack_19 : decode cX7_putBack 19 = .ok (.iastore, 1) := by decide +kernel
theorem dX7_putBack_20 : decode cX7_putBack 20 = .ok (.iinc 1 1, 3) := by decide +kernel
theorem dX7_putBack_23 : decode cX7_putBack 23 = .ok (.goto (-21), 3) := by decide +kernel
theorem dX7_putBack_26 : decode cX7_putBack 26 = .ok (.return_, 1) := by decide +kernel
set_option maxRecDepth 20000 in
theorem ggX7_fieldsBy_X7_mayPlant : GoodIn wsX7_fieldsBy wsX7_mayPlant := goodIn_r _ [8, 2, 9, 58, 59, 60, 61, 62, 63, 64, 65, 66, 67, 68, 69, 70, 71, 72, 73, 74, 75, 76, 77, 78, 79, 80, 81, 82, 83, 84, 85, 86, 87, 88, 89, 90, 91, 92, 93, 94, 95] (by decide +kernel) (by decide +kernel)
set_option maxRecDepth 20000 in
theorem gX7_fieldsBy_X7_mayPlant : GoodIn wsX7_fieldsBy (wsV RX7 223 RX7 yX7_mayPlant wsX7_mayPlant) := goodIn_app (goodIn_of _ (by decide +kernel)) ggX7_fieldsBy_X7_mayPlant
set_option maxRecDepth 20000 in
theorem ggX7_fieldsBy_X7_plantNow : GoodIn wsX7_fieldsBy wsX7_plantNow := goodIn_r _ [13, 2, 58, 59, 60, 61, 62, 63, 64, 65, 66, 67, 68, 69, 70, 71, 72, 73, 74, 75, 76, 77, 78, 79, 80, 81, 82, 83, 84, 85, 86, 87, 88, 89, 90, 91, 92, 93, 94, 95] (by decide +kernel) (by decide +kernel)
set_option maxRecDepth 20000 in
theorem gX7_fieldsBy_X7_plantNow : GoodIn wsX7_fieldsBy (wsV RX7 230 RX7 yX7_plantNow wsX7_plantNow) := goodIn_app (goodIn_of _ (by decide +kernel)) ggX7_fieldsBy_X7_plantNow
set_option maxRecDepth 20000 in
theorem ggX7_fieldsBy_X7_pass : GoodIn wsX7_fieldsBy wsX7_pass := goodIn_r _ [17, 1, 2, 3, 18, 19, 7, 20, 21, 22, 23, 24, 25, 26, 27, 28, 29, 30, 31, 32, 33, 34, 35, 36, 37, 38, 39, 40, 41, 42, 43, 44, 45, 46, 47, 48, 49, 58, 59, 60, 61, 62, 63, 64, 65, 66, 67, 68, 69, 70, 71, 72, 73, 74, 75, 76, 77, 78, 79, 80, 81, 82, 83, 84, 85, 86, 87, 88, 89, 90, 91, 92, 93, 94, 95] (by decide +kernel) (by decide +kernel)
set_option maxRecDepth 20000 in
theorem gX7_fieldsBy_X7_pass : GoodIn wsX7_fieldsBy (wsV RX7 239 RX7 yX7_pass wsX7_pass) := goodIn_app (goodIn_of _ (by decide +kernel)) ggX7_fieldsBy_X7_pass
set_option maxRecDepth 20000 in
theorem ggX7_fieldsBy_X7_bits : GoodIn wsX7_fieldsBy wsX7_bits := goodIn_r _ [52] (by decide +kernel) (by decide +kernel)
set_option maxRecDepth 20000 in
theorem gX7_fieldsBy_X7_bits : GoodIn wsX7_fieldsBy (va_wsS RX7 201 yX7_bits wsX7_bits) := goodIn_app (goodIn_of _ (by decide +kernel)) ggX7_fieldsBy_X7_bits
set_option maxRecDepth 20000 in
theorem ggX7_fieldsBy_X7_putBack : GoodIn wsX7_fieldsBy wsX7_putBack := goodIn_r _ [56, 2, 57, 58, 59, 60, 61, 62, 63, 64, 65, 66, 67, 68, 69, 70, 71, 72, 73, 74, 75, 76, 77, 78, 79, 80, 81, 82, 83, 84, 85, 86, 87, 88, 89, 90, 91, 92, 93, 94, 95] (by decide +kernel) (by decide +kernel)
set_option maxRecDepth 20000 in
theorem gX7_fieldsBy_X7_putBack : GoodIn wsX7_fieldsBy (wsV RX7 275 RX7 yX7_putBack wsX7_putBack) := goodIn_app (goodIn_of _ (by decide +kernel)) ggX7_fieldsBy_X7_putBack
theorem dX7_fieldsBy_0 : decode cX7_fieldsBy 0 = .ok (.iload_n 2, 1) := by decide +kernel
theorem dX7_fieldsBy_1 : decode cX7_fieldsBy 1 = .ok (.aload_n 0, 1) := by decide +kernel
theorem dX7_fieldsBy_2 : decode cX7_fieldsBy 2 = .ok (.getfield 91, 3) := by decide +kernel
theorem dX7_fieldsBy_5 : decode cX7_fieldsBy 5 = .ok (.if_icmp .eq 11, 3) := by decide +kernel
theorem dX7_fieldsBy_8 : decode cX7_fieldsBy 8 = .ok (.aload_n 0, 1) := by decide +kernel
theorem dX7_fieldsBy_9 : decode cX7_fieldsBy 9 = .ok (.iload_n 2, 1) := by decide +kernel
theorem dX7_fieldsBy_10 : decode cX7_fieldsBy 10 = .ok (.invokevirtual 223, 3) := by decide +kernel
theorem dX7_fieldsBy_13 : decode cX7_fieldsBy 13 = .ok (.ifCond .eq 36, 3) := by decide +kernel
theorem dX7_fieldsBy_16 : decode cX7_fieldsBy 16 = .ok (.iload_n 3, 1) := by decide +kernel
theorem dX7_fieldsBy_17 : decode cX7_fieldsBy 17 = .ok (.aload_n 0, 1) := by decide +kernel
theorem dX7_fieldsBy_18 : decode cX7_fieldsBy 18 = .ok (.getfield 91, 3) := by decide +kernel
theorem dX7_fieldsBy_21 : decode cX7_fieldsBy 21 = .ok (.if_icmp .eq 11, 3) := by decide +kernel
theorem dX7_fieldsBy_24 : decode cX7_fieldsBy 24 = .ok (.aload_n 0, 1) := by decide +kernel
theorem dX7_fieldsBy_25 : decode cX7_fieldsBy 25 = .ok (.iload_n 3, 1) := by decide +kernel
theorem dX7_fieldsBy_26 : decode cX7_fieldsBy 26 = .ok (.invokevirtual 223, 3) := by decide +kernel
theorem dX7_fieldsBy_29 : decode cX7_fieldsBy 29 = .ok (.ifCond .eq 20, 3) := by decide +kernel
theorem dX7_fieldsBy_32 : decode cX7_fieldsBy 32 = .ok (.iload_n 3, 1) := by decide +kernel
theorem dX7_fieldsBy_33 : decode cX7_fieldsBy 33 = .ok (.aload_n 0, 1) := by decide +kernel
theorem dX7_fieldsBy_34 : decode cX7_fieldsBy 34 = .ok (.getfield 91, 3) := by decide +kernel
theorem dX7_fieldsBy_37 : decode cX7_fieldsBy 37 = .ok (.if_icmp .eq 8, 3) := by decide +kernel
theorem dX7_fieldsBy_40 : decode cX7_fieldsBy 40 = .ok (.iload_n 3, 1) := by decide +kernel
theorem dX7_fieldsBy_41 : decode cX7_fieldsBy 41 = .ok (.iload_n 2, 1) := by decide +kernel
theorem dX7_fieldsBy_42 : decode cX7_fieldsBy 42 = .ok (.if_icmp .eq 7, 3) := by decide +kernel
theorem dX7_fieldsBy_45 : decode cX7_fieldsBy 45 = .ok (.iconst 1, 1) := by decide +kernel
theorem dX7_fieldsBy_46 : decode cX7_fieldsBy 46 = .ok (.goto 4, 3) := by decide +kernel
theorem dX7_fieldsBy_49 : decode cX7_fieldsBy 49 = .ok (.iconst 0, 1) := by decide +kernel
theorem dX7_fieldsBy_50 : decode cX7_fieldsBy 50 = .ok (.istore 5, 2) := by decide +kernel
theorem dX7_fieldsBy_52 : decode cX7_fieldsBy 52 = .ok (.iload 5, 2) := by decide +kernel
theorem dX7_fieldsBy_54 : decode cX7_fieldsBy 54 = .ok (.ifCond .ne 5, 3) := by decide +kernel
theorem dX7_fieldsBy_57 : decode cX7_fieldsBy 57 = .ok (.iconst (-1), 1) := by decide +kernel
theorem dX7_fieldsBy_58 : decode cX7_fieldsBy 58 = .ok (.ireturn, 1) := by decide +kernel
theorem dX7_fieldsBy_59 : decode cX7_fieldsBy 59 = .ok (.iload_n 2, 1) := by decide +kernel
theorem dX7_fieldsBy_60 : decode cX7_fieldsBy 60 = .ok (.aload_n 0, 1) := by decide +kernel
theorem dX7_fieldsBy_61 : decode cX7_fieldsBy 61 = .ok (.getfield 91, 3) := by decide +kernel
theorem dX7_fieldsBy_64 : decode cX7_fieldsBy 64 = .ok (.if_icmp .ge 9, 3) := by decide +kernel
theorem dX7_fieldsBy_67 : decode cX7_fieldsBy 67 = .ok (.aload_n 0, 1) := by decide +kernel
theorem dX7_fieldsBy_68 : decode cX7_fieldsBy 68 = .ok (.iload_n 2, 1) := by decide +kernel
theorem dX7_fieldsBy_69 : decode cX7_fieldsBy 69 = .ok (.iload_n 1, 1) := by decide +kernel
theorem dX7_fieldsBy_70 : decode cX7_fieldsBy 70 = .ok (.invokevirtual 230, 3) := by decide +kernel
theorem dX7_fieldsBy_73 : decode cX7_fieldsBy 73 = .ok (.iload_n 3, 1) := by decide +kernel
theorem dX7_fieldsBy_74 : decode cX7_fieldsBy 74 = .ok (.aload_n 0, 1) := by decide +kernel
theorem dX7_fieldsBy_75 : decode cX7_fieldsBy 75 = .ok (.getfield 91, 3) := by decide +kernel
theorem dX7_fieldsBy_78 : decode cX7_fieldsBy 78 = .ok (.if_icmp .ge 11, 3) := by decide +kernel
theorem dX7_fieldsBy_81 : decode cX7_fieldsBy 81 = .ok (.aload_n 0, 1) := by decide +kernel
theorem dX7_fieldsBy_82 : decode cX7_fieldsBy 82 = .ok (.iload_n 3, 1) := by decide +kernel
theorem dX7_fieldsBy_83 : decode cX7_fieldsBy 83 = .ok (.iconst 1, 1) := by decide +kernel
theorem dX7_fieldsBy_84 : decode cX7_fieldsBy 84 = .ok (.iload_n 1, 1) := by decide +kernel
theorem dX7_fieldsBy_85 : decode cX7_fieldsBy 85 = .ok (.isub, 1) := by decide +kernel
theorem dX7_fieldsBy_86 : decode cX7_fieldsBy 86 = .ok (.invokevirtual 230, 3) := by decide +kernel
theorem dX7_fieldsBy_89 : decode cX7_fieldsBy 89 = .ok (.iconst 0, 1) := by decide +kernel
theorem dX7_fieldsBy_90 : decode cX7_fieldsBy 90 = .ok (.istore 6, 2) := by decide +kernel
theorem dX7_fieldsBy_92 : decode cX7_fieldsBy 92 = .ok (.iload 6, 2) := by decide +kernel
theorem dX7_fieldsBy_94 : decode cX7_fieldsBy 94 = .ok (.iload 4, 2) := by decide +kernel
theorem dX7_fieldsBy_96 : decode cX7_fieldsBy 96 = .ok (.if_icmp .ge 13, 3) := by decide +kernel
theorem dX7_fieldsBy_99 : decode cX7_fieldsBy 99 = .ok (.aload_n 0, 1) := by decide +kernel
theorem dX7_fieldsBy_100 : decode cX7_fieldsBy 100 = .ok (.invokevirtual 239, 3) := by decide +kernel
theorem dX7_fieldsBy_103 : decode cX7_fieldsBy 103 = .ok (.iinc 6 1, 3) := by decide +kernel
theorem dX7_fieldsBy_106 : decode cX7_fieldsBy 106 = .ok (.goto (-14), 3) := by decide +kernel
theorem dX7_fieldsBy_109 : decode cX7_fieldsBy 109 = .ok (.iload_n 1, 1) := by decide +kernel
theorem dX7_fieldsBy_110 : decode cX7_fieldsBy 110 = .ok (.iconst 1, 1) := by decide +kernel
theorem dX7_fieldsBy_111 : decode cX7_fieldsBy 111 = .ok (.if_icmp .ne 16, 3) := by decide +kernel
theorem dX7_fieldsBy_114 : decode cX7_fieldsBy 114 = .ok (.aload_n 0, 1) := by decide +kernel
theorem dX7_fieldsBy_115 : decode cX7_fieldsBy 115 = .ok (.getfield 23, 3) := by decide +kernel
theorem dX7_fieldsBy_118 : decode cX7_fieldsBy 118 = .ok (.bipush 120, 2) := by decide +kernel
theorem dX7_fieldsBy_120 : decode cX7_fieldsBy 120 = .ok (.iaload, 1) := by decide +kernel
theorem dX7_fieldsBy_121 : decode cX7_fieldsBy 121 = .ok (.invokestatic 201, 3) := by decide +kernel
theorem dX7_fieldsBy_124 : decode cX7_fieldsBy 124 = .ok (.goto 18, 3) := by decide +kernel
theorem dX7_fieldsBy_127 : decode cX7_fieldsBy 127 = .ok (.aload_n 0, 1) := by decide +kernel
theorem dX7_fieldsBy_128 : decode cX7_fieldsBy 128 = .ok (.getfield 84, 3) := by decide +kernel
theorem dX7_fieldsBy_131 : decode cX7_fieldsBy 131 = .ok (.aload_n 0, 1) := by decide +kernel
theorem dX7_fieldsBy_132 : decode cX7_fieldsBy 132 = .ok (.getfield 23, 3) := by decide +kernel
theorem dX7_fieldsBy_135 : decode cX7_fieldsBy 135 = .ok (.bipush 120, 2) := by decide +kernel
theorem dX7_fieldsBy_137 : decode cX7_fieldsBy 137 = .ok (.iaload, 1) := by decide +kernel
theorem dX7_fieldsBy_138 : decode cX7_fieldsBy 138 = .ok (.invokestatic 201, 3) := by decide +kernel
theorem dX7_fieldsBy_141 : decode cX7_fieldsBy 141 = .ok (.isub, 1) := by decide +kernel
theorem dX7_fieldsBy_142 : decode cX7_fieldsBy 142 = .ok (.istore 6, 2) := by decide +kernel
theorem dX7_fieldsBy_144 : decode cX7_fieldsBy 144 = .ok (.aload_n 0, 1) := by decide +kernel
theorem dX7_fieldsBy_145 : decode cX7_fieldsBy 145 = .ok (.invokevirtual 275, 3) := by decide +kernel
theorem dX7_fieldsBy_148 : decode cX7_fieldsBy 148 = .ok (.iload 6, 2) := by decide +kernel
theorem dX7_fieldsBy_150 : decode cX7_fieldsBy 150 = .ok (.ireturn, 1) := by decide +kernel
set_option maxRecDepth 20000 in
theorem ggX7_turns_X7_isEstate : GoodIn wsX7_turns wsX7_isEstate := goodIn_r _ [12] (by decide +kernel) (by decide +kernel)
set_option maxRecDepth 20000 in
theorem gX7_turns_X7_isEstate : GoodIn wsX7_turns (va_wsS RX7 220 yX7_isEstate wsX7_isEstate) := goodIn_app (goodIn_of _ (by decide +kernel)) ggX7_turns_X7_isEstate
set_option maxRecDepth 20000 in
theorem ggX7_turns_X7_in : GoodIn wsX7_turns wsX7_in := goodIn_r _ [15] (by decide +kernel) (by decide +kernel)
set_option maxRecDepth 20000 in
theorem gX7_turns_X7_in : GoodIn wsX7_turns (va_wsS RX7 87 yX7_in wsX7_in) := goodIn_app (goodIn_of _ (by decide +kernel)) ggX7_turns_X7_in
set_option maxRecDepth 20000 in
theorem ggX7_turns_X7_fieldsBy : GoodIn wsX7_turns wsX7_fieldsBy := goodIn_r _ [19, 8, 7, 4, 20, 21, 22, 11, 23, 24, 25, 26, 27, 28, 29, 30, 31, 32, 33, 34, 35, 36, 37, 38, 39, 40, 41, 42, 43, 44, 45, 46, 47, 48, 49, 50, 51, 52, 53, 54, 55, 56, 57, 58, 59, 60, 61, 62, 63, 64, 65, 66, 67, 68, 69, 70, 71, 6, 72, 73, 74, 75, 76, 77, 78, 79, 80, 81, 82, 83, 84, 85, 86, 87, 88, 89, 90, 91, 92, 93, 94, 95, 96, 97, 98, 99, 100, 101, 102, 103, 104, 105, 106, 107, 108, 109] (by decide +kernel) (by decide +kernel)
set_option maxRecDepth 20000 in
theorem gX7_turns_X7_fieldsBy : GoodIn wsX7_turns (wsV RX7 280 RX7 yX7_fieldsBy wsX7_fieldsBy) := goodIn_app (goodIn_of _ (by decide +kernel)) ggX7_turns_X7_fieldsBy
theorem dX7_turns_0 : decode cX7_turns 0 = .ok (.iload_n 1, 1) := by decide +kernel
theorem dX7_turns_1 : decode cX7_turns 1 = .ok (.invokestatic 220, 3) := by decide +kernel
theorem dX7_turns_4 : decode cX7_turns 4 = .ok (.ifCond .ne 6, 3) := by decide +kernel
theorem dX7_turns_7 : decode cX7_turns 7 = .ok (.ldc 210, 2) := by decide +kernel
theorem dX7_turns_9 : decode cX7_turns 9 = .ok (.ireturn, 1) := by decide +kernel
theorem dX7_turns_10 : decode cX7_turns 10 = .ok (.iload_n 2, 1) := by decide +kernel
theorem dX7_turns_11 : decode cX7_turns 11 = .ok (.i2l, 1) := by decide +kernel
theorem dX7_turns_12 : decode cX7_turns 12 = .ok (.lconst 1, 1) := by decide +kernel
theorem dX7_turns_13 : decode cX7_turns 13 = .ok (.ldc2_w 278, 3) := by decide +kernel
theorem dX7_turns_16 : decode cX7_turns 16 = .ok (.invokestatic 87, 3) := by decide +kernel
theorem dX7_turns_19 : decode cX7_turns 19 = .ok (.ifCond .ne 6, 3) := by decide +kernel
theorem dX7_turns_22 : decode cX7_turns 22 = .ok (.ldc 96, 2) := by decide +kernel
theorem dX7_turns_24 : decode cX7_turns 24 = .ok (.ireturn, 1) := by decide +kernel
theorem dX7_turns_25 : decode cX7_turns 25 = .ok (.aload_n 0, 1) := by decide +kernel
theorem dX7_turns_26 : decode cX7_turns 26 = .ok (.getfield 84, 3) := by decide +kernel
theorem dX7_turns_29 : decode cX7_turns 29 = .ok (.ifCond .ne 6, 3) := by decide +kernel
theorem dX7_turns_32 : decode cX7_turns 32 = .ok (.ldc 226, 2) := by decide +kernel
theorem dX7_turns_34 : decode cX7_turns 34 = .ok (.ireturn, 1) := by decide +kernel
theorem dX7_turns_35 : decode cX7_turns 35 = .ok (.iconst 0, 1) := by decide +kernel
theorem dX7_turns_36 : decode cX7_turns 36 = .ok (.istore_n 3, 1) := by decide +kernel
theorem dX7_turns_37 : decode cX7_turns 37 = .ok (.iload_n 3, 1) := by decide +kernel
theorem dX7_turns_38 : decode cX7_turns 38 = .ok (.bipush 122, 2) := by decide +kernel
theorem dX7_turns_40 : decode cX7_turns 40 = .ok (.if_icmp .ge 21, 3) := by decide +kernel
theorem dX7_turns_43 : decode cX7_turns 43 = .ok (.aload_n 0, 1) := by decide +kernel
theorem dX7_turns_44 : decode cX7_turns 44 = .ok (.getfield 60, 3) := by decide +kernel
theorem dX7_turns_47 : decode cX7_turns 47 = .ok (.iload_n 3, 1) := by decide +kernel
theorem dX7_turns_48 : decode cX7_turns 48 = .ok (.aload_n 0, 1) := by decide +kernel
theorem dX7_turns_49 : decode cX7_turns 49 = .ok (.getfield 23, 3) := by decide +kernel
theorem dX7_turns_52 : decode cX7_turns 52 = .ok (.iload_n 3, 1) := by decide +kernel
theorem dX7_turns_53 : decode cX7_turns 53 = .ok (.iaload, 1) := by decide +kernel
theorem dX7_turns_54 : decode cX7_turns 54 = .ok (.iastore, 1) := by decide +kernel
theorem dX7_turns_55 : decode cX7_turns 55 = .ok (.iinc 3 1, 3) := by decide +kernel
theorem dX7_turns_58 : decode cX7_turns 58 = .ok (.goto (-21), 3) := by decide +kernel
theorem dX7_turns_61 : decode cX7_turns 61 = .ok (.iconst (-1), 1) := by decide +kernel
theorem dX7_turns_62 : decode cX7_turns 62 = .ok (.istore_n 3, 1) := by decide +kernel
theorem dX7_turns_63 : decode cX7_turns 63 = .ok (.iconst 0, 1) := by decide +kernel
theorem dX7_turns_64 : decode cX7_turns 64 = .ok (.istore 4, 2) := by decide +kernel
theorem dX7_turns_66 : decode cX7_turns 66 = .ok (.iload 4, 2) := by decide +kernel
theorem dX7_turns_68 : decode cX7_turns 68 = .ok (.aload_n 0, 1) := by decide +kernel
theorem dX7_turns_69 : decode cX7_turns 69 = .ok (.getfield 91, 3) := by decide +kernel
theorem dX7_turns_72 : decode cX7_turns 72 = .ok (.if_icmp .gt 81, 3) := by decide +kernel
theorem dX7_turns_75 : decode cX7_turns 75 = .ok (.iconst (-1), 1) := by decide +kernel
theorem dX7_turns_76 : decode cX7_turns 76 = .ok (.istore 5, 2) := by decide +kernel
theorem dX7_turns_78 : decode cX7_turns 78 = .ok (.iconst 0, 1) := by decide +kernel
theorem dX7_turns_79 : decode cX7_turns 79 = .ok (.istore 6, 2) := by decide +kernel
theorem dX7_turns_81 : decode cX7_turns 81 = .ok (.iload 6, 2) := by decide +kernel
theorem dX7_turns_83 : decode cX7_turns 83 = .ok (.aload_n 0, 1) := by decide +kernel
theorem dX7_turns_84 : decode cX7_turns 84 = .ok (.getfield 91, 3) := by decide +kernel
theorem dX7_turns_87 : decode cX7_turns 87 = .ok (.if_icmp .gt 47, 3) := by decide +kernel
theorem dX7_turns_90 : decode cX7_turns 90 = .ok (.aload_n 0, 1) := by decide +kernel
theorem dX7_turns_91 : decode cX7_turns 91 = .ok (.iload_n 1, 1) := by decide +kernel
theorem dX7_turns_92 : decode cX7_turns 92 = .ok (.iload 4, 2) := by decide +kernel
theorem dX7_turns_94 : decode cX7_turns 94 = .ok (.iload 6, 2) := by decide +kernel
theorem dX7_turns_96 : decode cX7_turns 96 = .ok (.iload_n 2, 1) := by decide +kernel
theorem dX7_turns_97 : decode cX7_turns 97 = .ok (.invokevirtual 280, 3) := by decide +kernel
theorem dX7_turns_100 : decode cX7_turns 100 = .ok (.istore 7, 2) := by decide +kernel
theorem dX7_turns_102 : decode cX7_turns 102 = .ok (.iload 7, 2) := by decide +kernel
theorem dX7_turns_104 : decode cX7_turns 104 = .ok (.ifCond .lt 20, 3) := by decide +kernel
theorem dX7_turns_107 : decode cX7_turns 107 = .ok (.iload 5, 2) := by decide +kernel
theorem dX7_turns_109 : decode cX7_turns 109 = .ok (.ifCond .lt 10, 3) := by decide +kernel
theorem dX7_turns_112 : decode cX7_turns 112 = .ok (.iload 7, 2) := by decide +kernel
theorem dX7_turns_114 : decode cX7_turns 114 = .ok (.iload 5, 2) := by decide +kernel
theorem dX7_turns_116 : decode cX7_turns 116 = .ok (.if_icmp .ge 8, 3) := by decide +kernel
theorem dX7_turns_119 : decode cX7_turns 119 = .ok (.iload 7, 2) := by decide +kernel
theorem dX7_turns_121 : decode cX7_turns 121 = .ok (.goto 5, 3) := by decide +kernel
theorem dX7_turns_124 : decode cX7_turns 124 = .ok (.iload 5, 2) := by decide +kernel
theorem dX7_turns_126 : decode cX7_turns 126 = .ok (.istore 5, 2) := by decide +kernel
theorem dX7_turns_128 : decode cX7_turns 128 = .ok (.iinc 6 1, 3) := by decide +kernel
theorem dX7_turns_131 : decode cX7_turns 131 = .ok (.goto (-50), 3) := by decide +kernel
theorem dX7_turns_134 : decode cX7_turns 134 = .ok (.iload 5, 2) := by decide +kernel
theorem dX7_turns_136 : decode cX7_turns 136 = .ok (.iload_n 3, 1) := by decide +kernel
theorem dX7_turns_137 : decode cX7_turns 137 = .ok (.if_icmp .le 8, 3) := by decide +kernel
theorem dX7_turns_140 : decode cX7_turns 140 = .ok (.iload 5, 2) := by decide +kernel
theorem dX7_turns_142 : decode cX7_turns 142 = .ok (.goto 4, 3) := by decide +kernel
theorem dX7_turns_145 : decode cX7_turns 145 = .ok (.iload_n 3, 1) := by decide +kernel
theorem dX7_turns_146 : decode cX7_turns 146 = .ok (.istore_n 3, 1) := by decide +kernel
theorem dX7_turns_147 : decode cX7_turns 147 = .ok (.iinc 4 1, 3) := by decide +kernel
theorem dX7_turns_150 : decode cX7_turns 150 = .ok (.goto (-84), 3) := by decide +kernel
theorem dX7_turns_153 : decode cX7_turns 153 = .ok (.iload_n 3, 1) := by decide +kernel
theorem dX7_turns_154 : decode cX7_turns 154 = .ok (.ireturn, 1) := by decide +kernel
set_option maxRecDepth 20000 in
theorem ggX7_birds_X7_in : GoodIn wsX7_birds wsX7_in := goodIn_r _ [8] (by decide +kernel) (by decide +kernel)
set_option maxRecDepth 20000 in
theorem gX7_birds_X7_in : GoodIn wsX7_birds (va_wsS RX7 87 yX7_in wsX7_in) := goodIn_app (goodIn_of _ (by decide +kernel)) ggX7_birds_X7_in
theorem dX7_birds_0 : decode cX7_birds 0 = .ok (.iload_n 1, 1) := by decide +kernel
theorem dX7_birds_1 : decode cX7_birds 1 = .ok (.i2l, 1) := by decide +kernel
theorem dX7_birds_2 : decode cX7_birds 2 = .ok (.lconst 0, 1) := by decide +kernel
theorem dX7_birds_3 : decode cX7_birds 3 = .ok (.ldc2_w 284, 3) := by decide +kernel
theorem dX7_birds_6 : decode cX7_birds 6 = .ok (.invokestatic 87, 3) := by decide +kernel
theorem dX7_birds_9 : decode cX7_birds 9 = .ok (.ifCond .eq 15, 3) := by decide +kernel
theorem dX7_birds_12 : decode cX7_birds 12 = .ok (.iload_n 2, 1) := by decide +kernel
theorem dX7_birds_13 : decode cX7_birds 13 = .ok (.i2l, 1) := by decide +kernel
theorem dX7_birds_14 : decode cX7_birds 14 = .ok (.lconst 0, 1) := by decide +kernel
theorem dX7_birds_15 : decode cX7_birds 15 = .ok (.ldc2_w 286, 3) := by decide +kernel
theorem dX7_birds_18 : decode cX7_birds 18 = .ok (.invokestatic 87, 3) := by decide +kernel
theorem dX7_birds_21 : decode cX7_birds 21 = .ok (.ifCond .ne 6, 3) := by decide +kernel
theorem dX7_birds_24 : decode cX7_birds 24 = .ok (.ldc 96, 2) := by decide +kernel
theorem dX7_birds_26 : decode cX7_birds 26 = .ok (.ireturn, 1) := by decide +kernel
theorem dX7_birds_27 : decode cX7_birds 27 = .ok (.ldc2_w 288, 3) := by decide +kernel
theorem dX7_birds_30 : decode cX7_birds 30 = .ok (.lstore_n 3, 1) := by decide +kernel
theorem dX7_birds_31 : decode cX7_birds 31 = .ok (.iconst 0, 1) := by decide +kernel
theorem dX7_birds_32 : decode cX7_birds 32 = .ok (.istore 5, 2) := by decide +kernel
theorem dX7_birds_34 : decode cX7_birds 34 = .ok (.iload 5, 2) := by decide +kernel
theorem dX7_birds_36 : decode cX7_birds 36 = .ok (.iload_n 1, 1) := by decide +kernel
theorem dX7_birds_37 : decode cX7_birds 37 = .ok (.if_icmp .ge 21, 3) := by decide +kernel
theorem dX7_birds_40 : decode cX7_birds 40 = .ok (.lload_n 3, 1) := by decide +kernel
theorem dX7_birds_41 : decode cX7_birds 41 = .ok (.bipush 100, 2) := by decide +kernel
theorem dX7_birds_43 : decode cX7_birds 43 = .ok (.iload_n 2, 1) := by decide +kernel
theorem dX7_birds_44 : decode cX7_birds 44 = .ok (.isub, 1) := by decide +kernel
theorem dX7_birds_45 : decode cX7_birds 45 = .ok (.i2l, 1) := by decide +kernel
theorem dX7_birds_46 : decode cX7_birds 46 = .ok (.lmul, 1) := by decide +kernel
theorem dX7_birds_47 : decode cX7_birds 47 = .ok (.ldc2_w 286, 3) := by decide +kernel
theorem dX7_birds_50 : decode cX7_birds 50 = .ok (.ldiv, 1) := by decide +kernel
theorem dX7_birds_51 : decode cX7_birds 51 = .ok (.lstore_n 3, 1) := by decide +kernel
theorem dX7_birds_52 : decode cX7_birds 52 = .ok (.iinc 5 1, 3) := by decide +kernel
theorem dX7_birds_55 : decode cX7_birds 55 = .ok (.goto (-21), 3) := by decide +kernel
theorem dX7_birds_58 : decode cX7_birds 58 = .ok (.lload_n 3, 1) := by decide +kernel
theorem dX7_birds_59 : decode cX7_birds 59 = .ok (.l2i, 1) := by decide +kernel
theorem dX7_birds_60 : decode cX7_birds 60 = .ok (.ireturn, 1) := by decide +kernel
set_option maxRecDepth 20000 in
theorem ggX7_root_X7_isEdge : GoodIn wsX7_root wsX7_isEdge := goodIn_r _ [12, 13, 14, 15, 11, 16, 17, 18, 19, 20, 21, 22, 23, 24, 25, 26, 27, 28, 29, 30, 31, 32, 33, 34, 35, 36, 37, 38, 39, 40, 41, 42, 43, 44, 45, 46, 47, 48, 49, 50, 51, 52, 53, 54] (by decide +kernel) (by decide +kernel)
set_option maxRecDepth 20000 in
theorem gX7_root_X7_isEdge : GoodIn wsX7_root (wsV RX7 217 RX7 yX7_isEdge wsX7_isEdge) := goodIn_app (goodIn_of _ (by decide +kernel)) ggX7_root_X7_isEdge
set_option maxRecDepth 20000 in
theorem ggX7_root_X7_in : GoodIn wsX7_root wsX7_in := goodIn_r _ [16] (by decide +kernel) (by decide +kernel)
set_option maxRecDepth 20000 in
theorem gX7_root_X7_in : GoodIn wsX7_root (va_wsS RX7 87 yX7_in wsX7_in) := goodIn_app (goodIn_of _ (by decide +kernel)) ggX7_root_X7_in
theorem dX7_root_0 : decode cX7_root 0 = .ok (.aload_n 0, 1) := by decide +kernel
theorem dX7_root_1 : decode cX7_root 1 = .ok (.iload_n 1, 1) := by decide +kernel
theorem dX7_root_2 : decode cX7_root 2 = .ok (.invokevirtual 217, 3) := by decide +kernel
theorem dX7_root_5 : decode cX7_root 5 = .ok (.ifCond .ne 6, 3) := by decide +kernel
theorem dX7_root_8 : decode cX7_root 8 = .ok (.ldc 210, 2) := by decide +kernel
theorem dX7_root_10 : decode cX7_root 10 = .ok (.ireturn, 1) := by decide +kernel
theorem dX7_root_11 : decode cX7_root 11 = .ok (.iload_n 2, 1) := by decide +kernel
theorem dX7_root_12 : decode cX7_root 12 = .ok (.i2l, 1) := by decide +kernel
theorem dX7_root_13 : decode cX7_root 13 = .ok (.lconst 0, 1) := by decide +kernel
theorem dX7_root_14 : decode cX7_root 14 = .ok (.ldc2_w 290, 3) := by decide +kernel
theorem dX7_root_17 : decode cX7_root 17 = .ok (.invokestatic 87, 3) := by decide +kernel
theorem dX7_root_20 : decode cX7_root 20 = .ok (.ifCond .ne 6, 3) := by decide +kernel
theorem dX7_root_23 : decode cX7_root 23 = .ok (.ldc 96, 2) := by decide +kernel
theorem dX7_root_25 : decode cX7_root 25 = .ok (.ireturn, 1) := by decide +kernel
theorem dX7_root_26 : decode cX7_root 26 = .ok (.aload_n 0, 1) := by decide +kernel
theorem dX7_root_27 : decode cX7_root 27 = .ok (.getfield 175, 3) := by decide +kernel
theorem dX7_root_30 : decode cX7_root 30 = .ok (.bipush 6, 2) := by decide +kernel
theorem dX7_root_32 : decode cX7_root 32 = .ok (.if_icmp .ne 6, 3) := by decide +kernel
theorem dX7_root_35 : decode cX7_root 35 = .ok (.ldc 100, 2) := by decide +kernel
theorem dX7_root_37 : decode cX7_root 37 = .ok (.ireturn, 1) := by decide +kernel
theorem dX7_root_38 : decode cX7_root 38 = .ok (.aload_n 0, 1) := by decide +kernel
theorem dX7_root_39 : decode cX7_root 39 = .ok (.getfield 63, 3) := by decide +kernel
theorem dX7_root_42 : decode cX7_root 42 = .ok (.aload_n 0, 1) := by decide +kernel
theorem dX7_root_43 : decode cX7_root 43 = .ok (.getfield 175, 3) := by decide +kernel
theorem dX7_root_46 : decode cX7_root 46 = .ok (.iload_n 1, 1) := by decide +kernel
theorem dX7_root_47 : decode cX7_root 47 = .ok (.iastore, 1) := by decide +kernel
theorem dX7_root_48 : decode cX7_root 48 = .ok (.aload_n 0, 1) := by decide +kernel
theorem dX7_root_49 : decode cX7_root 49 = .ok (.getfield 66, 3) := by decide +kernel
theorem dX7_root_52 : decode cX7_root 52 = .ok (.aload_n 0, 1) := by decide +kernel
theorem dX7_root_53 : decode cX7_root 53 = .ok (.getfield 175, 3) := by decide +kernel
theorem dX7_root_56 : decode cX7_root 56 = .ok (.iload_n 2, 1) := by decide +kernel
theorem dX7_root_57 : decode cX7_root 57 = .ok (.iastore, 1) := by decide +kernel
theorem dX7_root_58 : decode cX7_root 58 = .ok (.aload_n 0, 1) := by decide +kernel
theorem dX7_root_59 : decode cX7_root 59 = .ok (.dup, 1) := by decide +kernel
theorem dX7_root_60 : decode cX7_root 60 = .ok (.getfield 175, 3) := by decide +kernel
theorem dX7_root_63 : decode cX7_root 63 = .ok (.iconst 1, 1) := by decide +kernel
theorem dX7_root_64 : decode cX7_root 64 = .ok (.iadd, 1) := by decide +kernel
theorem dX7_root_65 : decode cX7_root 65 = .ok (.putfield 175, 3) := by decide +kernel
theorem dX7_root_68 : decode cX7_root 68 = .ok (.aload_n 0, 1) := by decide +kernel
theorem dX7_root_69 : decode cX7_root 69 = .ok (.getfield 175, 3) := by decide +kernel
theorem dX7_root_72 : decode cX7_root 72 = .ok (.ireturn, 1) := by decide +kernel
set_option maxRecDepth 20000 in
theorem ggX7_yearsAgo_X7_heightBy : GoodIn wsX7_yearsAgo wsX7_heightBy := goodIn_r _ [8, 9, 10, 11, 7, 12, 13, 14, 15, 16, 17, 18, 19, 20, 21, 22, 23, 24, 25, 26, 27, 28, 29, 30, 31, 32, 33, 34, 35, 36, 37, 38, 39, 40, 41, 42, 43, 44, 45, 46, 47, 48, 49, 50, 51, 52, 53] (by decide +kernel) (by decide +kernel)
set_option maxRecDepth 20000 in
theorem gX7_yearsAgo_X7_heightBy : GoodIn wsX7_yearsAgo (wsV RX7 188 RX7 yX7_heightBy wsX7_heightBy) := goodIn_app (goodIn_of _ (by decide +kernel)) ggX7_yearsAgo_X7_heightBy
theorem dX7_yearsAgo_0 : decode cX7_yearsAgo 0 = .ok (.iconst 0, 1) := by decide +kernel
theorem dX7_yearsAgo_1 : decode cX7_yearsAgo 1 = .ok (.istore_n 1, 1) := by decide +kernel
theorem dX7_yearsAgo_2 : decode cX7_yearsAgo 2 = .ok (.iconst 0, 1) := by decide +kernel
theorem dX7_yearsAgo_3 : decode cX7_yearsAgo 3 = .ok (.istore_n 2, 1) := by decide +kernel
theorem dX7_yearsAgo_4 : decode cX7_yearsAgo 4 = .ok (.iload_n 2, 1) := by decide +kernel
theorem dX7_yearsAgo_5 : decode cX7_yearsAgo 5 = .ok (.bipush 21, 2) := by decide +kernel
theorem dX7_yearsAgo_7 : decode cX7_yearsAgo 7 = .ok (.if_icmp .ge 75, 3) := by decide +kernel
theorem dX7_yearsAgo_10 : decode cX7_yearsAgo 10 = .ok (.iconst 1, 1) := by decide +kernel
theorem dX7_yearsAgo_11 : decode cX7_yearsAgo 11 = .ok (.istore_n 3, 1) := by decide +kernel
theorem dX7_yearsAgo_12 : decode cX7_yearsAgo 12 = .ok (.iconst 0, 1) := by decide +kernel
theorem dX7_yearsAgo_13 : decode cX7_yearsAgo 13 = .ok (.istore 4, 2) := by decide +kernel
theorem dX7_yearsAgo_15 : decode cX7_yearsAgo 15 = .ok (.iload 4, 2) := by decide +kernel
theorem dX7_yearsAgo_17 : decode cX7_yearsAgo 17 = .ok (.aload_n 0, 1) := by decide +kernel
theorem dX7_yearsAgo_18 : decode cX7_yearsAgo 18 = .ok (.getfield 175, 3) := by decide +kernel
theorem dX7_yearsAgo_21 : decode cX7_yearsAgo 21 = .ok (.if_icmp .ge 41, 3) := by decide +kernel
theorem dX7_yearsAgo_24 : decode cX7_yearsAgo 24 = .ok (.iload_n 3, 1) := by decide +kernel
theorem dX7_yearsAgo_25 : decode cX7_yearsAgo 25 = .ok (.ifCond .eq 29, 3) := by decide +kernel
theorem dX7_yearsAgo_28 : decode cX7_yearsAgo 28 = .ok (.aload_n 0, 1) := by decide +kernel
theorem dX7_yearsAgo_29 : decode cX7_yearsAgo 29 = .ok (.aload_n 0, 1) := by decide +kernel
theorem dX7_yearsAgo_30 : decode cX7_yearsAgo 30 = .ok (.getfield 63, 3) := by decide +kernel
theorem dX7_yearsAgo_33 : decode cX7_yearsAgo 33 = .ok (.iload 4, 2) := by decide +kernel
theorem dX7_yearsAgo_35 : decode cX7_yearsAgo 35 = .ok (.iaload, 1) := by decide +kernel
theorem dX7_yearsAgo_36 : decode cX7_yearsAgo 36 = .ok (.iload_n 2, 1) := by decide +kernel
theorem dX7_yearsAgo_37 : decode cX7_yearsAgo 37 = .ok (.invokevirtual 188, 3) := by decide +kernel
theorem dX7_yearsAgo_40 : decode cX7_yearsAgo 40 = .ok (.aload_n 0, 1) := by decide +kernel
theorem dX7_yearsAgo_41 : decode cX7_yearsAgo 41 = .ok (.getfield 66, 3) := by decide +kernel
theorem dX7_yearsAgo_44 : decode cX7_yearsAgo 44 = .ok (.iload 4, 2) := by decide +kernel
theorem dX7_yearsAgo_46 : decode cX7_yearsAgo 46 = .ok (.iaload, 1) := by decide +kernel
theorem dX7_yearsAgo_47 : decode cX7_yearsAgo 47 = .ok (.if_icmp .ne 7, 3) := by decide +kernel
theorem dX7_yearsAgo_50 : decode cX7_yearsAgo 50 = .ok (.iconst 1, 1) := by decide +kernel
theorem dX7_yearsAgo_51 : decode cX7_yearsAgo 51 = .ok (.goto 4, 3) := by decide +kernel
theorem dX7_yearsAgo_54 : decode cX7_yearsAgo 54 = .ok (.iconst 0, 1) := by decide +kernel
theorem dX7_yearsAgo_55 : decode cX7_yearsAgo 55 = .ok (.istore_n 3, 1) := by decide +kernel
theorem dX7_yearsAgo_56 : decode cX7_yearsAgo 56 = .ok (.iinc 4 1, 3) := by decide +kernel
theorem dX7_yearsAgo_59 : decode cX7_yearsAgo 59 = .ok (.goto (-44), 3) := by decide +kernel
theorem dX7_yearsAgo_62 : decode cX7_yearsAgo 62 = .ok (.iload_n 1, 1) := by decide +kernel
theorem dX7_yearsAgo_63 : decode cX7_yearsAgo 63 = .ok (.iload_n 3, 1) := by decide +kernel
theorem dX7_yearsAgo_64 : decode cX7_yearsAgo 64 = .ok (.ifCond .eq 9, 3) := by decide +kernel
theorem dX7_yearsAgo_67 : decode cX7_yearsAgo 67 = .ok (.iconst 1, 1) := by decide +kernel
theorem dX7_yearsAgo_68 : decode cX7_yearsAgo 68 = .ok (.iload_n 2, 1) := by decide +kernel
theorem dX7_yearsAgo_69 : decode cX7_yearsAgo 69 = .ok (.ishl, 1) := by decide +kernel
theorem dX7_yearsAgo_70 : decode cX7_yearsAgo 70 = .ok (.goto 4, 3) := by decide +kernel
theorem dX7_yearsAgo_73 : decode cX7_yearsAgo 73 = .ok (.iconst 0, 1) := by decide +kernel
theorem dX7_yearsAgo_74 : decode cX7_yearsAgo 74 = .ok (.ior, 1) := by decide +kernel
theorem dX7_yearsAgo_75 : decode cX7_yearsAgo 75 = .ok (.istore_n 1, 1) := by decide +kernel
theorem dX7_yearsAgo_76 : decode cX7_yearsAgo 76 = .ok (.iinc 2 1, 3) := by decide +kernel
theorem dX7_yearsAgo_79 : decode cX7_yearsAgo 79 = .ok (.goto (-75), 3) := by decide +kernel
theorem dX7_yearsAgo_82 : decode cX7_yearsAgo 82 = .ok (.iload_n 1, 1) := by decide +kernel
theorem dX7_yearsAgo_83 : decode cX7_yearsAgo 83 = .ok (.ireturn, 1) := by decide +kernel
set_option maxRecDepth 20000 in
theorem ggX7_plantedAgo_X7_yearsAgo : GoodIn wsX7_plantedAgo wsX7_yearsAgo := goodIn_r _ [5, 6, 7, 8, 9, 10, 11, 4, 12, 13, 14, 15, 16, 17, 18, 19, 20, 21, 22, 23, 24, 25, 26, 27, 28, 29, 30, 31, 32, 33, 34, 35, 36, 37, 38, 39, 40, 41, 42, 43, 44, 45, 46, 47, 48, 49, 50, 51, 52, 53, 54, 55, 56, 57] (by decide +kernel) (by decide +kernel)
set_option maxRecDepth 20000 in
theorem gX7_plantedAgo_X7_yearsAgo : GoodIn wsX7_plantedAgo (wsV RX7 292 RX7 yX7_yearsAgo wsX7_yearsAgo) := goodIn_app (goodIn_of _ (by decide +kernel)) ggX7_plantedAgo_X7_yearsAgo
theorem dX7_plantedAgo_0 : decode cX7_plantedAgo 0 = .ok (.aload_n 0, 1) := by decide +kernel
theorem dX7_plantedAgo_1 : decode cX7_plantedAgo 1 = .ok (.invokevirtual 292, 3) := by decide +kernel
theorem dX7_plantedAgo_4 : decode cX7_plantedAgo 4 = .ok (.ireturn, 1) := by decide +kernel
set_option maxRecDepth 20000 in
theorem ggX7_greatestPart_X7_has : GoodIn wsX7_greatestPart wsX7_has := goodIn_r _ [5] (by decide +kernel) (by decide +kernel)
set_option maxRecDepth 20000 in
theorem gX7_greatestPart_X7_has : GoodIn wsX7_greatestPart (va_wsS RX7 135 yX7_has wsX7_has) := goodIn_app (goodIn_of _ (by decide +kernel)) ggX7_greatestPart_X7_has
set_option maxRecDepth 20000 in
theorem ggX7_greatestPart_X7_heightBy : GoodIn wsX7_greatestPart wsX7_heightBy := goodIn_r _ [9, 10, 11, 12, 4, 13, 14, 15, 16, 17, 18, 19, 20, 21, 22, 23, 24, 25, 26, 27, 28, 29, 30, 31, 32, 33, 34, 35, 36, 37, 38, 39, 40, 41, 42, 43, 44, 45, 46, 47, 48, 49, 50, 51, 52, 53, 54] (by decide +kernel) (by decide +kernel)
set_option maxRecDepth 20000 in
theorem gX7_greatestPart_X7_heightBy : GoodIn wsX7_greatestPart (wsV RX7 188 RX7 yX7_heightBy wsX7_heightBy) := goodIn_app (goodIn_of _ (by decide +kernel)) ggX7_greatestPart_X7_heightBy
theorem dX7_greatestPart_0 : decode cX7_greatestPart 0 = .ok (.iconst 0, 1) := by decide +kernel
theorem dX7_greatestPart_1 : decode cX7_greatestPart 1 = .ok (.istore_n 3, 1) := by decide +kernel
theorem dX7_greatestPart_2 : decode cX7_greatestPart 2 = .ok (.iload_n 3, 1) := by decide +kernel
theorem dX7_greatestPart_3 : decode cX7_greatestPart 3 = .ok (.bipush 100, 2) := by decide +kernel
theorem dX7_greatestPart_5 : decode cX7_greatestPart 5 = .ok (.if_icmp .ge 16, 3) := by decide +kernel
theorem dX7_greatestPart_8 : decode cX7_greatestPart 8 = .ok (.aload_n 0, 1) := by decide +kernel
theorem dX7_greatestPart_9 : decode cX7_greatestPart 9 = .ok (.getfield 69, 3) := by decide +kernel
theorem dX7_greatestPart_12 : decode cX7_greatestPart 12 = .ok (.iload_n 3, 1) := by decide +kernel
theorem dX7_greatestPart_13 : decode cX7_greatestPart 13 = .ok (.iconst 0, 1) := by decide +kernel
theorem dX7_greatestPart_14 : decode cX7_greatestPart 14 = .ok (.iastore, 1) := by decide +kernel
theorem dX7_greatestPart_15 : decode cX7_greatestPart 15 = .ok (.iinc 3 1, 3) := by decide +kernel
theorem dX7_greatestPart_18 : decode cX7_greatestPart 18 = .ok (.goto (-16), 3) := by decide +kernel
theorem dX7_greatestPart_21 : decode cX7_greatestPart 21 = .ok (.iconst 0, 1) := by decide +kernel
theorem dX7_greatestPart_22 : decode cX7_greatestPart 22 = .ok (.istore_n 3, 1) := by decide +kernel
theorem dX7_greatestPart_23 : decode cX7_greatestPart 23 = .ok (.iconst 0, 1) := by decide +kernel
theorem dX7_greatestPart_24 : decode cX7_greatestPart 24 = .ok (.istore 4, 2) := by decide +kernel
theorem dX7_greatestPart_26 : decode cX7_greatestPart 26 = .ok (.iload 4, 2) := by decide +kernel
theorem dX7_greatestPart_28 : decode cX7_greatestPart 28 = .ok (.bipush 21, 2) := by decide +kernel
theorem dX7_greatestPart_30 : decode cX7_greatestPart 30 = .ok (.if_icmp .ge 61, 3) := by decide +kernel
theorem dX7_greatestPart_33 : decode cX7_greatestPart 33 = .ok (.iload_n 2, 1) := by decide +kernel
theorem dX7_greatestPart_34 : decode cX7_greatestPart 34 = .ok (.iload 4, 2) := by decide +kernel
theorem dX7_greatestPart_36 : decode cX7_greatestPart 36 = .ok (.invokestatic 135, 3) := by decide +kernel
theorem dX7_greatestPart_39 : decode cX7_greatestPart 39 = .ok (.ifCond .eq 46, 3) := by decide +kernel
theorem dX7_greatestPart_42 : decode cX7_greatestPart 42 = .ok (.aload_n 0, 1) := by decide +kernel
theorem dX7_greatestPart_43 : decode cX7_greatestPart 43 = .ok (.iload_n 1, 1) := by decide +kernel
theorem dX7_greatestPart_44 : decode cX7_greatestPart 44 = .ok (.iload 4, 2) := by decide +kernel
theorem dX7_greatestPart_46 : decode cX7_greatestPart 46 = .ok (.invokevirtual 188, 3) := by decide +kernel
theorem dX7_greatestPart_49 : decode cX7_greatestPart 49 = .ok (.istore 5, 2) := by decide +kernel
theorem dX7_greatestPart_51 : decode cX7_greatestPart 51 = .ok (.aload_n 0, 1) := by decide +kernel
theorem dX7_greatestPart_52 : decode cX7_greatestPart 52 = .ok (.getfield 69, 3) := by decide +kernel
theorem dX7_greatestPart_55 : decode cX7_greatestPart 55 = .ok (.iload 5, 2) := by decide +kernel
theorem dX7_greatestPart_57 : decode cX7_greatestPart 57 = .ok (.dup2, 1) := by decide +kernel
theorem dX7_greatestPart_58 : decode cX7_greatestPart 58 = .ok (.iaload, 1) := by decide +kernel
theorem dX7_greatestPart_59 : decode cX7_greatestPart 59 = .ok (.iconst 1, 1) := by decide +kernel
theorem dX7_greatestPart_60 : decode cX7_greatestPart 60 = .ok (.iadd, 1) := by decide +kernel
theorem dX7_greatestPart_61 : decode cX7_greatestPart 61 = .ok (.iastore, 1) := by decide +kernel
theorem dX7_greatestPart_62 : decode cX7_greatestPart 62 = .ok (.aload_n 0, 1) := by decide +kernel
theorem dX7_greatestPart_63 : decode cX7_greatestPart 63 = .ok (.getfield 69, 3) := by decide +kernel
theorem dX7_greatestPart_66 : decode cX7_greatestPart 66 = .ok (.iload 5, 2) := by decide +kernel
theorem dX7_greatestPart_68 : decode cX7_greatestPart 68 = .ok (.iaload, 1) := by decide +kernel
theorem dX7_greatestPart_69 : decode cX7_greatestPart 69 = .ok (.iload_n 3, 1) := by decide +kernel
theorem dX7_greatestPart_70 : decode cX7_greatestPart 70 = .ok (.if_icmp .le 13, 3) := by decide +kernel
theorem dX7_greatestPart_73 : decode cX7_greatestPart 73 = .ok (.aload_n 0, 1) := by decide +kernel
theorem dX7_greatestPart_74 : decode cX7_greatestPart 74 = .ok (.getfield 69, 3) := by decide +kernel
theorem dX7_greatestPart_77 : decode cX7_greatestPart 77 = .ok (.iload 5, 2) := by decide +kernel
theorem dX7_greatestPart_79 : decode cX7_greatestPart 79 = .ok (.iaload, 1) := by decide +kernel
theorem dX7_greatestPart_80 : decode cX7_greatestPart 80 = .ok (.goto 4, 3) := by decide +kernel
theorem dX7_greatestPart_83 : decode cX7_greatestPart 83 = .ok (.iload_n 3, 1) := by decide +kernel
theorem dX7_greatestPart_84 : decode cX7_greatestPart 84 = .ok (.istore_n 3, 1) := by decide +kernel
theorem dX7_greatestPart_85 : decode cX7_greatestPart 85 = .ok (.iinc 4 1, 3) := by decide +kernel
theorem dX7_greatestPart_88 : decode cX7_greatestPart 88 = .ok (.goto (-62), 3) := by decide +kernel
theorem dX7_greatestPart_91 : decode cX7_greatestPart 91 = .ok (.iload_n 3, 1) := by decide +kernel
theorem dX7_greatestPart_92 : decode cX7_greatestPart 92 = .ok (.ireturn, 1) := by decide +kernel
set_option maxRecDepth 20000 in
theorem ggX7_lookAt_X7_yearsAgo : GoodIn wsX7_lookAt wsX7_yearsAgo := goodIn_r _ [6, 7, 8, 9, 10, 11, 12, 5, 13, 14, 15, 16, 17, 18, 19, 20, 32, 33, 34, 35, 36, 37, 38, 39, 40, 41, 42, 43, 44, 45, 46, 47, 48, 49, 50, 51, 52, 53, 54, 55, 56, 57, 58, 59, 60, 61, 62, 63, 64, 65, 66, 67, 68, 69] (by decide +kernel) (by decide +kernel)
set_option maxRecDepth 20000 in
theorem gX7_lookAt_X7_yearsAgo : GoodIn wsX7_lookAt (wsV RX7 292 RX7 yX7_yearsAgo wsX7_yearsAgo) := goodIn_app (goodIn_of _ (by decide +kernel)) ggX7_lookAt_X7_yearsAgo
set_option maxRecDepth 20000 in
theorem ggX7_lookAt_X7_bits : GoodIn wsX7_lookAt wsX7_bits := goodIn_r _ [23] (by decide +kernel) (by decide +kernel)
set_option maxRecDepth 20000 in
theorem gX7_lookAt_X7_bits : GoodIn wsX7_lookAt (va_wsS RX7 201 yX7_bits wsX7_bits) := goodIn_app (goodIn_of _ (by decide +kernel)) ggX7_lookAt_X7_bits
set_option maxRecDepth 20000 in
theorem ggX7_lookAt_X7_greatestPart : GoodIn wsX7_lookAt wsX7_greatestPart := goodIn_r _ [27, 28, 29, 30, 5, 31, 10, 11, 12, 13, 14, 15, 16, 17, 18, 19, 20, 32, 33, 34, 35, 36, 37, 38, 39, 40, 41, 42, 43, 44, 45, 46, 47, 48, 49, 50, 51, 52, 53, 54, 55, 56, 57, 58, 59, 60, 61, 62, 63, 64, 65, 66, 67, 68, 69] (by decide +kernel) (by decide +kernel)
set_option maxRecDepth 20000 in
theorem gX7_lookAt_X7_greatestPart : GoodIn wsX7_lookAt (wsV RX7 295 RX7 yX7_greatestPart wsX7_greatestPart) := goodIn_app (goodIn_of _ (by decide +kernel)) ggX7_lookAt_X7_greatestPart
theorem dX7_lookAt_0 : decode cX7_lookAt 0 = .ok (.aload_n 0, 1) := by decide +kernel
theorem dX7_lookAt_1 : decode cX7_lookAt 1 = .ok (.invokevirtual 292, 3) := by decide +kernel
theorem dX7_lookAt_4 : decode cX7_lookAt 4 = .ok (.istore_n 1, 1) := by decide +kernel
theorem dX7_lookAt_5 : decode cX7_lookAt 5 = .ok (.iconst (-1), 1) := by decide +kernel
theorem dX7_lookAt_6 : decode cX7_lookAt 6 = .ok (.istore_n 2, 1) := by decide +kernel
theorem dX7_lookAt_7 : decode cX7_lookAt 7 = .ok (.iload_n 1, 1) := by decide +kernel
theorem dX7_lookAt_8 : decode cX7_lookAt 8 = .ok (.invokestatic 201, 3) := by decide +kernel
theorem dX7_lookAt_11 : decode cX7_lookAt 11 = .ok (.istore_n 3, 1) := by decide +kernel
theorem dX7_lookAt_12 : decode cX7_lookAt 12 = .ok (.iconst 0, 1) := by decide +kernel
theorem dX7_lookAt_13 : decode cX7_lookAt 13 = .ok (.istore 4, 2) := by decide +kernel
theorem dX7_lookAt_15 : decode cX7_lookAt 15 = .ok (.iload 4, 2) := by decide +kernel
theorem dX7_lookAt_17 : decode cX7_lookAt 17 = .ok (.aload_n 0, 1) := by decide +kernel
theorem dX7_lookAt_18 : decode cX7_lookAt 18 = .ok (.getfield 91, 3) := by decide +kernel
theorem dX7_lookAt_21 : decode cX7_lookAt 21 = .ok (.if_icmp .ge 44, 3) := by decide +kernel
theorem dX7_lookAt_24 : decode cX7_lookAt 24 = .ok (.aload_n 0, 1) := by decide +kernel
theorem dX7_lookAt_25 : decode cX7_lookAt 25 = .ok (.iload 4, 2) := by decide +kernel
theorem dX7_lookAt_27 : decode cX7_lookAt 27 = .ok (.iload_n 1, 1) := by decide +kernel
theorem dX7_lookAt_28 : decode cX7_lookAt 28 = .ok (.invokevirtual 295, 3) := by decide +kernel
theorem dX7_lookAt_31 : decode cX7_lookAt 31 = .ok (.istore 5, 2) := by decide +kernel
theorem dX7_lookAt_33 : decode cX7_lookAt 33 = .ok (.iload 5, 2) := by decide +kernel
theorem dX7_lookAt_35 : decode cX7_lookAt 35 = .ok (.iload_n 3, 1) := by decide +kernel
theorem dX7_lookAt_36 : decode cX7_lookAt 36 = .ok (.if_icmp .ge 8, 3) := by decide +kernel
theorem dX7_lookAt_39 : decode cX7_lookAt 39 = .ok (.iload 4, 2) := by decide +kernel
theorem dX7_lookAt_41 : decode cX7_lookAt 41 = .ok (.goto 4, 3) := by decide +kernel
theorem dX7_lookAt_44 : decode cX7_lookAt 44 = .ok (.iload_n 2, 1) := by decide +kernel
theorem dX7_lookAt_45 : decode cX7_lookAt 45 = .ok (.istore_n 2, 1) := by decide +kernel
theorem dX7_lookAt_46 : decode cX7_lookAt 46 = .ok (.iload 5, 2) := by decide +kernel
theorem dX7_lookAt_48 : decode cX7_lookAt 48 = .ok (.iload_n 3, 1) := by decide +kernel
theorem dX7_lookAt_49 : decode cX7_lookAt 49 = .ok (.if_icmp .ge 8, 3) := by decide +kernel
theorem dX7_lookAt_52 : decode cX7_lookAt 52 = .ok (.iload 5, 2) := by decide +kernel
theorem dX7_lookAt_54 : decode cX7_lookAt 54 = .ok (.goto 4, 3) := by decide +kernel
theorem dX7_lookAt_57 : decode cX7_lookAt 57 = .ok (.iload_n 3, 1) := by decide +kernel
theorem dX7_lookAt_58 : decode cX7_lookAt 58 = .ok (.istore_n 3, 1) := by decide +kernel
theorem dX7_lookAt_59 : decode cX7_lookAt 59 = .ok (.iinc 4 1, 3) := by decide +kernel
theorem dX7_lookAt_62 : decode cX7_lookAt 62 = .ok (.goto (-47), 3) := by decide +kernel
theorem dX7_lookAt_65 : decode cX7_lookAt 65 = .ok (.iload_n 2, 1) := by decide +kernel
theorem dX7_lookAt_66 : decode cX7_lookAt 66 = .ok (.ireturn, 1) := by decide +kernel
set_option maxRecDepth 20000 in
theorem ggX7_write_X7_isField : GoodIn wsX7_write wsX7_isField := goodIn_r _ [10, 11, 12, 13, 9, 14, 18, 19, 20, 21, 22, 23, 24, 25, 26, 27, 28, 29, 30, 31, 32, 33, 34, 35, 36, 37, 38, 39, 40, 41, 42, 43, 44, 45, 46, 47, 48, 49, 50, 51, 52, 53, 54, 55] (by decide +kernel) (by decide +kernel)
set_option maxRecDepth 20000 in
theorem gX7_write_X7_isField : GoodIn wsX7_write (wsV RX7 207 RX7 yX7_isField wsX7_isField) := goodIn_app (goodIn_of _ (by decide +kernel)) ggX7_write_X7_isField
set_option maxRecDepth 20000 in
theorem ggX7_write_X7_isEstate : GoodIn wsX7_write wsX7_isEstate := goodIn_r _ [17] (by decide +kernel) (by decide +kernel)
set_option maxRecDepth 20000 in
theorem gX7_write_X7_isEstate : GoodIn wsX7_write (va_wsS RX7 220 yX7_isEstate wsX7_isEstate) := goodIn_app (goodIn_of _ (by decide +kernel)) ggX7_write_X7_isEstate
theorem dX7_write_0 : decode cX7_write 0 = .ok (.aload_n 0, 1) := by decide +kernel
theorem dX7_write_1 : decode cX7_write 1 = .ok (.iload_n 1, 1) := by decide +kernel
theorem dX7_write_2 : decode cX7_write 2 = .ok (.invokevirtual 207, 3) := by decide +kernel
theorem dX7_write_5 : decode cX7_write 5 = .ok (.ifCond .eq 10, 3) := by decide +kernel
theorem dX7_write_8 : decode cX7_write 8 = .ok (.iload_n 2, 1) := by decide +kernel
theorem dX7_write_9 : decode cX7_write 9 = .ok (.invokestatic 220, 3) := by decide +kernel
theorem dX7_write_12 : decode cX7_write 12 = .ok (.ifCond .ne 6, 3) := by decide +kernel
theorem dX7_write_15 : decode cX7_write 15 = .ok (.ldc 210, 2) := by decide +kernel
theorem dX7_write_17 : decode cX7_write 17 = .ok (.ireturn, 1) := by decide +kernel
theorem dX7_write_18 : decode cX7_write 18 = .ok (.aload_n 0, 1) := by decide +kernel
theorem dX7_write_19 : decode cX7_write 19 = .ok (.getfield 178, 3) := by decide +kernel
theorem dX7_write_22 : decode cX7_write 22 = .ok (.bipush 15, 2) := by decide +kernel
theorem dX7_write_24 : decode cX7_write 24 = .ok (.if_icmp .ne 6, 3) := by decide +kernel
theorem dX7_write_27 : decode cX7_write 27 = .ok (.ldc 100, 2) := by decide +kernel
theorem dX7_write_29 : decode cX7_write 29 = .ok (.ireturn, 1) := by decide +kernel
theorem dX7_write_30 : decode cX7_write 30 = .ok (.aload_n 0, 1) := by decide +kernel
theorem dX7_write_31 : decode cX7_write 31 = .ok (.getfield 72, 3) := by decide +kernel
theorem dX7_write_34 : decode cX7_write 34 = .ok (.aload_n 0, 1) := by decide +kernel
theorem dX7_write_35 : decode cX7_write 35 = .ok (.getfield 178, 3) := by decide +kernel
theorem dX7_write_38 : decode cX7_write 38 = .ok (.iload_n 1, 1) := by decide +kernel
theorem dX7_write_39 : decode cX7_write 39 = .ok (.iastore, 1) := by decide +kernel
theorem dX7_write_40 : decode cX7_write 40 = .ok (.aload_n 0, 1) := by decide +kernel
theorem dX7_write_41 : decode cX7_write 41 = .ok (.getfield 75, 3) := by decide +kernel
theorem dX7_write_44 : decode cX7_write 44 = .ok (.aload_n 0, 1) := by decide +kernel
theorem dX7_write_45 : decode cX7_write 45 = .ok (.getfield 178, 3) := by decide +kernel
theorem dX7_write_48 : decode cX7_write 48 = .ok (.iload_n 2, 1) := by decide +kernel
theorem dX7_write_49 : decode cX7_write 49 = .ok (.iastore, 1) := by decide +kernel
theorem dX7_write_50 : decode cX7_write 50 = .ok (.aload_n 0, 1) := by decide +kernel
theorem dX7_write_51 : decode cX7_write 51 = .ok (.dup, 1) := by decide +kernel
theorem dX7_write_52 : decode cX7_write 52 = .ok (.getfield 178, 3) := by decide +kernel
theorem dX7_write_55 : decode cX7_write 55 = .ok (.iconst 1, 1) := by decide +kernel
theorem dX7_write_56 : decode cX7_write 56 = .ok (.iadd, 1) := by decide +kernel
theorem dX7_write_57 : decode cX7_write 57 = .ok (.putfield 178, 3) := by decide +kernel
theorem dX7_write_60 : decode cX7_write 60 = .ok (.aload_n 0, 1) := by decide +kernel
theorem dX7_write_61 : decode cX7_write 61 = .ok (.getfield 178, 3) := by decide +kernel
theorem dX7_write_64 : decode cX7_write 64 = .ok (.ireturn, 1) := by decide +kernel
theorem dX7_tear_0 : decode cX7_tear 0 = .ok (.aload_n 0, 1) := by decide +kernel
theorem dX7_tear_1 : decode cX7_tear 1 = .ok (.getfield 175, 3) := by decide +kernel
theorem dX7_tear_4 : decode cX7_tear 4 = .ok (.aload_n 0, 1) := by decide +kernel
theorem dX7_tear_5 : decode cX7_tear 5 = .ok (.getfield 178, 3) := by decide +kernel
theorem dX7_tear_8 : decode cX7_tear 8 = .ok (.iadd, 1) := by decide +kernel
theorem dX7_tear_9 : decode cX7_tear 9 = .ok (.istore_n 1, 1) := by decide +kernel
theorem dX7_tear_10 : decode cX7_tear 10 = .ok (.aload_n 0, 1) := by decide +kernel
theorem dX7_tear_11 : decode cX7_tear 11 = .ok (.iconst 0, 1) := by decide +kernel
theorem dX7_tear_12 : decode cX7_tear 12 = .ok (.putfield 175, 3) := by decide +kernel
theorem dX7_tear_15 : decode cX7_tear 15 = .ok (.aload_n 0, 1) := by decide +kernel
theorem dX7_tear_16 : decode cX7_tear 16 = .ok (.iconst 0, 1) := by decide +kernel
theorem dX7_tear_17 : decode cX7_tear 17 = .ok (.putfield 178, 3) := by decide +kernel
theorem dX7_tear_20 : decode cX7_tear 20 = .ok (.iload_n 1, 1) := by decide +kernel
theorem dX7_tear_21 : decode cX7_tear 21 = .ok (.ireturn, 1) := by decide +kernel
theorem dX7_judge_0 : decode cX7_judge 0 = .ok (.iconst 0, 1) := by decide +kernel
theorem dX7_judge_1 : decode cX7_judge 1 = .ok (.istore_n 1, 1) := by decide +kernel
theorem dX7_judge_2 : decode cX7_judge 2 = .ok (.iload_n 1, 1) := by decide +kernel
theorem dX7_judge_3 : decode cX7_judge 3 = .ok (.aload_n 0, 1) := by decide +kernel
theorem dX7_judge_4 : decode cX7_judge 4 = .ok (.getfield 178, 3) := by decide +kernel
theorem dX7_judge_7 : decode cX7_judge 7 = .ok (.if_icmp .ge 36, 3) := by decide +kernel
theorem dX7_judge_10 : decode cX7_judge 10 = .ok (.aload_n 0, 1) := by decide +kernel
theorem dX7_judge_11 : decode cX7_judge 11 = .ok (.getfield 23, 3) := by decide +kernel
theorem dX7_judge_14 : decode cX7_judge 14 = .ok (.bipush 120, 2) := by decide +kernel
theorem dX7_judge_16 : decode cX7_judge 16 = .ok (.iaload, 1) := by decide +kernel
theorem dX7_judge_17 : decode cX7_judge 17 = .ok (.aload_n 0, 1) := by decide +kernel
theorem dX7_judge_18 : decode cX7_judge 18 = .ok (.getfield 72, 3) := by decide +kernel
theorem dX7_judge_21 : decode cX7_judge 21 = .ok (.iload_n 1, 1) := by decide +kernel
theorem dX7_judge_22 : decode cX7_judge 22 = .ok (.iaload, 1) := by decide +kernel
theorem dX7_judge_23 : decode cX7_judge 23 = .ok (.ishr, 1) := by decide +kernel
theorem dX7_judge_24 : decode cX7_judge 24 = .ok (.iconst 1, 1) := by decide +kernel
theorem dX7_judge_25 : decode cX7_judge 25 = .ok (.iand, 1) := by decide +kernel
theorem dX7_judge_26 : decode cX7_judge 26 = .ok (.aload_n 0, 1) := by decide +kernel
theorem dX7_judge_27 : decode cX7_judge 27 = .ok (.getfield 75, 3) := by decide +kernel
theorem dX7_judge_30 : decode cX7_judge 30 = .ok (.iload_n 1, 1) := by decide +kernel
theorem dX7_judge_31 : decode cX7_judge 31 = .ok (.iaload, 1) := by decide +kernel
theorem dX7_judge_32 : decode cX7_judge 32 = .ok (.if_icmp .eq 5, 3) := by decide +kernel
theorem dX7_judge_35 : decode cX7_judge 35 = .ok (.iload_n 1, 1) := by decide +kernel
theorem dX7_judge_36 : decode cX7_judge 36 = .ok (.ireturn, 1) := by decide +kernel
theorem dX7_judge_37 : decode cX7_judge 37 = .ok (.iinc 1 1, 3) := by decide +kernel
theorem dX7_judge_40 : decode cX7_judge 40 = .ok (.goto (-38), 3) := by decide +kernel
theorem dX7_judge_43 : decode cX7_judge 43 = .ok (.iconst (-1), 1) := by decide +kernel
theorem dX7_judge_44 : decode cX7_judge 44 = .ok (.ireturn, 1) := by decide +kernel
theorem dX7_seed_0 : decode cX7_seed 0 = .ok (.iload_n 1, 1) := by decide +kernel
theorem dX7_seed_1 : decode cX7_seed 1 = .ok (.ifCond .ge 6, 3) := by decide +kernel
theorem dX7_seed_4 : decode cX7_seed 4 = .ok (.ldc 96, 2) := by decide +kernel
theorem dX7_seed_6 : decode cX7_seed 6 = .ok (.ireturn, 1) := by decide +kernel
theorem dX7_seed_7 : decode cX7_seed 7 = .ok (.aload_n 0, 1) := by decide +kernel
theorem dX7_seed_8 : decode cX7_seed 8 = .ok (.getfield 242, 3) := by decide +kernel
theorem dX7_seed_11 : decode cX7_seed 11 = .ok (.istore_n 2, 1) := by decide +kernel
theorem dX7_seed_12 : decode cX7_seed 12 = .ok (.aload_n 0, 1) := by decide +kernel
theorem dX7_seed_13 : decode cX7_seed 13 = .ok (.iload_n 1, 1) := by decide +kernel
theorem dX7_seed_14 : decode cX7_seed 14 = .ok (.putfield 242, 3) := by decide +kernel
theorem dX7_seed_17 : decode cX7_seed 17 = .ok (.iload_n 2, 1) := by decide +kernel
theorem dX7_seed_18 : decode cX7_seed 18 = .ok (.ireturn, 1) := by decide +kernel
set_option maxRecDepth 20000 in
theorem ggX7_keep_X7_in : GoodIn wsX7_keep wsX7_in := goodIn_r _ [10] (by decide +kernel) (by decide +kernel)
set_option maxRecDepth 20000 in
theorem gX7_keep_X7_in : GoodIn wsX7_keep (va_wsS RX7 87 yX7_in wsX7_in) := goodIn_app (goodIn_of _ (by decide +kernel)) ggX7_keep_X7_in
theorem dX7_keep_0 : decode cX7_keep 0 = .ok (.iload_n 1, 1) := by decide +kernel
theorem dX7_keep_1 : decode cX7_keep 1 = .ok (.i2l, 1) := by decide +kernel
theorem dX7_keep_2 : decode cX7_keep 2 = .ok (.lconst 0, 1) := by decide +kernel
theorem dX7_keep_3 : decode cX7_keep 3 = .ok (.lconst 1, 1) := by decide +kernel
theorem dX7_keep_4 : decode cX7_keep 4 = .ok (.invokestatic 87, 3) := by decide +kernel
theorem dX7_keep_7 : decode cX7_keep 7 = .ok (.ifCond .ne 6, 3) := by decide +kernel
theorem dX7_keep_10 : decode cX7_keep 10 = .ok (.ldc 210, 2) := by decide +kernel
theorem dX7_keep_12 : decode cX7_keep 12 = .ok (.ireturn, 1) := by decide +kernel
theorem dX7_keep_13 : decode cX7_keep 13 = .ok (.iconst 0, 1) := by decide +kernel
theorem dX7_keep_14 : decode cX7_keep 14 = .ok (.istore_n 2, 1) := by decide +kernel
theorem dX7_keep_15 : decode cX7_keep 15 = .ok (.iload_n 2, 1) := by decide +kernel
theorem dX7_keep_16 : decode cX7_keep 16 = .ok (.bipush 122, 2) := by decide +kernel
theorem dX7_keep_18 : decode cX7_keep 18 = .ok (.if_icmp .ge 26, 3) := by decide +kernel
theorem dX7_keep_21 : decode cX7_keep 21 = .ok (.aload_n 0, 1) := by decide +kernel
theorem dX7_keep_22 : decode cX7_keep 22 = .ok (.getfield 78, 3) := by decide +kernel
theorem dX7_keep_25 : decode cX7_keep 25 = .ok (.bipush 123, 2) := by decide +kernel
theorem dX7_keep_27 : decode cX7_keep 27 = .ok (.iload_n 1, 1) := by decide +kernel
theorem dX7_keep_28 : decode cX7_keep 28 = .ok (.imul, 1) := by decide +kernel
theorem dX7_keep_29 : decode cX7_keep 29 = .ok (.iload_n 2, 1) := by decide +kernel
theorem dX7_keep_30 : decode cX7_keep 30 = .ok (.iadd, 1) := by decide +kernel
theorem dX7_keep_31 : decode cX7_keep 31 = .ok (.aload_n 0, 1) := by decide +kernel
theorem dX7_keep_32 : decode cX7_keep 32 = .ok (.getfield 23, 3) := by decide +kernel
theorem dX7_keep_35 : decode cX7_keep 35 = .ok (.iload_n 2, 1) := by decide +kernel
theorem dX7_keep_36 : decode cX7_keep 36 = .ok (.iaload, 1) := by decide +kernel
theorem dX7_keep_37 : decode cX7_keep 37 = .ok (.iastore, 1) := by decide +kernel
theorem dX7_keep_38 : decode cX7_keep 38 = .ok (.iinc 2 1, 3) := by decide +kernel
theorem dX7_keep_41 : decode cX7_keep 41 = .ok (.goto (-26), 3) := by decide +kernel
theorem dX7_keep_44 : decode cX7_keep 44 = .ok (.aload_n 0, 1) := by decide +kernel
theorem dX7_keep_45 : decode cX7_keep 45 = .ok (.getfield 78, 3) := by decide +kernel
theorem dX7_keep_48 : decode cX7_keep 48 = .ok (.bipush 123, 2) := by decide +kernel
theorem dX7_keep_50 : decode cX7_keep 50 = .ok (.iload_n 1, 1) := by decide +kernel
theorem dX7_keep_51 : decode cX7_keep 51 = .ok (.imul, 1) := by decide +kernel
theorem dX7_keep_52 : decode cX7_keep 52 = .ok (.bipush 122, 2) := by decide +kernel
theorem dX7_keep_54 : decode cX7_keep 54 = .ok (.iadd, 1) := by decide +kernel
theorem dX7_keep_55 : decode cX7_keep 55 = .ok (.aload_n 0, 1) := by decide +kernel
theorem dX7_keep_56 : decode cX7_keep 56 = .ok (.getfield 242, 3) := by decide +kernel
theorem dX7_keep_59 : decode cX7_keep 59 = .ok (.iastore, 1) := by decide +kernel
theorem dX7_keep_60 : decode cX7_keep 60 = .ok (.aload_n 0, 1) := by decide +kernel
theorem dX7_keep_61 : decode cX7_keep 61 = .ok (.getfield 81, 3) := by decide +kernel
theorem dX7_keep_64 : decode cX7_keep 64 = .ok (.iload_n 1, 1) := by decide +kernel
theorem dX7_keep_65 : decode cX7_keep 65 = .ok (.iconst 1, 1) := by decide +kernel
theorem dX7_keep_66 : decode cX7_keep 66 = .ok (.bastore, 1) := by decide +kernel
theorem dX7_keep_67 : decode cX7_keep 67 = .ok (.aload_n 0, 1) := by decide +kernel
theorem dX7_keep_68 : decode cX7_keep 68 = .ok (.iconst 0, 1) := by decide +kernel
theorem dX7_keep_69 : decode cX7_keep 69 = .ok (.putfield 181, 3) := by decide +kernel
theorem dX7_keep_72 : decode cX7_keep 72 = .ok (.iconst 1, 1) := by decide +kernel
theorem dX7_keep_73 : decode cX7_keep 73 = .ok (.ireturn, 1) := by decide +kernel
set_option maxRecDepth 20000 in
theorem ggX7_goBack_X7_in : GoodIn wsX7_goBack wsX7_in := goodIn_r _ [11] (by decide +kernel) (by decide +kernel)
set_option maxRecDepth 20000 in
theorem gX7_goBack_X7_in : GoodIn wsX7_goBack (va_wsS RX7 87 yX7_in wsX7_in) := goodIn_app (goodIn_of _ (by decide +kernel)) ggX7_goBack_X7_in
theorem dX7_goBack_0 : decode cX7_goBack 0 = .ok (.iload_n 1, 1) := by decide +kernel
theorem dX7_goBack_1 : decode cX7_goBack 1 = .ok (.i2l, 1) := by decide +kernel
theorem dX7_goBack_2 : decode cX7_goBack 2 = .ok (.lconst 0, 1) := by decide +kernel
theorem dX7_goBack_3 : decode cX7_goBack 3 = .ok (.lconst 1, 1) := by decide +kernel
theorem dX7_goBack_4 : decode cX7_goBack 4 = .ok (.invokestatic 87, 3) := by decide +kernel
theorem dX7_goBack_7 : decode cX7_goBack 7 = .ok (.ifCond .ne 6, 3) := by decide +kernel
theorem dX7_goBack_10 : decode cX7_goBack 10 = .ok (.ldc 210, 2) := by decide +kernel
theorem dX7_goBack_12 : decode cX7_goBack 12 = .ok (.ireturn, 1) := by decide +kernel
theorem dX7_goBack_13 : decode cX7_goBack 13 = .ok (.aload_n 0, 1) := by decide +kernel
theorem dX7_goBack_14 : decode cX7_goBack 14 = .ok (.getfield 81, 3) := by decide +kernel
theorem dX7_goBack_17 : decode cX7_goBack 17 = .ok (.iload_n 1, 1) := by decide +kernel
theorem dX7_goBack_18 : decode cX7_goBack 18 = .ok (.baload, 1) := by decide +kernel
theorem dX7_goBack_19 : decode cX7_goBack 19 = .ok (.ifCond .ne 6, 3) := by decide +kernel
theorem dX7_goBack_22 : decode cX7_goBack 22 = .ok (.ldc 226, 2) := by decide +kernel
theorem dX7_goBack_24 : decode cX7_goBack 24 = .ok (.ireturn, 1) := by decide +kernel
theorem dX7_goBack_25 : decode cX7_goBack 25 = .ok (.iconst 0, 1) := by decide +kernel
theorem dX7_goBack_26 : decode cX7_goBack 26 = .ok (.istore_n 2, 1) := by decide +kernel
theorem dX7_goBack_27 : decode cX7_goBack 27 = .ok (.iload_n 2, 1) := by decide +kernel
theorem dX7_goBack_28 : decode cX7_goBack 28 = .ok (.bipush 122, 2) := by decide +kernel
theorem dX7_goBack_30 : decode cX7_goBack 30 = .ok (.if_icmp .ge 26, 3) := by decide +kernel
theorem dX7_goBack_33 : decode cX7_goBack 33 = .ok (.aload_n 0, 1) := by decide +kernel
theorem dX7_goBack_34 : decode cX7_goBack 34 = .ok (.getfield 23, 3) := by decide +kernel
theorem dX7_goBack_37 : decode cX7_goBack 37 = .ok (.iload_n 2, 1) := by decide +kernel
theorem dX7_goBack_38 : decode cX7_goBack 38 = .ok (.aload_n 0, 1) := by decide +kernel
theorem dX7_goBack_39 : decode cX7_goBack 39 = .ok (.getfield 78, 3) := by decide +kernel
theorem dX7_goBack_42 : decode cX7_goBack 42 = .ok (.bipush 123, 2) := by decide +kernel
theorem dX7_goBack_44 : decode cX7_goBack 44 = .ok (.iload_n 1, 1) := by decide +kernel
theorem dX7_goBack_45 : decode cX7_goBack 45 = .ok (.imul, 1) := by decide +kernel
theorem dX7_goBack_46 : decode cX7_goBack 46 = .ok (.iload_n 2, 1) := by decide +kernel
theorem dX7_goBack_47 : decode cX7_goBack 47 = .ok (.iadd, 1) := by decide +kernel
theorem dX7_goBack_48 : decode cX7_goBack 48 = .ok (.iaload, 1) := by decide +kernel
theorem dX7_goBack_49 : decode cX7_goBack 49 = .ok (.iastore, 1) := by decide +kernel
theorem dX7_goBack_50 : decode cX7_goBack 50 = .ok (.iinc 2 1, 3) := by decide +kernel
theorem dX7_goBack_53 : decode cX7_goBack 53 = .ok (.goto (-26), 3) := by decide +kernel
theorem dX7_goBack_56 : decode cX7_goBack 56 = .ok (.aload_n 0, 1) := by decide +kernel
theorem dX7_goBack_57 : decode cX7_goBack 57 = .ok (.aload_n 0, 1) := by decide +kernel
theorem dX7_goBack_58 : decode cX7_goBack 58 = .ok (.getfield 78, 3) := by decide +kernel
theorem dX7_goBack_61 : decode cX7_goBack 61 = .ok (.bipush 123, 2) := by decide +kernel
theorem dX7_goBack_63 : decode cX7_goBack 63 = .ok (.iload_n 1, 1) := by decide +kernel
theorem dX7_goBack_64 : decode cX7_goBack 64 = .ok (.imul, 1) := by decide +kernel
theorem dX7_goBack_65 : decode cX7_goBack 65 = .ok (.bipush 122, 2) := by decide +kernel
theorem dX7_goBack_67 : decode cX7_goBack 67 = .ok (.iadd, 1) := by decide +kernel
theorem dX7_goBack_68 : decode cX7_goBack 68 = .ok (.iaload, 1) := by decide +kernel
theorem dX7_goBack_69 : decode cX7_goBack 69 = .ok (.putfield 242, 3) := by decide +kernel
theorem dX7_goBack_72 : decode cX7_goBack 72 = .ok (.aload_n 0, 1) := by decide +kernel
theorem dX7_goBack_73 : decode cX7_goBack 73 = .ok (.iconst 0, 1) := by decide +kernel
theorem dX7_goBack_74 : decode cX7_goBack 74 = .ok (.putfield 181, 3) := by decide +kernel
theorem dX7_goBack_77 : decode cX7_goBack 77 = .ok (.iconst 1, 1) := by decide +kernel
theorem dX7_goBack_78 : decode cX7_goBack 78 = .ok (.ireturn, 1) := by decide +kernel
theorem dJ6_bitCount_0f7a4_0 : decode cJ6_bitCount_0f7a4 0 = .ok (.iload_n 0, 1) := by decide +kernel
theorem dJ6_bitCount_0f7a4_1 : decode cJ6_bitCount_0f7a4 1 = .ok (.iload_n 0, 1) := by decide +kernel
theorem dJ6_bitCount_0f7a4_2 : decode cJ6_bitCount_0f7a4 2 = .ok (.iconst 1, 1) := by decide +kernel
theorem dJ6_bitCount_0f7a4_3 : decode cJ6_bitCount_0f7a4 3 = .ok (.iushr, 1) := by decide +kernel
theorem dJ6_bitCount_0f7a4_4 : decode cJ6_bitCount_0f7a4 4 = .ok (.ldc_w 265, 3) := by decide +kernel
theorem dJ6_bitCount_0f7a4_7 : decode cJ6_bitCount_0f7a4 7 = .ok (.iand, 1) := by decide +kernel
theorem dJ6_bitCount_0f7a4_8 : decode cJ6_bitCount_0f7a4 8 = .ok (.isub, 1) := by decide +kernel
theorem dJ6_bitCount_0f7a4_9 : decode cJ6_bitCount_0f7a4 9 = .ok (.istore_n 0, 1) := by decide +kernel
theorem dJ6_bitCount_0f7a4_10 : decode cJ6_bitCount_0f7a4 10 = .ok (.iload_n 0, 1) := by decide +kernel
theorem dJ6_bitCount_0f7a4_11 : decode cJ6_bitCount_0f7a4 11 = .ok (.ldc_w 266, 3) := by decide +kernel
theorem dJ6_bitCount_0f7a4_14 : decode cJ6_bitCount_0f7a4 14 = .ok (.iand, 1) := by decide +kernel
theorem dJ6_bitCount_0f7a4_15 : decode cJ6_bitCount_0f7a4 15 = .ok (.iload_n 0, 1) := by decide +kernel
theorem dJ6_bitCount_0f7a4_16 : decode cJ6_bitCount_0f7a4 16 = .ok (.iconst 2, 1) := by decide +kernel
theorem dJ6_bitCount_0f7a4_17 : decode cJ6_bitCount_0f7a4 17 = .ok (.iushr, 1) := by decide +kernel
theorem dJ6_bitCount_0f7a4_18 : decode cJ6_bitCount_0f7a4 18 = .ok (.ldc_w 266, 3) := by decide +kernel
theorem dJ6_bitCount_0f7a4_21 : decode cJ6_bitCount_0f7a4 21 = .ok (.iand, 1) := by decide +kernel
theorem dJ6_bitCount_0f7a4_22 : decode cJ6_bitCount_0f7a4 22 = .ok (.iadd, 1) := by decide +kernel
theorem dJ6_bitCount_0f7a4_23 : decode cJ6_bitCount_0f7a4 23 = .ok (.istore_n 0, 1) := by decide +kernel
theorem dJ6_bitCount_0f7a4_24 : decode cJ6_bitCount_0f7a4 24 = .ok (.iload_n 0, 1) := by decide +kernel
theorem dJ6_bitCount_0f7a4_25 : decode cJ6_bitCount_0f7a4 25 = .ok (.iload_n 0, 1) := by decide +kernel
theorem dJ6_bitCount_0f7a4_26 : decode cJ6_bitCount_0f7a4 26 = .ok (.iconst 4, 1) := by decide +kernel
