theorem dX7_takeGround_0 : decode cX7_takeGround 0 = .ok (.aload_n 0, 1) := by decide +kernel
theorem dX7_takeGround_1 : decode cX7_takeGround 1 = .ok (.aload_n 0, 1) := by decide +kernel
theorem dX7_takeGround_2 : decode cX7_takeGround 2 = .ok (.getfield 33, 3) := by decide +kernel
theorem dX7_takeGround_5 : decode cX7_takeGround 5 = .ok (.iconst 0, 1) := by decide +kernel
theorem dX7_takeGround_6 : decode cX7_takeGround 6 = .ok (.iconst 2, 1) := by decide +kernel
theorem dX7_takeGround_7 : decode cX7_takeGround 7 = .ok (.iconst 5, 1) := by decide +kernel
theorem dX7_takeGround_8 : decode cX7_takeGround 8 = .ok (.invokevirtual 125, 3) := by decide +kernel
theorem dX7_takeGround_11 : decode cX7_takeGround 11 = .ok (.istore_n 1, 1) := by decide +kernel
theorem dX7_takeGround_12 : decode cX7_takeGround 12 = .ok (.iload_n 1, 1) := by decide +kernel
theorem dX7_takeGround_13 : decode cX7_takeGround 13 = .ok (.ifCond .le 7, 3) := by decide +kernel
theorem dX7_takeGround_16 : decode cX7_takeGround 16 = .ok (.iload_n 1, 1) := by decide +kernel
theorem dX7_takeGround_17 : decode cX7_takeGround 17 = .ok (.goto 14, 3) := by decide +kernel
theorem dX7_takeGround_20 : decode cX7_takeGround 20 = .ok (.aload_n 0, 1) := by decide +kernel
theorem dX7_takeGround_21 : decode cX7_takeGround 21 = .ok (.aload_n 0, 1) := by decide +kernel
theorem dX7_takeGround_22 : decode cX7_takeGround 22 = .ok (.getfield 33, 3) := by decide +kernel
theorem dX7_takeGround_25 : decode cX7_takeGround 25 = .ok (.iconst 1, 1) := by decide +kernel
theorem dX7_takeGround_26 : decode cX7_takeGround 26 = .ok (.iconst 2, 1) := by decide +kernel
theorem dX7_takeGround_27 : decode cX7_takeGround 27 = .ok (.iconst 5, 1) := by decide +kernel
theorem dX7_takeGround_28 : decode cX7_takeGround 28 = .ok (.invokevirtual 125, 3) := by decide +kernel
theorem dX7_takeGround_31 : decode cX7_takeGround 31 = .ok (.istore_n 1, 1) := by decide +kernel
theorem dX7_takeGround_32 : decode cX7_takeGround 32 = .ok (.iload_n 1, 1) := by decide +kernel
theorem dX7_takeGround_33 : decode cX7_takeGround 33 = .ok (.ifCond .le 7, 3) := by decide +kernel
theorem dX7_takeGround_36 : decode cX7_takeGround 36 = .ok (.iload_n 1, 1) := by decide +kernel
theorem dX7_takeGround_37 : decode cX7_takeGround 37 = .ok (.goto 15, 3) := by decide +kernel
theorem dX7_takeGround_40 : decode cX7_takeGround 40 = .ok (.aload_n 0, 1) := by decide +kernel
theorem dX7_takeGround_41 : decode cX7_takeGround 41 = .ok (.aload_n 0, 1) := by decide +kernel
theorem dX7_takeGround_42 : decode cX7_takeGround 42 = .ok (.getfield 33, 3) := by decide +kernel
theorem dX7_takeGround_45 : decode cX7_takeGround 45 = .ok (.iconst 2, 1) := by decide +kernel
theorem dX7_takeGround_46 : decode cX7_takeGround 46 = .ok (.iconst 0, 1) := by decide +kernel
theorem dX7_takeGround_47 : decode cX7_takeGround 47 = .ok (.bipush 9, 2) := by decide +kernel
theorem dX7_takeGround_49 : decode cX7_takeGround 49 = .ok (.invokevirtual 125, 3) := by decide +kernel
theorem dX7_takeGround_52 : decode cX7_takeGround 52 = .ok (.istore_n 1, 1) := by decide +kernel
theorem dX7_takeGround_53 : decode cX7_takeGround 53 = .ok (.iconst 0, 1) := by decide +kernel
theorem dX7_takeGround_54 : decode cX7_takeGround 54 = .ok (.istore_n 2, 1) := by decide +kernel
theorem dX7_takeGround_55 : decode cX7_takeGround 55 = .ok (.iload_n 2, 1) := by decide +kernel
theorem dX7_takeGround_56 : decode cX7_takeGround 56 = .ok (.bipush 25, 2) := by decide +kernel
theorem dX7_takeGround_58 : decode cX7_takeGround 58 = .ok (.if_icmp .ge 21, 3) := by decide +kernel
theorem dX7_takeGround_61 : decode cX7_takeGround 61 = .ok (.aload_n 0, 1) := by decide +kernel
theorem dX7_takeGround_62 : decode cX7_takeGround 62 = .ok (.getfield 36, 3) := by decide +kernel
theorem dX7_takeGround_65 : decode cX7_takeGround 65 = .ok (.iload_n 2, 1) := by decide +kernel
theorem dX7_takeGround_66 : decode cX7_takeGround 66 = .ok (.aload_n 0, 1) := by decide +kernel
theorem dX7_takeGround_67 : decode cX7_takeGround 67 = .ok (.getfield 33, 3) := by decide +kernel
theorem dX7_takeGround_70 : decode cX7_takeGround 70 = .ok (.iconst 2, 1) := by decide +kernel
theorem dX7_takeGround_71 : decode cX7_takeGround 71 = .ok (.iaload, 1) := by decide +kernel
theorem dX7_takeGround_72 : decode cX7_takeGround 72 = .ok (.iastore, 1) := by decide +kernel
theorem dX7_takeGround_73 : decode cX7_takeGround 73 = .ok (.iinc 2 1, 3) := by decide +kernel
theorem dX7_takeGround_76 : decode cX7_takeGround 76 = .ok (.goto (-21), 3) := by decide +kernel
theorem dX7_takeGround_79 : decode cX7_takeGround 79 = .ok (.iload_n 1, 1) := by decide +kernel
theorem dX7_takeGround_80 : decode cX7_takeGround 80 = .ok (.ireturn, 1) := by decide +kernel
set_option maxRecDepth 20000 in
theorem ggX7_takeSoil_X7_readFields : GoodIn wsX7_takeSoil wsX7_readFields := goodIn_r _ [7, 8, 31, 32, 33, 34, 35, 36, 37, 38, 39, 40, 41, 42, 43, 44, 45, 46, 47, 48, 49, 50, 51, 52, 53, 54, 55, 56, 57, 58, 59, 60, 61, 62, 63, 64, 65, 66, 67, 68] (by decide +kernel) (by decide +kernel)
set_option maxRecDepth 20000 in
theorem gX7_takeSoil_X7_readFields : GoodIn wsX7_takeSoil (wsV RX7 129 RX7 yX7_readFields wsX7_readFields) := goodIn_app (goodIn_of _ (by decide +kernel)) ggX7_takeSoil_X7_readFields
set_option maxRecDepth 20000 in
theorem ggX7_takeSoil_X7_takeNumber : GoodIn wsX7_takeSoil wsX7_takeNumber := goodIn_r _ [12, 13, 14, 15, 16, 1, 17, 18, 19, 20, 21, 6, 22, 23, 24, 25, 26, 27, 28, 29, 30, 31, 32, 33, 34, 35, 36, 37, 38, 39, 40, 41, 42, 43, 44, 45, 46, 47, 48, 49, 50, 51, 52, 53, 54, 55, 56, 57, 58, 59, 60, 61, 62, 63, 64, 65, 66, 67, 68] (by decide +kernel) (by decide +kernel)
set_option maxRecDepth 20000 in
theorem gX7_takeSoil_X7_takeNumber : GoodIn wsX7_takeSoil (wsV RX7 122 RX7 yX7_takeNumber wsX7_takeNumber) := goodIn_app (goodIn_of _ (by decide +kernel)) ggX7_takeSoil_X7_takeNumber
theorem dX7_takeSoil_0 : decode cX7_takeSoil 0 = .ok (.aload_n 0, 1) := by decide +kernel
theorem dX7_takeSoil_1 : decode cX7_takeSoil 1 = .ok (.iconst 0, 1) := by decide +kernel
theorem dX7_takeSoil_2 : decode cX7_takeSoil 2 = .ok (.aload_n 0, 1) := by decide +kernel
theorem dX7_takeSoil_3 : decode cX7_takeSoil 3 = .ok (.invokevirtual 129, 3) := by decide +kernel
theorem dX7_takeSoil_6 : decode cX7_takeSoil 6 = .ok (.iconst 1, 1) := by decide +kernel
theorem dX7_takeSoil_7 : decode cX7_takeSoil 7 = .ok (.isub, 1) := by decide +kernel
theorem dX7_takeSoil_8 : decode cX7_takeSoil 8 = .ok (.invokevirtual 122, 3) := by decide +kernel
theorem dX7_takeSoil_11 : decode cX7_takeSoil 11 = .ok (.istore_n 1, 1) := by decide +kernel
theorem dX7_takeSoil_12 : decode cX7_takeSoil 12 = .ok (.aload_n 0, 1) := by decide +kernel
theorem dX7_takeSoil_13 : decode cX7_takeSoil 13 = .ok (.getfield 119, 3) := by decide +kernel
theorem dX7_takeSoil_16 : decode cX7_takeSoil 16 = .ok (.istore_n 2, 1) := by decide +kernel
theorem dX7_takeSoil_17 : decode cX7_takeSoil 17 = .ok (.iload_n 1, 1) := by decide +kernel
theorem dX7_takeSoil_18 : decode cX7_takeSoil 18 = .ok (.ifCond .le 7, 3) := by decide +kernel
theorem dX7_takeSoil_21 : decode cX7_takeSoil 21 = .ok (.iload_n 1, 1) := by decide +kernel
theorem dX7_takeSoil_22 : decode cX7_takeSoil 22 = .ok (.goto 10, 3) := by decide +kernel
theorem dX7_takeSoil_25 : decode cX7_takeSoil 25 = .ok (.aload_n 0, 1) := by decide +kernel
theorem dX7_takeSoil_26 : decode cX7_takeSoil 26 = .ok (.iconst 0, 1) := by decide +kernel
theorem dX7_takeSoil_27 : decode cX7_takeSoil 27 = .ok (.bipush 9, 2) := by decide +kernel
theorem dX7_takeSoil_29 : decode cX7_takeSoil 29 = .ok (.invokevirtual 122, 3) := by decide +kernel
theorem dX7_takeSoil_32 : decode cX7_takeSoil 32 = .ok (.istore_n 1, 1) := by decide +kernel
theorem dX7_takeSoil_33 : decode cX7_takeSoil 33 = .ok (.iload_n 1, 1) := by decide +kernel
theorem dX7_takeSoil_34 : decode cX7_takeSoil 34 = .ok (.ifCond .ne 13, 3) := by decide +kernel
theorem dX7_takeSoil_37 : decode cX7_takeSoil 37 = .ok (.aload_n 0, 1) := by decide +kernel
theorem dX7_takeSoil_38 : decode cX7_takeSoil 38 = .ok (.getfield 36, 3) := by decide +kernel
theorem dX7_takeSoil_41 : decode cX7_takeSoil 41 = .ok (.iload_n 2, 1) := by decide +kernel
theorem dX7_takeSoil_42 : decode cX7_takeSoil 42 = .ok (.aload_n 0, 1) := by decide +kernel
theorem dX7_takeSoil_43 : decode cX7_takeSoil 43 = .ok (.getfield 119, 3) := by decide +kernel
theorem dX7_takeSoil_46 : decode cX7_takeSoil 46 = .ok (.iastore, 1) := by decide +kernel
theorem dX7_takeSoil_47 : decode cX7_takeSoil 47 = .ok (.iload_n 1, 1) := by decide +kernel
theorem dX7_takeSoil_48 : decode cX7_takeSoil 48 = .ok (.ireturn, 1) := by decide +kernel
set_option maxRecDepth 20000 in
theorem ggX7_takeOwn_X7_readFields : GoodIn wsX7_takeOwn wsX7_readFields := goodIn_r _ [8, 9, 34, 35, 36, 37, 38, 39, 40, 41, 42, 43, 44, 45, 46, 47, 48, 49, 50, 51, 52, 53, 54, 55, 56, 57, 58, 59, 60, 61, 62, 63, 64, 65, 66, 67, 68, 69, 70, 71] (by decide +kernel) (by decide +kernel)
set_option maxRecDepth 20000 in
theorem gX7_takeOwn_X7_readFields : GoodIn wsX7_takeOwn (wsV RX7 129 RX7 yX7_readFields wsX7_readFields) := goodIn_app (goodIn_of _ (by decide +kernel)) ggX7_takeOwn_X7_readFields
set_option maxRecDepth 20000 in
theorem ggX7_takeOwn_X7_takeNumber : GoodIn wsX7_takeOwn wsX7_takeNumber := goodIn_r _ [13, 14, 15, 16, 3, 2, 17, 18, 19, 20, 21, 7, 22, 23, 24, 25, 26, 27, 28, 29, 30, 34, 35, 36, 37, 38, 39, 40, 41, 42, 43, 44, 45, 46, 47, 48, 49, 50, 51, 52, 53, 54, 55, 56, 57, 58, 59, 60, 61, 62, 63, 64, 65, 66, 67, 68, 69, 70, 71] (by decide +kernel) (by decide +kernel)
set_option maxRecDepth 20000 in
theorem gX7_takeOwn_X7_takeNumber : GoodIn wsX7_takeOwn (wsV RX7 122 RX7 yX7_takeNumber wsX7_takeNumber) := goodIn_app (goodIn_of _ (by decide +kernel)) ggX7_takeOwn_X7_takeNumber
set_option maxRecDepth 20000 in
theorem ggX7_takeOwn_X7_has : GoodIn wsX7_takeOwn wsX7_has := goodIn_r _ [33] (by decide +kernel) (by decide +kernel)
set_option maxRecDepth 20000 in
theorem gX7_takeOwn_X7_has : GoodIn wsX7_takeOwn (va_wsS RX7 135 yX7_has wsX7_has) := goodIn_app (goodIn_of _ (by decide +kernel)) ggX7_takeOwn_X7_has
set_option maxRecDepth 20000 in
theorem ggX7_takeOwn_X7_fails : GoodIn wsX7_takeOwn wsX7_fails := goodIn_r _ [29, 30, 34, 35, 36, 37, 38, 39, 40, 41, 42, 43, 44, 45, 46, 47, 48, 49, 50, 51, 52, 53, 54, 55, 56, 57, 58, 59, 60, 61, 62, 63, 64, 65, 66, 67, 68, 69, 70, 71] (by decide +kernel) (by decide +kernel)
set_option maxRecDepth 20000 in
theorem gX7_takeOwn_X7_fails : GoodIn wsX7_takeOwn (wsV RX7 112 RX7 yX7_fails wsX7_fails) := goodIn_app (goodIn_of _ (by decide +kernel)) ggX7_takeOwn_X7_fails
theorem dX7_takeOwn_0 : decode cX7_takeOwn 0 = .ok (.aload_n 0, 1) := by decide +kernel
theorem dX7_takeOwn_1 : decode cX7_takeOwn 1 = .ok (.iconst 0, 1) := by decide +kernel
theorem dX7_takeOwn_2 : decode cX7_takeOwn 2 = .ok (.aload_n 0, 1) := by decide +kernel
theorem dX7_takeOwn_3 : decode cX7_takeOwn 3 = .ok (.invokevirtual 129, 3) := by decide +kernel
theorem dX7_takeOwn_6 : decode cX7_takeOwn 6 = .ok (.iconst 1, 1) := by decide +kernel
theorem dX7_takeOwn_7 : decode cX7_takeOwn 7 = .ok (.isub, 1) := by decide +kernel
theorem dX7_takeOwn_8 : decode cX7_takeOwn 8 = .ok (.invokevirtual 122, 3) := by decide +kernel
theorem dX7_takeOwn_11 : decode cX7_takeOwn 11 = .ok (.istore_n 1, 1) := by decide +kernel
theorem dX7_takeOwn_12 : decode cX7_takeOwn 12 = .ok (.iload_n 1, 1) := by decide +kernel
theorem dX7_takeOwn_13 : decode cX7_takeOwn 13 = .ok (.ifCond .ne 27, 3) := by decide +kernel
theorem dX7_takeOwn_16 : decode cX7_takeOwn 16 = .ok (.aload_n 0, 1) := by decide +kernel
theorem dX7_takeOwn_17 : decode cX7_takeOwn 17 = .ok (.getfield 132, 3) := by decide +kernel
theorem dX7_takeOwn_20 : decode cX7_takeOwn 20 = .ok (.aload_n 0, 1) := by decide +kernel
theorem dX7_takeOwn_21 : decode cX7_takeOwn 21 = .ok (.getfield 119, 3) := by decide +kernel
theorem dX7_takeOwn_24 : decode cX7_takeOwn 24 = .ok (.invokestatic 135, 3) := by decide +kernel
theorem dX7_takeOwn_27 : decode cX7_takeOwn 27 = .ok (.ifCond .eq 13, 3) := by decide +kernel
theorem dX7_takeOwn_30 : decode cX7_takeOwn 30 = .ok (.aload_n 0, 1) := by decide +kernel
theorem dX7_takeOwn_31 : decode cX7_takeOwn 31 = .ok (.iconst 4, 1) := by decide +kernel
theorem dX7_takeOwn_32 : decode cX7_takeOwn 32 = .ok (.aload_n 0, 1) := by decide +kernel
theorem dX7_takeOwn_33 : decode cX7_takeOwn 33 = .ok (.getfield 116, 3) := by decide +kernel
theorem dX7_takeOwn_36 : decode cX7_takeOwn 36 = .ok (.invokevirtual 112, 3) := by decide +kernel
theorem dX7_takeOwn_39 : decode cX7_takeOwn 39 = .ok (.ireturn, 1) := by decide +kernel
theorem dX7_takeOwn_40 : decode cX7_takeOwn 40 = .ok (.iload_n 1, 1) := by decide +kernel
theorem dX7_takeOwn_41 : decode cX7_takeOwn 41 = .ok (.ifCond .ne 18, 3) := by decide +kernel
theorem dX7_takeOwn_44 : decode cX7_takeOwn 44 = .ok (.aload_n 0, 1) := by decide +kernel
theorem dX7_takeOwn_45 : decode cX7_takeOwn 45 = .ok (.dup, 1) := by decide +kernel
theorem dX7_takeOwn_46 : decode cX7_takeOwn 46 = .ok (.getfield 132, 3) := by decide +kernel
theorem dX7_takeOwn_49 : decode cX7_takeOwn 49 = .ok (.iconst 1, 1) := by decide +kernel
theorem dX7_takeOwn_50 : decode cX7_takeOwn 50 = .ok (.aload_n 0, 1) := by decide +kernel
theorem dX7_takeOwn_51 : decode cX7_takeOwn 51 = .ok (.getfield 119, 3) := by decide +kernel
theorem dX7_takeOwn_54 : decode cX7_takeOwn 54 = .ok (.ishl, 1) := by decide +kernel
theorem dX7_takeOwn_55 : decode cX7_takeOwn 55 = .ok (.ior, 1) := by decide +kernel
theorem dX7_takeOwn_56 : decode cX7_takeOwn 56 = .ok (.putfield 132, 3) := by decide +kernel
theorem dX7_takeOwn_59 : decode cX7_takeOwn 59 = .ok (.iload_n 1, 1) := by decide +kernel
theorem dX7_takeOwn_60 : decode cX7_takeOwn 60 = .ok (.ireturn, 1) := by decide +kernel
set_option maxRecDepth 20000 in
theorem ggX7_takeEdge_X7_readEdges : GoodIn wsX7_takeEdge wsX7_readEdges := goodIn_r _ [9, 10, 32, 33, 34, 35, 36, 37, 38, 39, 40, 41, 42, 43, 44, 45, 46, 47, 48, 49, 50, 51, 52, 53, 54, 55, 56, 57, 58, 59, 60, 61, 62, 63, 64, 65, 66, 67, 68, 69] (by decide +kernel) (by decide +kernel)
set_option maxRecDepth 20000 in
theorem gX7_takeEdge_X7_readEdges : GoodIn wsX7_takeEdge (wsV RX7 139 RX7 yX7_readEdges wsX7_readEdges) := goodIn_app (goodIn_of _ (by decide +kernel)) ggX7_takeEdge_X7_readEdges
set_option maxRecDepth 20000 in
theorem ggX7_takeEdge_X7_takeNumber : GoodIn wsX7_takeEdge wsX7_takeNumber := goodIn_r _ [14, 15, 16, 17, 4, 2, 18, 19, 20, 21, 22, 8, 23, 24, 25, 26, 27, 28, 29, 30, 31, 32, 33, 34, 35, 36, 37, 38, 39, 40, 41, 42, 43, 44, 45, 46, 47, 48, 49, 50, 51, 52, 53, 54, 55, 56, 57, 58, 59, 60, 61, 62, 63, 64, 65, 66, 67, 68, 69] (by decide +kernel) (by decide +kernel)
set_option maxRecDepth 20000 in
theorem gX7_takeEdge_X7_takeNumber : GoodIn wsX7_takeEdge (wsV RX7 122 RX7 yX7_takeNumber wsX7_takeNumber) := goodIn_app (goodIn_of _ (by decide +kernel)) ggX7_takeEdge_X7_takeNumber
set_option maxRecDepth 20000 in
theorem ggX7_takeEdge_X7_fails : GoodIn wsX7_takeEdge wsX7_fails := goodIn_r _ [30, 31, 32, 33, 34, 35, 36, 37, 38, 39, 40, 41, 42, 43, 44, 45, 46, 47, 48, 49, 50, 51, 52, 53, 54, 55, 56, 57, 58, 59, 60, 61, 62, 63, 64, 65, 66, 67, 68, 69] (by decide +kernel) (by decide +kernel)
set_option maxRecDepth 20000 in
theorem gX7_takeEdge_X7_fails : GoodIn wsX7_takeEdge (wsV RX7 112 RX7 yX7_fails wsX7_fails) := goodIn_app (goodIn_of _ (by decide +kernel)) ggX7_takeEdge_X7_fails
theorem dX7_takeEdge_0 : decode cX7_takeEdge 0 = .ok (.aload_n 0, 1) := by decide +kernel
theorem dX7_takeEdge_1 : decode cX7_takeEdge 1 = .ok (.iconst 0, 1) := by decide +kernel
theorem dX7_takeEdge_2 : decode cX7_takeEdge 2 = .ok (.aload_n 0, 1) := by decide +kernel
theorem dX7_takeEdge_3 : decode cX7_takeEdge 3 = .ok (.invokevirtual 139, 3) := by decide +kernel
theorem dX7_takeEdge_6 : decode cX7_takeEdge 6 = .ok (.iconst 1, 1) := by decide +kernel
theorem dX7_takeEdge_7 : decode cX7_takeEdge 7 = .ok (.isub, 1) := by decide +kernel
theorem dX7_takeEdge_8 : decode cX7_takeEdge 8 = .ok (.invokevirtual 122, 3) := by decide +kernel
theorem dX7_takeEdge_11 : decode cX7_takeEdge 11 = .ok (.istore_n 1, 1) := by decide +kernel
theorem dX7_takeEdge_12 : decode cX7_takeEdge 12 = .ok (.iload_n 1, 1) := by decide +kernel
theorem dX7_takeEdge_13 : decode cX7_takeEdge 13 = .ok (.ifCond .ne 37, 3) := by decide +kernel
theorem dX7_takeEdge_16 : decode cX7_takeEdge 16 = .ok (.aload_n 0, 1) := by decide +kernel
theorem dX7_takeEdge_17 : decode cX7_takeEdge 17 = .ok (.getfield 39, 3) := by decide +kernel
theorem dX7_takeEdge_20 : decode cX7_takeEdge 20 = .ok (.aload_n 0, 1) := by decide +kernel
theorem dX7_takeEdge_21 : decode cX7_takeEdge 21 = .ok (.getfield 119, 3) := by decide +kernel
theorem dX7_takeEdge_24 : decode cX7_takeEdge 24 = .ok (.baload, 1) := by decide +kernel
theorem dX7_takeEdge_25 : decode cX7_takeEdge 25 = .ok (.ifCond .ne 15, 3) := by decide +kernel
theorem dX7_takeEdge_28 : decode cX7_takeEdge 28 = .ok (.aload_n 0, 1) := by decide +kernel
theorem dX7_takeEdge_29 : decode cX7_takeEdge 29 = .ok (.getfield 42, 3) := by decide +kernel
theorem dX7_takeEdge_32 : decode cX7_takeEdge 32 = .ok (.aload_n 0, 1) := by decide +kernel
theorem dX7_takeEdge_33 : decode cX7_takeEdge 33 = .ok (.getfield 119, 3) := by decide +kernel
theorem dX7_takeEdge_36 : decode cX7_takeEdge 36 = .ok (.iaload, 1) := by decide +kernel
theorem dX7_takeEdge_37 : decode cX7_takeEdge 37 = .ok (.ifCond .lt 13, 3) := by decide +kernel
theorem dX7_takeEdge_40 : decode cX7_takeEdge 40 = .ok (.aload_n 0, 1) := by decide +kernel
theorem dX7_takeEdge_41 : decode cX7_takeEdge 41 = .ok (.iconst 4, 1) := by decide +kernel
theorem dX7_takeEdge_42 : decode cX7_takeEdge 42 = .ok (.aload_n 0, 1) := by decide +kernel
theorem dX7_takeEdge_43 : decode cX7_takeEdge 43 = .ok (.getfield 116, 3) := by decide +kernel
theorem dX7_takeEdge_46 : decode cX7_takeEdge 46 = .ok (.invokevirtual 112, 3) := by decide +kernel
theorem dX7_takeEdge_49 : decode cX7_takeEdge 49 = .ok (.ireturn, 1) := by decide +kernel
theorem dX7_takeEdge_50 : decode cX7_takeEdge 50 = .ok (.iload_n 1, 1) := by decide +kernel
theorem dX7_takeEdge_51 : decode cX7_takeEdge 51 = .ok (.ireturn, 1) := by decide +kernel
set_option maxRecDepth 20000 in
theorem ggX7_takePath_X7_takeEdge : GoodIn wsX7_takePath wsX7_takeEdge := goodIn_r _ [7, 1, 2, 8, 9, 10, 11, 12, 6, 13, 14, 15, 16, 17, 18, 19, 20, 21, 22, 23, 24, 25, 26, 27, 28, 29, 30, 31, 32, 33, 34, 35, 36, 37, 38, 39, 40, 41, 42, 43, 44, 45, 46, 47, 48, 49, 50, 51, 52, 53, 54, 55, 56, 57, 58, 59, 60, 61, 62, 63, 64, 65, 66, 67, 68, 69, 70, 71, 72, 73] (by decide +kernel) (by decide +kernel)
set_option maxRecDepth 20000 in
theorem gX7_takePath_X7_takeEdge : GoodIn wsX7_takePath (wsV RX7 142 RX7 yX7_takeEdge wsX7_takeEdge) := goodIn_app (goodIn_of _ (by decide +kernel)) ggX7_takePath_X7_takeEdge
theorem dX7_takePath_0 : decode cX7_takePath 0 = .ok (.aload_n 0, 1) := by decide +kernel
theorem dX7_takePath_1 : decode cX7_takePath 1 = .ok (.invokevirtual 142, 3) := by decide +kernel
theorem dX7_takePath_4 : decode cX7_takePath 4 = .ok (.istore_n 1, 1) := by decide +kernel
theorem dX7_takePath_5 : decode cX7_takePath 5 = .ok (.iload_n 1, 1) := by decide +kernel
theorem dX7_takePath_6 : decode cX7_takePath 6 = .ok (.ifCond .ne 13, 3) := by decide +kernel
theorem dX7_takePath_9 : decode cX7_takePath 9 = .ok (.aload_n 0, 1) := by decide +kernel
theorem dX7_takePath_10 : decode cX7_takePath 10 = .ok (.getfield 39, 3) := by decide +kernel
theorem dX7_takePath_13 : decode cX7_takePath 13 = .ok (.aload_n 0, 1) := by decide +kernel
theorem dX7_takePath_14 : decode cX7_takePath 14 = .ok (.getfield 119, 3) := by decide +kernel
theorem dX7_takePath_17 : decode cX7_takePath 17 = .ok (.iconst 1, 1) := by decide +kernel
theorem dX7_takePath_18 : decode cX7_takePath 18 = .ok (.bastore, 1) := by decide +kernel
theorem dX7_takePath_19 : decode cX7_takePath 19 = .ok (.iload_n 1, 1) := by decide +kernel
theorem dX7_takePath_20 : decode cX7_takePath 20 = .ok (.ireturn, 1) := by decide +kernel
set_option maxRecDepth 20000 in
theorem ggX7_takeHedge_X7_takeEdge : GoodIn wsX7_takeHedge wsX7_takeEdge := goodIn_r _ [8, 9, 1, 2, 10, 11, 12, 13, 7, 14, 15, 16, 17, 18, 19, 20, 21, 22, 23, 24, 25, 26, 27, 28, 29, 30, 31, 32, 33, 34, 35, 36, 37, 38, 39, 40, 41, 42, 43, 44, 45, 46, 47, 48, 49, 50, 51, 52, 53, 54, 55, 56, 57, 58, 59, 60, 61, 62, 63, 64, 65, 66, 67, 68, 69, 70, 71, 72, 73, 74] (by decide +kernel) (by decide +kernel)
set_option maxRecDepth 20000 in
theorem gX7_takeHedge_X7_takeEdge : GoodIn wsX7_takeHedge (wsV RX7 142 RX7 yX7_takeEdge wsX7_takeEdge) := goodIn_app (goodIn_of _ (by decide +kernel)) ggX7_takeHedge_X7_takeEdge
set_option maxRecDepth 20000 in
theorem ggX7_takeHedge_X7_takeNumber : GoodIn wsX7_takeHedge wsX7_takeNumber := goodIn_r _ [19, 20, 21, 22, 10, 1, 23, 24, 25, 26, 27, 7, 28, 29, 30, 31, 32, 33, 34, 35, 36, 37, 38, 39, 40, 41, 42, 43, 44, 45, 46, 47, 48, 49, 50, 51, 52, 53, 54, 55, 56, 57, 58, 59, 60, 61, 62, 63, 64, 65, 66, 67, 68, 69, 70, 71, 72, 73, 74] (by decide +kernel) (by decide +kernel)
set_option maxRecDepth 20000 in
theorem gX7_takeHedge_X7_takeNumber : GoodIn wsX7_takeHedge (wsV RX7 122 RX7 yX7_takeNumber wsX7_takeNumber) := goodIn_app (goodIn_of _ (by decide +kernel)) ggX7_takeHedge_X7_takeNumber
theorem dX7_takeHedge_0 : decode cX7_takeHedge 0 = .ok (.aload_n 0, 1) := by decide +kernel
theorem dX7_takeHedge_1 : decode cX7_takeHedge 1 = .ok (.invokevirtual 142, 3) := by decide +kernel
theorem dX7_takeHedge_4 : decode cX7_takeHedge 4 = .ok (.istore_n 1, 1) := by decide +kernel
theorem dX7_takeHedge_5 : decode cX7_takeHedge 5 = .ok (.aload_n 0, 1) := by decide +kernel
theorem dX7_takeHedge_6 : decode cX7_takeHedge 6 = .ok (.getfield 119, 3) := by decide +kernel
theorem dX7_takeHedge_9 : decode cX7_takeHedge 9 = .ok (.istore_n 2, 1) := by decide +kernel
theorem dX7_takeHedge_10 : decode cX7_takeHedge 10 = .ok (.iload_n 1, 1) := by decide +kernel
theorem dX7_takeHedge_11 : decode cX7_takeHedge 11 = .ok (.ifCond .le 7, 3) := by decide +kernel
theorem dX7_takeHedge_14 : decode cX7_takeHedge 14 = .ok (.iload_n 1, 1) := by decide +kernel
theorem dX7_takeHedge_15 : decode cX7_takeHedge 15 = .ok (.goto 9, 3) := by decide +kernel
theorem dX7_takeHedge_18 : decode cX7_takeHedge 18 = .ok (.aload_n 0, 1) := by decide +kernel
theorem dX7_takeHedge_19 : decode cX7_takeHedge 19 = .ok (.iconst 0, 1) := by decide +kernel
theorem dX7_takeHedge_20 : decode cX7_takeHedge 20 = .ok (.iconst 1, 1) := by decide +kernel
theorem dX7_takeHedge_21 : decode cX7_takeHedge 21 = .ok (.invokevirtual 122, 3) := by decide +kernel
theorem dX7_takeHedge_24 : decode cX7_takeHedge 24 = .ok (.istore_n 1, 1) := by decide +kernel
theorem dX7_takeHedge_25 : decode cX7_takeHedge 25 = .ok (.aload_n 0, 1) := by decide +kernel
theorem dX7_takeHedge_26 : decode cX7_takeHedge 26 = .ok (.getfield 119, 3) := by decide +kernel
theorem dX7_takeHedge_29 : decode cX7_takeHedge 29 = .ok (.istore_n 3, 1) := by decide +kernel
theorem dX7_takeHedge_30 : decode cX7_takeHedge 30 = .ok (.iload_n 1, 1) := by decide +kernel
theorem dX7_takeHedge_31 : decode cX7_takeHedge 31 = .ok (.ifCond .le 7, 3) := by decide +kernel
theorem dX7_takeHedge_34 : decode cX7_takeHedge 34 = .ok (.iload_n 1, 1) := by decide +kernel
theorem dX7_takeHedge_35 : decode cX7_takeHedge 35 = .ok (.goto 10, 3) := by decide +kernel
theorem dX7_takeHedge_38 : decode cX7_takeHedge 38 = .ok (.aload_n 0, 1) := by decide +kernel
theorem dX7_takeHedge_39 : decode cX7_takeHedge 39 = .ok (.iconst 1, 1) := by decide +kernel
theorem dX7_takeHedge_40 : decode cX7_takeHedge 40 = .ok (.bipush 99, 2) := by decide +kernel
theorem dX7_takeHedge_42 : decode cX7_takeHedge 42 = .ok (.invokevirtual 122, 3) := by decide +kernel
theorem dX7_takeHedge_45 : decode cX7_takeHedge 45 = .ok (.istore_n 1, 1) := by decide +kernel
theorem dX7_takeHedge_46 : decode cX7_takeHedge 46 = .ok (.iload_n 1, 1) := by decide +kernel
theorem dX7_takeHedge_47 : decode cX7_takeHedge 47 = .ok (.ifCond .ne 20, 3) := by decide +kernel
theorem dX7_takeHedge_50 : decode cX7_takeHedge 50 = .ok (.aload_n 0, 1) := by decide +kernel
theorem dX7_takeHedge_51 : decode cX7_takeHedge 51 = .ok (.getfield 42, 3) := by decide +kernel
theorem dX7_takeHedge_54 : decode cX7_takeHedge 54 = .ok (.iload_n 2, 1) := by decide +kernel
theorem dX7_takeHedge_55 : decode cX7_takeHedge 55 = .ok (.iload_n 3, 1) := by decide +kernel
theorem dX7_takeHedge_56 : decode cX7_takeHedge 56 = .ok (.iastore, 1) := by decide +kernel
theorem dX7_takeHedge_57 : decode cX7_takeHedge 57 = .ok (.aload_n 0, 1) := by decide +kernel
theorem dX7_takeHedge_58 : decode cX7_takeHedge 58 = .ok (.getfield 45, 3) := by decide +kernel
theorem dX7_takeHedge_61 : decode cX7_takeHedge 61 = .ok (.iload_n 2, 1) := by decide +kernel
theorem dX7_takeHedge_62 : decode cX7_takeHedge 62 = .ok (.aload_n 0, 1) := by decide +kernel
theorem dX7_takeHedge_63 : decode cX7_takeHedge 63 = .ok (.getfield 119, 3) := by decide +kernel
theorem dX7_takeHedge_66 : decode cX7_takeHedge 66 = .ok (.iastore, 1) := by decide +kernel
theorem dX7_takeHedge_67 : decode cX7_takeHedge 67 = .ok (.iload_n 1, 1) := by decide +kernel
theorem dX7_takeHedge_68 : decode cX7_takeHedge 68 = .ok (.ireturn, 1) := by decide +kernel
set_option maxRecDepth 20000 in
theorem ggX7_takeClause_X7_here : GoodIn wsX7_takeClause wsX7_here := goodIn_r _ [7, 2, 8, 9, 70, 71, 72, 73, 74, 75, 76, 77, 78, 79, 80, 81, 82, 83, 84, 85, 86, 87, 88, 89, 90, 91, 92, 93, 94, 95, 96, 97, 98, 99, 100, 101, 102, 103, 104, 105, 106, 107] (by decide +kernel) (by decide +kernel)
set_option maxRecDepth 20000 in
theorem gX7_takeClause_X7_here : GoodIn wsX7_takeClause (wsV RX7 104 RX7 yX7_here wsX7_here) := goodIn_app (goodIn_of _ (by decide +kernel)) ggX7_takeClause_X7_here
set_option maxRecDepth 20000 in
theorem ggX7_takeClause_X7_fails : GoodIn wsX7_takeClause wsX7_fails := goodIn_r _ [13, 14, 70, 71, 72, 73, 74, 75, 76, 77, 78, 79, 80, 81, 82, 83, 84, 85, 86, 87, 88, 89, 90, 91, 92, 93, 94, 95, 96, 97, 98, 99, 100, 101, 102, 103, 104, 105, 106, 107] (by decide +kernel) (by decide +kernel)
set_option maxRecDepth 20000 in
theorem gX7_takeClause_X7_fails : GoodIn wsX7_takeClause (wsV RX7 112 RX7 yX7_fails wsX7_fails) := goodIn_app (goodIn_of _ (by decide +kernel)) ggX7_takeClause_X7_fails
set_option maxRecDepth 20000 in
theorem ggX7_takeClause_X7_takeGround : GoodIn wsX7_takeClause wsX7_takeGround := goodIn_r _ [18, 1, 19, 20, 21, 22, 6, 23, 24, 25, 26, 27, 28, 29, 30, 2, 31, 8, 9, 3, 4, 5, 7, 32, 33, 34, 10, 11, 12, 13, 14, 70, 71, 72, 73, 74, 75, 76, 77, 78, 79, 80, 81, 82, 83, 84, 85, 86, 87, 88, 89, 90, 91, 92, 93, 94, 95, 96, 97, 98, 99, 100, 101, 102, 103, 104, 105, 106, 107] (by decide +kernel) (by decide +kernel)
set_option maxRecDepth 20000 in
theorem gX7_takeClause_X7_takeGround : GoodIn wsX7_takeClause (wsV RX7 145 RX7 yX7_takeGround wsX7_takeGround) := goodIn_app (goodIn_of _ (by decide +kernel)) ggX7_takeClause_X7_takeGround
set_option maxRecDepth 20000 in
theorem ggX7_takeClause_X7_takeSoil : GoodIn wsX7_takeClause wsX7_takeSoil := goodIn_r _ [38, 24, 19, 39, 40, 41, 6, 42, 1, 25, 26, 27, 28, 29, 30, 2, 31, 8, 9, 3, 4, 5, 7, 32, 33, 34, 10, 11, 12, 13, 14, 70, 71, 72, 73, 74, 75, 76, 77, 78, 79, 80, 81, 82, 83, 84, 85, 86, 87, 88, 89, 90, 91, 92, 93, 94, 95, 96, 97, 98, 99, 100, 101, 102, 103, 104, 105, 106, 107] (by decide +kernel) (by decide +kernel)
set_option maxRecDepth 20000 in
theorem gX7_takeClause_X7_takeSoil : GoodIn wsX7_takeClause (wsV RX7 148 RX7 yX7_takeSoil wsX7_takeSoil) := goodIn_app (goodIn_of _ (by decide +kernel)) ggX7_takeClause_X7_takeSoil
set_option maxRecDepth 20000 in
theorem ggX7_takeClause_X7_takeOwn : GoodIn wsX7_takeClause wsX7_takeOwn := goodIn_r _ [46, 47, 24, 31, 39, 40, 41, 6, 42, 1, 25, 26, 27, 28, 29, 30, 2, 8, 9, 3, 4, 5, 7, 32, 33, 34, 10, 11, 12, 13, 14, 48, 49, 50, 70, 71, 72, 73, 74, 75, 76, 77, 78, 79, 80, 81, 82, 83, 84, 85, 86, 87, 88, 89, 90, 91, 92, 93, 94, 95, 96, 97, 98, 99, 100, 101, 102, 103, 104, 105, 106, 107] (by decide +kernel) (by decide +kernel)
set_option maxRecDepth 20000 in
theorem gX7_takeClause_X7_takeOwn : GoodIn wsX7_takeClause (wsV RX7 151 RX7 yX7_takeOwn wsX7_takeOwn) := goodIn_app (goodIn_of _ (by decide +kernel)) ggX7_takeClause_X7_takeOwn
set_option maxRecDepth 20000 in
theorem ggX7_takeClause_X7_takePath : GoodIn wsX7_takeClause wsX7_takePath := goodIn_r _ [54, 55, 24, 56, 57, 58, 6, 59, 60, 31, 61, 62, 63, 64, 1, 25, 26, 27, 28, 29, 30, 2, 8, 9, 3, 4, 5, 7, 32, 33, 34, 10, 11, 12, 13, 14, 70, 71, 72, 73, 74, 75, 76, 77, 78, 79, 80, 81, 82, 83, 84, 85, 86, 87, 88, 89, 90, 91, 92, 93, 94, 95, 96, 97, 98, 99, 100, 101, 102, 103, 104, 105, 106, 107] (by decide +kernel) (by decide +kernel)
set_option maxRecDepth 20000 in
theorem gX7_takeClause_X7_takePath : GoodIn wsX7_takeClause (wsV RX7 154 RX7 yX7_takePath wsX7_takePath) := goodIn_app (goodIn_of _ (by decide +kernel)) ggX7_takeClause_X7_takePath
set_option maxRecDepth 20000 in
theorem ggX7_takeClause_X7_takeHedge : GoodIn wsX7_takeClause wsX7_takeHedge := goodIn_r _ [68, 24, 60, 69, 56, 57, 58, 6, 59, 55, 31, 61, 62, 63, 64, 1, 25, 26, 27, 28, 29, 30, 2, 8, 9, 3, 4, 5, 7, 32, 33, 34, 10, 11, 12, 13, 14, 70, 71, 72, 73, 74, 75, 76, 77, 78, 79, 80, 81, 82, 83, 84, 85, 86, 87, 88, 89, 90, 91, 92, 93, 94, 95, 96, 97, 98, 99, 100, 101, 102, 103, 104, 105, 106, 107] (by decide +kernel) (by decide +kernel)
set_option maxRecDepth 20000 in
theorem gX7_takeClause_X7_takeHedge : GoodIn wsX7_takeClause (wsV RX7 157 RX7 yX7_takeHedge wsX7_takeHedge) := goodIn_app (goodIn_of _ (by decide +kernel)) ggX7_takeClause_X7_takeHedge
theorem dX7_takeClause_0 : decode cX7_takeClause 0 = .ok (.aload_n 0, 1) := by decide +kernel
theorem dX7_takeClause_1 : decode cX7_takeClause 1 = .ok (.invokevirtual 104, 3) := by decide +kernel
theorem dX7_takeClause_4 : decode cX7_takeClause 4 = .ok (.istore_n 1, 1) := by decide +kernel
theorem dX7_takeClause_5 : decode cX7_takeClause 5 = .ok (.iload_n 1, 1) := by decide +kernel
theorem dX7_takeClause_6 : decode cX7_takeClause 6 = .ok (.bipush 103, 2) := by decide +kernel
theorem dX7_takeClause_8 : decode cX7_takeClause 8 = .ok (.if_icmp .ne 7, 3) := by decide +kernel
theorem dX7_takeClause_11 : decode cX7_takeClause 11 = .ok (.iconst 0, 1) := by decide +kernel
theorem dX7_takeClause_12 : decode cX7_takeClause 12 = .ok (.goto 44, 3) := by decide +kernel
theorem dX7_takeClause_15 : decode cX7_takeClause 15 = .ok (.iload_n 1, 1) := by decide +kernel
theorem dX7_takeClause_16 : decode cX7_takeClause 16 = .ok (.bipush 115, 2) := by decide +kernel
theorem dX7_takeClause_18 : decode cX7_takeClause 18 = .ok (.if_icmp .ne 7, 3) := by decide +kernel
theorem dX7_takeClause_21 : decode cX7_takeClause 21 = .ok (.iconst 1, 1) := by decide +kernel
theorem dX7_takeClause_22 : decode cX7_takeClause 22 = .ok (.goto 34, 3) := by decide +kernel
theorem dX7_takeClause_25 : decode cX7_takeClause 25 = .ok (.iload_n 1, 1) := by decide +kernel
theorem dX7_takeClause_26 : decode cX7_takeClause 26 = .ok (.bipush 101, 2) := by decide +kernel
theorem dX7_takeClause_28 : decode cX7_takeClause 28 = .ok (.if_icmp .ne 7, 3) := by decide +kernel
theorem dX7_takeClause_31 : decode cX7_takeClause 31 = .ok (.iconst 2, 1) := by decide +kernel
theorem dX7_takeClause_32 : decode cX7_takeClause 32 = .ok (.goto 24, 3) := by decide +kernel
theorem dX7_takeClause_35 : decode cX7_takeClause 35 = .ok (.iload_n 1, 1) := by decide +kernel
theorem dX7_takeClause_36 : decode cX7_takeClause 36 = .ok (.bipush 112, 2) := by decide +kernel
theorem dX7_takeClause_38 : decode cX7_takeClause 38 = .ok (.if_icmp .ne 7, 3) := by decide +kernel
theorem dX7_takeClause_41 : decode cX7_takeClause 41 = .ok (.iconst 3, 1) := by decide +kernel
theorem dX7_takeClause_42 : decode cX7_takeClause 42 = .ok (.goto 14, 3) := by decide +kernel
theorem dX7_takeClause_45 : decode cX7_takeClause 45 = .ok (.iload_n 1, 1) := by decide +kernel
theorem dX7_takeClause_46 : decode cX7_takeClause 46 = .ok (.bipush 104, 2) := by decide +kernel
theorem dX7_takeClause_48 : decode cX7_takeClause 48 = .ok (.if_icmp .ne 7, 3) := by decide +kernel
theorem dX7_takeClause_51 : decode cX7_takeClause 51 = .ok (.iconst 4, 1) := by decide +kernel
theorem dX7_takeClause_52 : decode cX7_takeClause 52 = .ok (.goto 4, 3) := by decide +kernel
theorem dX7_takeClause_55 : decode cX7_takeClause 55 = .ok (.iconst (-1), 1) := by decide +kernel
theorem dX7_takeClause_56 : decode cX7_takeClause 56 = .ok (.istore_n 2, 1) := by decide +kernel
theorem dX7_takeClause_57 : decode cX7_takeClause 57 = .ok (.iload_n 2, 1) := by decide +kernel
theorem dX7_takeClause_58 : decode cX7_takeClause 58 = .ok (.ifCond .lt 16, 3) := by decide +kernel
theorem dX7_takeClause_61 : decode cX7_takeClause 61 = .ok (.iload_n 2, 1) := by decide +kernel
theorem dX7_takeClause_62 : decode cX7_takeClause 62 = .ok (.ifCond .le 22, 3) := by decide +kernel
theorem dX7_takeClause_65 : decode cX7_takeClause 65 = .ok (.aload_n 0, 1) := by decide +kernel
theorem dX7_takeClause_66 : decode cX7_takeClause 66 = .ok (.getfield 33, 3) := by decide +kernel
theorem dX7_takeClause_69 : decode cX7_takeClause 69 = .ok (.iconst 0, 1) := by decide +kernel
theorem dX7_takeClause_70 : decode cX7_takeClause 70 = .ok (.iaload, 1) := by decide +kernel
theorem dX7_takeClause_71 : decode cX7_takeClause 71 = .ok (.ifCond .ne 13, 3) := by decide +kernel
theorem dX7_takeClause_74 : decode cX7_takeClause 74 = .ok (.aload_n 0, 1) := by decide +kernel
theorem dX7_takeClause_75 : decode cX7_takeClause 75 = .ok (.iconst 1, 1) := by decide +kernel
theorem dX7_takeClause_76 : decode cX7_takeClause 76 = .ok (.aload_n 0, 1) := by decide +kernel
theorem dX7_takeClause_77 : decode cX7_takeClause 77 = .ok (.getfield 101, 3) := by decide +kernel
theorem dX7_takeClause_80 : decode cX7_takeClause 80 = .ok (.invokevirtual 112, 3) := by decide +kernel
theorem dX7_takeClause_83 : decode cX7_takeClause 83 = .ok (.ireturn, 1) := by decide +kernel
theorem dX7_takeClause_84 : decode cX7_takeClause 84 = .ok (.iload_n 2, 1) := by decide +kernel
theorem dX7_takeClause_85 : decode cX7_takeClause 85 = .ok (.ifCond .ne 22, 3) := by decide +kernel
theorem dX7_takeClause_88 : decode cX7_takeClause 88 = .ok (.aload_n 0, 1) := by decide +kernel
theorem dX7_takeClause_89 : decode cX7_takeClause 89 = .ok (.getfield 33, 3) := by decide +kernel
theorem dX7_takeClause_92 : decode cX7_takeClause 92 = .ok (.iconst 0, 1) := by decide +kernel
theorem dX7_takeClause_93 : decode cX7_takeClause 93 = .ok (.iaload, 1) := by decide +kernel
theorem dX7_takeClause_94 : decode cX7_takeClause 94 = .ok (.ifCond .le 13, 3) := by decide +kernel
theorem dX7_takeClause_97 : decode cX7_takeClause 97 = .ok (.aload_n 0, 1) := by decide +kernel
theorem dX7_takeClause_98 : decode cX7_takeClause 98 = .ok (.iconst 3, 1) := by decide +kernel
theorem dX7_takeClause_99 : decode cX7_takeClause 99 = .ok (.aload_n 0, 1) := by decide +kernel
theorem dX7_takeClause_100 : decode cX7_takeClause 100 = .ok (.getfield 101, 3) := by decide +kernel
theorem dX7_takeClause_103 : decode cX7_takeClause 103 = .ok (.invokevirtual 112, 3) := by decide +kernel
theorem dX7_takeClause_106 : decode cX7_takeClause 106 = .ok (.ireturn, 1) := by decide +kernel
theorem dX7_takeClause_107 : decode cX7_takeClause 107 = .ok (.aload_n 0, 1) := by decide +kernel
theorem dX7_takeClause_108 : decode cX7_takeClause 108 = .ok (.dup, 1) := by decide +kernel
theorem dX7_takeClause_109 : decode cX7_takeClause 109 = .ok (.getfield 101, 3) := by decide +kernel
theorem dX7_takeClause_112 : decode cX7_takeClause 112 = .ok (.iconst 1, 1) := by decide +kernel
theorem dX7_takeClause_113 : decode cX7_takeClause 113 = .ok (.iadd, 1) := by decide +kernel
theorem dX7_takeClause_114 : decode cX7_takeClause 114 = .ok (.putfield 101, 3) := by decide +kernel
theorem dX7_takeClause_117 : decode cX7_takeClause 117 = .ok (.iload_n 2, 1) := by decide +kernel
theorem dX7_takeClause_118 : decode cX7_takeClause 118 = .ok (.ifCond .ne 10, 3) := by decide +kernel
theorem dX7_takeClause_121 : decode cX7_takeClause 121 = .ok (.aload_n 0, 1) := by decide +kernel
theorem dX7_takeClause_122 : decode cX7_takeClause 122 = .ok (.invokevirtual 145, 3) := by decide +kernel
theorem dX7_takeClause_125 : decode cX7_takeClause 125 = .ok (.goto 43, 3) := by decide +kernel
theorem dX7_takeClause_128 : decode cX7_takeClause 128 = .ok (.iload_n 2, 1) := by decide +kernel
theorem dX7_takeClause_129 : decode cX7_takeClause 129 = .ok (.iconst 1, 1) := by decide +kernel
theorem dX7_takeClause_130 : decode cX7_takeClause 130 = .ok (.if_icmp .ne 10, 3) := by decide +kernel
theorem dX7_takeClause_133 : decode cX7_takeClause 133 = .ok (.aload_n 0, 1) := by decide +kernel
theorem dX7_takeClause_134 : decode cX7_takeClause 134 = .ok (.invokevirtual 148, 3) := by decide +kernel
theorem dX7_takeClause_137 : decode cX7_takeClause 137 = .ok (.goto 31, 3) := by decide +kernel
theorem dX7_takeClause_140 : decode cX7_takeClause 140 = .ok (.iload_n 2, 1) := by decide +kernel
theorem dX7_takeClause_141 : decode cX7_takeClause 141 = .ok (.iconst 2, 1) := by decide +kernel
theorem dX7_takeClause_142 : decode cX7_takeClause 142 = .ok (.if_icmp .ne 10, 3) := by decide +kernel
theorem dX7_takeClause_145 : decode cX7_takeClause 145 = .ok (.aload_n 0, 1) := by decide +kernel
theorem dX7_takeClause_146 : decode cX7_takeClause 146 = .ok (.invokevirtual 151, 3) := by decide +kernel
theorem dX7_takeClause_149 : decode cX7_takeClause 149 = .ok (.goto 19, 3) := by decide +kernel
theorem dX7_takeClause_152 : decode cX7_takeClause 152 = .ok (.iload_n 2, 1) := by decide +kernel
theorem dX7_takeClause_153 : decode cX7_takeClause 153 = .ok (.iconst 3, 1) := by decide +kernel
theorem dX7_takeClause_154 : decode cX7_takeClause 154 = .ok (.if_icmp .ne 10, 3) := by decide +kernel
theorem dX7_takeClause_157 : decode cX7_takeClause 157 = .ok (.aload_n 0, 1) := by decide +kernel
theorem dX7_takeClause_158 : decode cX7_takeClause 158 = .ok (.invokevirtual 154, 3) := by decide +kernel
theorem dX7_takeClause_161 : decode cX7_takeClause 161 = .ok (.goto 7, 3) := by decide +kernel
theorem dX7_takeClause_164 : decode cX7_takeClause 164 = .ok (.aload_n 0, 1) := by decide +kernel
theorem dX7_takeClause_165 : decode cX7_takeClause 165 = .ok (.invokevirtual 157, 3) := by decide +kernel
theorem dX7_takeClause_168 : decode cX7_takeClause 168 = .ok (.istore_n 3, 1) := by decide +kernel
theorem dX7_takeClause_169 : decode cX7_takeClause 169 = .ok (.iload_n 3, 1) := by decide +kernel
theorem dX7_takeClause_170 : decode cX7_takeClause 170 = .ok (.ifCond .ne 22, 3) := by decide +kernel
theorem dX7_takeClause_173 : decode cX7_takeClause 173 = .ok (.aload_n 0, 1) := by decide +kernel
theorem dX7_takeClause_174 : decode cX7_takeClause 174 = .ok (.invokevirtual 104, 3) := by decide +kernel
theorem dX7_takeClause_177 : decode cX7_takeClause 177 = .ok (.bipush 59, 2) := by decide +kernel
theorem dX7_takeClause_179 : decode cX7_takeClause 179 = .ok (.if_icmp .eq 13, 3) := by decide +kernel
theorem dX7_takeClause_182 : decode cX7_takeClause 182 = .ok (.aload_n 0, 1) := by decide +kernel
theorem dX7_takeClause_183 : decode cX7_takeClause 183 = .ok (.iconst 1, 1) := by decide +kernel
theorem dX7_takeClause_184 : decode cX7_takeClause 184 = .ok (.aload_n 0, 1) := by decide +kernel
theorem dX7_takeClause_185 : decode cX7_takeClause 185 = .ok (.getfield 101, 3) := by decide +kernel
theorem dX7_takeClause_188 : decode cX7_takeClause 188 = .ok (.invokevirtual 112, 3) := by decide +kernel
theorem dX7_takeClause_191 : decode cX7_takeClause 191 = .ok (.ireturn, 1) := by decide +kernel
theorem dX7_takeClause_192 : decode cX7_takeClause 192 = .ok (.aload_n 0, 1) := by decide +kernel
theorem dX7_takeClause_193 : decode cX7_takeClause 193 = .ok (.dup, 1) := by decide +kernel
theorem dX7_takeClause_194 : decode cX7_takeClause 194 = .ok (.getfield 101, 3) := by decide +kernel
theorem dX7_takeClause_197 : decode cX7_takeClause 197 = .ok (.iconst 1, 1) := by decide +kernel
theorem dX7_takeClause_198 : decode cX7_takeClause 198 = .ok (.iadd, 1) := by decide +kernel
theorem dX7_takeClause_199 : decode cX7_takeClause 199 = .ok (.putfield 101, 3) := by decide +kernel
theorem dX7_takeClause_202 : decode cX7_takeClause 202 = .ok (.iload_n 3, 1) := by decide +kernel
theorem dX7_takeClause_203 : decode cX7_takeClause 203 = .ok (.ireturn, 1) := by decide +kernel
theorem dX7_findEdges_0 : decode cX7_findEdges 0 = .ok (.aload_n 0, 1) := by decide +kernel
theorem dX7_findEdges_1 : decode cX7_findEdges 1 = .ok (.iconst 0, 1) := by decide +kernel
theorem dX7_findEdges_2 : decode cX7_findEdges 2 = .ok (.putfield 91, 3) := by decide +kernel
theorem dX7_findEdges_5 : decode cX7_findEdges 5 = .ok (.iconst 0, 1) := by decide +kernel
theorem dX7_findEdges_6 : decode cX7_findEdges 6 = .ok (.istore_n 1, 1) := by decide +kernel
theorem dX7_findEdges_7 : decode cX7_findEdges 7 = .ok (.iload_n 1, 1) := by decide +kernel
theorem dX7_findEdges_8 : decode cX7_findEdges 8 = .ok (.aload_n 0, 1) := by decide +kernel
theorem dX7_findEdges_9 : decode cX7_findEdges 9 = .ok (.getfield 84, 3) := by decide +kernel
theorem dX7_findEdges_12 : decode cX7_findEdges 12 = .ok (.if_icmp .ge 56, 3) := by decide +kernel
theorem dX7_findEdges_15 : decode cX7_findEdges 15 = .ok (.iload_n 1, 1) := by decide +kernel
theorem dX7_findEdges_16 : decode cX7_findEdges 16 = .ok (.aload_n 0, 1) := by decide +kernel
theorem dX7_findEdges_17 : decode cX7_findEdges 17 = .ok (.getfield 160, 3) := by decide +kernel
theorem dX7_findEdges_20 : decode cX7_findEdges 20 = .ok (.irem, 1) := by decide +kernel
theorem dX7_findEdges_21 : decode cX7_findEdges 21 = .ok (.aload_n 0, 1) := by decide +kernel
theorem dX7_findEdges_22 : decode cX7_findEdges 22 = .ok (.getfield 160, 3) := by decide +kernel
theorem dX7_findEdges_25 : decode cX7_findEdges 25 = .ok (.iconst 1, 1) := by decide +kernel
theorem dX7_findEdges_26 : decode cX7_findEdges 26 = .ok (.isub, 1) := by decide +kernel
theorem dX7_findEdges_27 : decode cX7_findEdges 27 = .ok (.if_icmp .ge 35, 3) := by decide +kernel
theorem dX7_findEdges_30 : decode cX7_findEdges 30 = .ok (.aload_n 0, 1) := by decide +kernel
theorem dX7_findEdges_31 : decode cX7_findEdges 31 = .ok (.getfield 13, 3) := by decide +kernel
theorem dX7_findEdges_34 : decode cX7_findEdges 34 = .ok (.aload_n 0, 1) := by decide +kernel
theorem dX7_findEdges_35 : decode cX7_findEdges 35 = .ok (.getfield 91, 3) := by decide +kernel
theorem dX7_findEdges_38 : decode cX7_findEdges 38 = .ok (.iload_n 1, 1) := by decide +kernel
theorem dX7_findEdges_39 : decode cX7_findEdges 39 = .ok (.iastore, 1) := by decide +kernel
theorem dX7_findEdges_40 : decode cX7_findEdges 40 = .ok (.aload_n 0, 1) := by decide +kernel
theorem dX7_findEdges_41 : decode cX7_findEdges 41 = .ok (.getfield 16, 3) := by decide +kernel
theorem dX7_findEdges_44 : decode cX7_findEdges 44 = .ok (.aload_n 0, 1) := by decide +kernel
theorem dX7_findEdges_45 : decode cX7_findEdges 45 = .ok (.getfield 91, 3) := by decide +kernel
theorem dX7_findEdges_48 : decode cX7_findEdges 48 = .ok (.iload_n 1, 1) := by decide +kernel
theorem dX7_findEdges_49 : decode cX7_findEdges 49 = .ok (.iconst 1, 1) := by decide +kernel
theorem dX7_findEdges_50 : decode cX7_findEdges 50 = .ok (.iadd, 1) := by decide +kernel
theorem dX7_findEdges_51 : decode cX7_findEdges 51 = .ok (.iastore, 1) := by decide +kernel
theorem dX7_findEdges_52 : decode cX7_findEdges 52 = .ok (.aload_n 0, 1) := by decide +kernel
theorem dX7_findEdges_53 : decode cX7_findEdges 53 = .ok (.dup, 1) := by decide +kernel
theorem dX7_findEdges_54 : decode cX7_findEdges 54 = .ok (.getfield 91, 3) := by decide +kernel
theorem dX7_findEdges_57 : decode cX7_findEdges 57 = .ok (.iconst 1, 1) := by decide +kernel
theorem dX7_findEdges_58 : decode cX7_findEdges 58 = .ok (.iadd, 1) := by decide +kernel
theorem dX7_findEdges_59 : decode cX7_findEdges 59 = .ok (.putfield 91, 3) := by decide +kernel
theorem dX7_findEdges_62 : decode cX7_findEdges 62 = .ok (.iinc 1 1, 3) := by decide +kernel
theorem dX7_findEdges_65 : decode cX7_findEdges 65 = .ok (.goto (-58), 3) := by decide +kernel
theorem dX7_findEdges_68 : decode cX7_findEdges 68 = .ok (.iconst 0, 1) := by decide +kernel
theorem dX7_findEdges_69 : decode cX7_findEdges 69 = .ok (.istore_n 1, 1) := by decide +kernel
theorem dX7_findEdges_70 : decode cX7_findEdges 70 = .ok (.iload_n 1, 1) := by decide +kernel
theorem dX7_findEdges_71 : decode cX7_findEdges 71 = .ok (.aload_n 0, 1) := by decide +kernel
theorem dX7_findEdges_72 : decode cX7_findEdges 72 = .ok (.getfield 160, 3) := by decide +kernel
theorem dX7_findEdges_75 : decode cX7_findEdges 75 = .ok (.iadd, 1) := by decide +kernel
theorem dX7_findEdges_76 : decode cX7_findEdges 76 = .ok (.aload_n 0, 1) := by decide +kernel
theorem dX7_findEdges_77 : decode cX7_findEdges 77 = .ok (.getfield 84, 3) := by decide +kernel
theorem dX7_findEdges_80 : decode cX7_findEdges 80 = .ok (.if_icmp .ge 44, 3) := by decide +kernel
theorem dX7_findEdges_83 : decode cX7_findEdges 83 = .ok (.aload_n 0, 1) := by decide +kernel
theorem dX7_findEdges_84 : decode cX7_findEdges 84 = .ok (.getfield 13, 3) := by decide +kernel
theorem dX7_findEdges_87 : decode cX7_findEdges 87 = .ok (.aload_n 0, 1) := by decide +kernel
theorem dX7_findEdges_88 : decode cX7_findEdges 88 = .ok (.getfield 91, 3) := by decide +kernel
theorem dX7_findEdges_91 : decode cX7_findEdges 91 = .ok (.iload_n 1, 1) := by decide +kernel
theorem dX7_findEdges_92 : decode cX7_findEdges 92 = .ok (.iastore, 1) := by decide +kernel
theorem dX7_findEdges_93 : decode cX7_findEdges 93 = .ok (.aload_n 0, 1) := by decide +kernel
theorem dX7_findEdges_94 : decode cX7_findEdges 94 = .ok (.getfield 16, 3) := by decide +kernel
theorem dX7_findEdges_97 : decode cX7_findEdges 97 = .ok (.aload_n 0, 1) := by decide +kernel
theorem dX7_findEdges_98 : decode cX7_findEdges 98 = .ok (.getfield 91, 3) := by decide +kernel
theorem dX7_findEdges_101 : decode cX7_findEdges 101 = .ok (.iload_n 1, 1) := by decide +kernel
theorem dX7_findEdges_102 : decode cX7_findEdges 102 = .ok (.aload_n 0, 1) := by decide +kernel
theorem dX7_findEdges_103 : decode cX7_findEdges 103 = .ok (.getfield 160, 3) := by decide +kernel
theorem dX7_findEdges_106 : decode cX7_findEdges 106 = .ok (.iadd, 1) := by decide +kernel
theorem dX7_findEdges_107 : decode cX7_findEdges 107 = .ok (.iastore, 1) := by decide +kernel
theorem dX7_findEdges_108 : decode cX7_findEdges 108 = .ok (.aload_n 0, 1) := by decide +kernel
theorem dX7_findEdges_109 : decode cX7_findEdges 109 = .ok (.dup, 1) := by decide +kernel
theorem dX7_findEdges_110 : decode cX7_findEdges 110 = .ok (.getfield 91, 3) := by decide +kernel
theorem dX7_findEdges_113 : decode cX7_findEdges 113 = .ok (.iconst 1, 1) := by decide +kernel
theorem dX7_findEdges_114 : decode cX7_findEdges 114 = .ok (.iadd, 1) := by decide +kernel
theorem dX7_findEdges_115 : decode cX7_findEdges 115 = .ok (.putfield 91, 3) := by decide +kernel
theorem dX7_findEdges_118 : decode cX7_findEdges 118 = .ok (.iinc 1 1, 3) := by decide +kernel
theorem dX7_findEdges_121 : decode cX7_findEdges 121 = .ok (.goto (-51), 3) := by decide +kernel
theorem dX7_findEdges_124 : decode cX7_findEdges 124 = .ok (.return_, 1) := by decide +kernel
set_option maxRecDepth 20000 in
theorem ggX7_takeRead_X7_findEdges : GoodIn wsX7_takeRead wsX7_findEdges := goodIn_r _ [17, 18, 4, 2, 19, 20, 21, 22, 23, 24, 25, 26, 27, 28, 29, 30, 31, 32, 33, 34, 35, 36, 37, 38, 39, 40, 41, 42, 43, 44, 45, 46, 47, 48, 49, 50, 51, 52, 53, 54, 55, 56, 57, 58] (by decide +kernel) (by decide +kernel)
set_option maxRecDepth 20000 in
theorem gX7_takeRead_X7_findEdges : GoodIn wsX7_takeRead (wsV RX7 166 RX7 yX7_findEdges wsX7_findEdges) := goodIn_app (goodIn_of _ (by decide +kernel)) ggX7_takeRead_X7_findEdges
theorem dX7_takeRead_0 : decode cX7_takeRead 0 = .ok (.aload_n 0, 1) := by decide +kernel
theorem dX7_takeRead_1 : decode cX7_takeRead 1 = .ok (.aload_n 0, 1) := by decide +kernel
theorem dX7_takeRead_2 : decode cX7_takeRead 2 = .ok (.getfield 33, 3) := by decide +kernel
theorem dX7_takeRead_5 : decode cX7_takeRead 5 = .ok (.iconst 0, 1) := by decide +kernel
theorem dX7_takeRead_6 : decode cX7_takeRead 6 = .ok (.iaload, 1) := by decide +kernel
theorem dX7_takeRead_7 : decode cX7_takeRead 7 = .ok (.putfield 160, 3) := by decide +kernel
theorem dX7_takeRead_10 : decode cX7_takeRead 10 = .ok (.aload_n 0, 1) := by decide +kernel
theorem dX7_takeRead_11 : decode cX7_takeRead 11 = .ok (.aload_n 0, 1) := by decide +kernel
theorem dX7_takeRead_12 : decode cX7_takeRead 12 = .ok (.getfield 33, 3) := by decide +kernel
theorem dX7_takeRead_15 : decode cX7_takeRead 15 = .ok (.iconst 1, 1) := by decide +kernel
theorem dX7_takeRead_16 : decode cX7_takeRead 16 = .ok (.iaload, 1) := by decide +kernel
theorem dX7_takeRead_17 : decode cX7_takeRead 17 = .ok (.putfield 163, 3) := by decide +kernel
theorem dX7_takeRead_20 : decode cX7_takeRead 20 = .ok (.aload_n 0, 1) := by decide +kernel
theorem dX7_takeRead_21 : decode cX7_takeRead 21 = .ok (.aload_n 0, 1) := by decide +kernel
theorem dX7_takeRead_22 : decode cX7_takeRead 22 = .ok (.getfield 160, 3) := by decide +kernel
theorem dX7_takeRead_25 : decode cX7_takeRead 25 = .ok (.aload_n 0, 1) := by decide +kernel
theorem dX7_takeRead_26 : decode cX7_takeRead 26 = .ok (.getfield 163, 3) := by decide +kernel
theorem dX7_takeRead_29 : decode cX7_takeRead 29 = .ok (.imul, 1) := by decide +kernel
theorem dX7_takeRead_30 : decode cX7_takeRead 30 = .ok (.putfield 84, 3) := by decide +kernel
theorem dX7_takeRead_33 : decode cX7_takeRead 33 = .ok (.aload_n 0, 1) := by decide +kernel
theorem dX7_takeRead_34 : decode cX7_takeRead 34 = .ok (.invokevirtual 166, 3) := by decide +kernel
theorem dX7_takeRead_37 : decode cX7_takeRead 37 = .ok (.iconst 0, 1) := by decide +kernel
theorem dX7_takeRead_38 : decode cX7_takeRead 38 = .ok (.istore_n 1, 1) := by decide +kernel
theorem dX7_takeRead_39 : decode cX7_takeRead 39 = .ok (.iload_n 1, 1) := by decide +kernel
theorem dX7_takeRead_40 : decode cX7_takeRead 40 = .ok (.bipush 25, 2) := by decide +kernel
theorem dX7_takeRead_42 : decode cX7_takeRead 42 = .ok (.if_icmp .ge 21, 3) := by decide +kernel
theorem dX7_takeRead_45 : decode cX7_takeRead 45 = .ok (.aload_n 0, 1) := by decide +kernel
theorem dX7_takeRead_46 : decode cX7_takeRead 46 = .ok (.getfield 7, 3) := by decide +kernel
theorem dX7_takeRead_49 : decode cX7_takeRead 49 = .ok (.iload_n 1, 1) := by decide +kernel
theorem dX7_takeRead_50 : decode cX7_takeRead 50 = .ok (.aload_n 0, 1) := by decide +kernel
theorem dX7_takeRead_51 : decode cX7_takeRead 51 = .ok (.getfield 36, 3) := by decide +kernel
theorem dX7_takeRead_54 : decode cX7_takeRead 54 = .ok (.iload_n 1, 1) := by decide +kernel
theorem dX7_takeRead_55 : decode cX7_takeRead 55 = .ok (.iaload, 1) := by decide +kernel
theorem dX7_takeRead_56 : decode cX7_takeRead 56 = .ok (.iastore, 1) := by decide +kernel
theorem dX7_takeRead_57 : decode cX7_takeRead 57 = .ok (.iinc 1 1, 3) := by decide +kernel
theorem dX7_takeRead_60 : decode cX7_takeRead 60 = .ok (.goto (-21), 3) := by decide +kernel
theorem dX7_takeRead_63 : decode cX7_takeRead 63 = .ok (.iconst 0, 1) := by decide +kernel
theorem dX7_takeRead_64 : decode cX7_takeRead 64 = .ok (.istore_n 1, 1) := by decide +kernel
theorem dX7_takeRead_65 : decode cX7_takeRead 65 = .ok (.iload_n 1, 1) := by decide +kernel
theorem dX7_takeRead_66 : decode cX7_takeRead 66 = .ok (.bipush 40, 2) := by decide +kernel
theorem dX7_takeRead_68 : decode cX7_takeRead 68 = .ok (.if_icmp .ge 58, 3) := by decide +kernel
theorem dX7_takeRead_71 : decode cX7_takeRead 71 = .ok (.aload_n 0, 1) := by decide +kernel
theorem dX7_takeRead_72 : decode cX7_takeRead 72 = .ok (.getfield 19, 3) := by decide +kernel
theorem dX7_takeRead_75 : decode cX7_takeRead 75 = .ok (.iload_n 1, 1) := by decide +kernel
theorem dX7_takeRead_76 : decode cX7_takeRead 76 = .ok (.aload_n 0, 1) := by decide +kernel
theorem dX7_takeRead_77 : decode cX7_takeRead 77 = .ok (.getfield 39, 3) := by decide +kernel
theorem dX7_takeRead_80 : decode cX7_takeRead 80 = .ok (.iload_n 1, 1) := by decide +kernel
theorem dX7_takeRead_81 : decode cX7_takeRead 81 = .ok (.baload, 1) := by decide +kernel
theorem dX7_takeRead_82 : decode cX7_takeRead 82 = .ok (.bastore, 1) := by decide +kernel
theorem dX7_takeRead_83 : decode cX7_takeRead 83 = .ok (.aload_n 0, 1) := by decide +kernel
theorem dX7_takeRead_84 : decode cX7_takeRead 84 = .ok (.getfield 23, 3) := by decide +kernel
theorem dX7_takeRead_87 : decode cX7_takeRead 87 = .ok (.iload_n 1, 1) := by decide +kernel
theorem dX7_takeRead_88 : decode cX7_takeRead 88 = .ok (.aload_n 0, 1) := by decide +kernel
theorem dX7_takeRead_89 : decode cX7_takeRead 89 = .ok (.getfield 42, 3) := by decide +kernel
theorem dX7_takeRead_92 : decode cX7_takeRead 92 = .ok (.iload_n 1, 1) := by decide +kernel
theorem dX7_takeRead_93 : decode cX7_takeRead 93 = .ok (.iaload, 1) := by decide +kernel
theorem dX7_takeRead_94 : decode cX7_takeRead 94 = .ok (.iastore, 1) := by decide +kernel
theorem dX7_takeRead_95 : decode cX7_takeRead 95 = .ok (.aload_n 0, 1) := by decide +kernel
theorem dX7_takeRead_96 : decode cX7_takeRead 96 = .ok (.getfield 23, 3) := by decide +kernel
theorem dX7_takeRead_99 : decode cX7_takeRead 99 = .ok (.bipush 40, 2) := by decide +kernel
theorem dX7_takeRead_101 : decode cX7_takeRead 101 = .ok (.iload_n 1, 1) := by decide +kernel
theorem dX7_takeRead_102 : decode cX7_takeRead 102 = .ok (.iadd, 1) := by decide +kernel
theorem dX7_takeRead_103 : decode cX7_takeRead 103 = .ok (.aload_n 0, 1) := by decide +kernel
theorem dX7_takeRead_104 : decode cX7_takeRead 104 = .ok (.getfield 45, 3) := by decide +kernel
theorem dX7_takeRead_107 : decode cX7_takeRead 107 = .ok (.iload_n 1, 1) := by decide +kernel
theorem dX7_takeRead_108 : decode cX7_takeRead 108 = .ok (.iaload, 1) := by decide +kernel
theorem dX7_takeRead_109 : decode cX7_takeRead 109 = .ok (.iastore, 1) := by decide +kernel
theorem dX7_takeRead_110 : decode cX7_takeRead 110 = .ok (.aload_n 0, 1) := by decide +kernel
theorem dX7_takeRead_111 : decode cX7_takeRead 111 = .ok (.getfield 23, 3) := by decide +kernel
theorem dX7_takeRead_114 : decode cX7_takeRead 114 = .ok (.bipush 80, 2) := by decide +kernel
theorem dX7_takeRead_116 : decode cX7_takeRead 116 = .ok (.iload_n 1, 1) := by decide +kernel
theorem dX7_takeRead_117 : decode cX7_takeRead 117 = .ok (.iadd, 1) := by decide +kernel
theorem dX7_takeRead_118 : decode cX7_takeRead 118 = .ok (.iconst 0, 1) := by decide +kernel
theorem dX7_takeRead_119 : decode cX7_takeRead 119 = .ok (.iastore, 1) := by decide +kernel
theorem dX7_takeRead_120 : decode cX7_takeRead 120 = .ok (.iinc 1 1, 3) := by decide +kernel
theorem dX7_takeRead_123 : decode cX7_takeRead 123 = .ok (.goto (-58), 3) := by decide +kernel
theorem dX7_takeRead_126 : decode cX7_takeRead 126 = .ok (.aload_n 0, 1) := by decide +kernel
theorem dX7_takeRead_127 : decode cX7_takeRead 127 = .ok (.getfield 23, 3) := by decide +kernel
theorem dX7_takeRead_130 : decode cX7_takeRead 130 = .ok (.bipush 120, 2) := by decide +kernel
theorem dX7_takeRead_132 : decode cX7_takeRead 132 = .ok (.aload_n 0, 1) := by decide +kernel
theorem dX7_takeRead_133 : decode cX7_takeRead 133 = .ok (.getfield 132, 3) := by decide +kernel
theorem dX7_takeRead_136 : decode cX7_takeRead 136 = .ok (.iastore, 1) := by decide +kernel
theorem dX7_takeRead_137 : decode cX7_takeRead 137 = .ok (.aload_n 0, 1) := by decide +kernel
theorem dX7_takeRead_138 : decode cX7_takeRead 138 = .ok (.getfield 23, 3) := by decide +kernel
theorem dX7_takeRead_141 : decode cX7_takeRead 141 = .ok (.bipush 121, 2) := by decide +kernel
theorem dX7_takeRead_143 : decode cX7_takeRead 143 = .ok (.iconst 0, 1) := by decide +kernel
theorem dX7_takeRead_144 : decode cX7_takeRead 144 = .ok (.iastore, 1) := by decide +kernel
theorem dX7_takeRead_145 : decode cX7_takeRead 145 = .ok (.return_, 1) := by decide +kernel
set_option maxRecDepth 20000 in
theorem ggX7_parish_X7_here : GoodIn wsX7_parish wsX7_here := goodIn_r _ [18, 2, 8, 19, 95, 96, 97, 98, 99, 100, 101, 102, 103, 104, 105, 106, 107, 108, 109, 110, 111, 112, 113, 114, 115, 116, 117, 118, 119, 120, 121, 122, 123, 124, 125, 126, 127, 128, 129, 130, 131, 132] (by decide +kernel) (by decide +kernel)
set_option maxRecDepth 20000 in
theorem gX7_parish_X7_here : GoodIn wsX7_parish (wsV RX7 104 RX7 yX7_here wsX7_here) := goodIn_app (goodIn_of _ (by decide +kernel)) ggX7_parish_X7_here
set_option maxRecDepth 20000 in
theorem ggX7_parish_X7_takeClause : GoodIn wsX7_parish wsX7_takeClause := goodIn_r _ [23, 3, 2, 14, 15, 16, 17, 18, 8, 19, 24, 25, 26, 27, 1, 28, 29, 30, 31, 32, 33, 34, 35, 36, 37, 38, 39, 40, 41, 42, 43, 44, 45, 46, 47, 48, 49, 50, 51, 52, 53, 54, 55, 56, 57, 58, 59, 4, 60, 61, 62, 63, 64, 65, 66, 5, 67, 68, 69, 70, 6, 71, 72, 73, 74, 75, 76, 77, 78, 7, 95, 96, 97, 98, 99, 100, 101, 102, 103, 104, 105, 106, 107, 108, 109, 110, 111, 112, 113, 114, 115, 116, 117, 118, 119, 120, 121, 122, 123, 124, 125, 126, 127, 128, 129, 130, 131, 132] (by decide +kernel) (by decide +kernel)
set_option maxRecDepth 20000 in
theorem gX7_parish_X7_takeClause : GoodIn wsX7_parish (wsV RX7 169 RX7 yX7_takeClause wsX7_takeClause) := goodIn_app (goodIn_of _ (by decide +kernel)) ggX7_parish_X7_takeClause
set_option maxRecDepth 20000 in
theorem ggX7_parish_X7_takeRead : GoodIn wsX7_parish wsX7_takeRead := goodIn_r _ [82, 3, 83, 84, 13, 85, 32, 86, 5, 87, 6, 7, 4, 88, 89, 90, 17, 91, 92, 93, 94, 95, 96, 97, 98, 99, 100, 101, 102, 103, 104, 105, 106, 107, 108, 109, 110, 111, 112, 113, 114, 115, 116, 117, 118, 119, 120, 121, 122, 123, 124, 125, 126, 127, 128, 129, 130, 131, 132] (by decide +kernel) (by decide +kernel)
set_option maxRecDepth 20000 in
theorem gX7_parish_X7_takeRead : GoodIn wsX7_parish (wsV RX7 172 RX7 yX7_takeRead wsX7_takeRead) := goodIn_app (goodIn_of _ (by decide +kernel)) ggX7_parish_X7_takeRead
theorem dX7_parish_0 : decode cX7_parish 0 = .ok (.aload_n 0, 1) := by decide +kernel
theorem dX7_parish_1 : decode cX7_parish 1 = .ok (.iconst (-1), 1) := by decide +kernel
theorem dX7_parish_2 : decode cX7_parish 2 = .ok (.putfield 29, 3) := by decide +kernel
theorem dX7_parish_5 : decode cX7_parish 5 = .ok (.aload_n 0, 1) := by decide +kernel
theorem dX7_parish_6 : decode cX7_parish 6 = .ok (.iconst 0, 1) := by decide +kernel
theorem dX7_parish_7 : decode cX7_parish 7 = .ok (.putfield 101, 3) := by decide +kernel
theorem dX7_parish_10 : decode cX7_parish 10 = .ok (.iconst 0, 1) := by decide +kernel
theorem dX7_parish_11 : decode cX7_parish 11 = .ok (.istore_n 1, 1) := by decide +kernel
theorem dX7_parish_12 : decode cX7_parish 12 = .ok (.iload_n 1, 1) := by decide +kernel
theorem dX7_parish_13 : decode cX7_parish 13 = .ok (.iconst 3, 1) := by decide +kernel
theorem dX7_parish_14 : decode cX7_parish 14 = .ok (.if_icmp .ge 16, 3) := by decide +kernel
theorem dX7_parish_17 : decode cX7_parish 17 = .ok (.aload_n 0, 1) := by decide +kernel
theorem dX7_parish_18 : decode cX7_parish 18 = .ok (.getfield 33, 3) := by decide +kernel
theorem dX7_parish_21 : decode cX7_parish 21 = .ok (.iload_n 1, 1) := by decide +kernel
theorem dX7_parish_22 : decode cX7_parish 22 = .ok (.iconst 0, 1) := by decide +kernel
theorem dX7_parish_23 : decode cX7_parish 23 = .ok (.iastore, 1) := by decide +kernel
theorem dX7_parish_24 : decode cX7_parish 24 = .ok (.iinc 1 1, 3) := by decide +kernel
theorem dX7_parish_27 : decode cX7_parish 27 = .ok (.goto (-15), 3) := by decide +kernel
theorem dX7_parish_30 : decode cX7_parish 30 = .ok (.aload_n 0, 1) := by decide +kernel
theorem dX7_parish_31 : decode cX7_parish 31 = .ok (.iconst 0, 1) := by decide +kernel
theorem dX7_parish_32 : decode cX7_parish 32 = .ok (.putfield 132, 3) := by decide +kernel
theorem dX7_parish_35 : decode cX7_parish 35 = .ok (.iconst 0, 1) := by decide +kernel
theorem dX7_parish_36 : decode cX7_parish 36 = .ok (.istore_n 1, 1) := by decide +kernel
theorem dX7_parish_37 : decode cX7_parish 37 = .ok (.iload_n 1, 1) := by decide +kernel
theorem dX7_parish_38 : decode cX7_parish 38 = .ok (.bipush 40, 2) := by decide +kernel
theorem dX7_parish_40 : decode cX7_parish 40 = .ok (.if_icmp .ge 30, 3) := by decide +kernel
theorem dX7_parish_43 : decode cX7_parish 43 = .ok (.aload_n 0, 1) := by decide +kernel
theorem dX7_parish_44 : decode cX7_parish 44 = .ok (.getfield 39, 3) := by decide +kernel
theorem dX7_parish_47 : decode cX7_parish 47 = .ok (.iload_n 1, 1) := by decide +kernel
theorem dX7_parish_48 : decode cX7_parish 48 = .ok (.iconst 0, 1) := by decide +kernel
theorem dX7_parish_49 : decode cX7_parish 49 = .ok (.bastore, 1) := by decide +kernel
theorem dX7_parish_50 : decode cX7_parish 50 = .ok (.aload_n 0, 1) := by decide +kernel
theorem dX7_parish_51 : decode cX7_parish 51 = .ok (.getfield 42, 3) := by decide +kernel
theorem dX7_parish_54 : decode cX7_parish 54 = .ok (.iload_n 1, 1) := by decide +kernel
theorem dX7_parish_55 : decode cX7_parish 55 = .ok (.iconst (-1), 1) := by decide +kernel
theorem dX7_parish_56 : decode cX7_parish 56 = .ok (.iastore, 1) := by decide +kernel
theorem dX7_parish_57 : decode cX7_parish 57 = .ok (.aload_n 0, 1) := by decide +kernel
theorem dX7_parish_58 : decode cX7_parish 58 = .ok (.getfield 45, 3) := by decide +kernel
theorem dX7_parish_61 : decode cX7_parish 61 = .ok (.iload_n 1, 1) := by decide +kernel
theorem dX7_parish_62 : decode cX7_parish 62 = .ok (.iconst 0, 1) := by decide +kernel
theorem dX7_parish_63 : decode cX7_parish 63 = .ok (.iastore, 1) := by decide +kernel
theorem dX7_parish_64 : decode cX7_parish 64 = .ok (.iinc 1 1, 3) := by decide +kernel
theorem dX7_parish_67 : decode cX7_parish 67 = .ok (.goto (-30), 3) := by decide +kernel
theorem dX7_parish_70 : decode cX7_parish 70 = .ok (.iconst 0, 1) := by decide +kernel
theorem dX7_parish_71 : decode cX7_parish 71 = .ok (.istore_n 1, 1) := by decide +kernel
theorem dX7_parish_72 : decode cX7_parish 72 = .ok (.iload_n 1, 1) := by decide +kernel
theorem dX7_parish_73 : decode cX7_parish 73 = .ok (.ifCond .ne 18, 3) := by decide +kernel
theorem dX7_parish_76 : decode cX7_parish 76 = .ok (.aload_n 0, 1) := by decide +kernel
theorem dX7_parish_77 : decode cX7_parish 77 = .ok (.invokevirtual 104, 3) := by decide +kernel
theorem dX7_parish_80 : decode cX7_parish 80 = .ok (.ifCond .lt 11, 3) := by decide +kernel
theorem dX7_parish_83 : decode cX7_parish 83 = .ok (.aload_n 0, 1) := by decide +kernel
theorem dX7_parish_84 : decode cX7_parish 84 = .ok (.invokevirtual 169, 3) := by decide +kernel
theorem dX7_parish_87 : decode cX7_parish 87 = .ok (.istore_n 1, 1) := by decide +kernel
theorem dX7_parish_88 : decode cX7_parish 88 = .ok (.goto (-16), 3) := by decide +kernel
theorem dX7_parish_91 : decode cX7_parish 91 = .ok (.aload_n 0, 1) := by decide +kernel
theorem dX7_parish_92 : decode cX7_parish 92 = .ok (.iconst 0, 1) := by decide +kernel
theorem dX7_parish_93 : decode cX7_parish 93 = .ok (.putfield 97, 3) := by decide +kernel
theorem dX7_parish_96 : decode cX7_parish 96 = .ok (.iload_n 1, 1) := by decide +kernel
theorem dX7_parish_97 : decode cX7_parish 97 = .ok (.ifCond .le 8, 3) := by decide +kernel
theorem dX7_parish_100 : decode cX7_parish 100 = .ok (.bipush (-10), 2) := by decide +kernel
theorem dX7_parish_102 : decode cX7_parish 102 = .ok (.iload_n 1, 1) := by decide +kernel
theorem dX7_parish_103 : decode cX7_parish 103 = .ok (.isub, 1) := by decide +kernel
theorem dX7_parish_104 : decode cX7_parish 104 = .ok (.ireturn, 1) := by decide +kernel
theorem dX7_parish_105 : decode cX7_parish 105 = .ok (.aload_n 0, 1) := by decide +kernel
theorem dX7_parish_106 : decode cX7_parish 106 = .ok (.invokevirtual 172, 3) := by decide +kernel
theorem dX7_parish_109 : decode cX7_parish 109 = .ok (.aload_n 0, 1) := by decide +kernel
theorem dX7_parish_110 : decode cX7_parish 110 = .ok (.iconst 0, 1) := by decide +kernel
theorem dX7_parish_111 : decode cX7_parish 111 = .ok (.putfield 175, 3) := by decide +kernel
theorem dX7_parish_114 : decode cX7_parish 114 = .ok (.aload_n 0, 1) := by decide +kernel
theorem dX7_parish_115 : decode cX7_parish 115 = .ok (.iconst 0, 1) := by decide +kernel
theorem dX7_parish_116 : decode cX7_parish 116 = .ok (.putfield 178, 3) := by decide +kernel
theorem dX7_parish_119 : decode cX7_parish 119 = .ok (.aload_n 0, 1) := by decide +kernel
theorem dX7_parish_120 : decode cX7_parish 120 = .ok (.iconst 0, 1) := by decide +kernel
theorem dX7_parish_121 : decode cX7_parish 121 = .ok (.putfield 181, 3) := by decide +kernel
theorem dX7_parish_124 : decode cX7_parish 124 = .ok (.aload_n 0, 1) := by decide +kernel
theorem dX7_parish_125 : decode cX7_parish 125 = .ok (.getfield 81, 3) := by decide +kernel
theorem dX7_parish_128 : decode cX7_parish 128 = .ok (.iconst 0, 1) := by decide +kernel
theorem dX7_parish_129 : decode cX7_parish 129 = .ok (.iconst 0, 1) := by decide +kernel
theorem dX7_parish_130 : decode cX7_parish 130 = .ok (.bastore, 1) := by decide +kernel
theorem dX7_parish_131 : decode cX7_parish 131 = .ok (.aload_n 0, 1) := by decide +kernel
theorem dX7_parish_132 : decode cX7_parish 132 = .ok (.getfield 81, 3) := by decide +kernel
theorem dX7_parish_135 : decode cX7_parish 135 = .ok (.iconst 1, 1) := by decide +kernel
theorem dX7_parish_136 : decode cX7_parish 136 = .ok (.iconst 0, 1) := by decide +kernel
theorem dX7_parish_137 : decode cX7_parish 137 = .ok (.bastore, 1) := by decide +kernel
theorem dX7_parish_138 : decode cX7_parish 138 = .ok (.aload_n 0, 1) := by decide +kernel
theorem dX7_parish_139 : decode cX7_parish 139 = .ok (.getfield 84, 3) := by decide +kernel
theorem dX7_parish_142 : decode cX7_parish 142 = .ok (.ireturn, 1) := by decide +kernel
theorem dX7_fault_0 : decode cX7_fault 0 = .ok (.aload_n 0, 1) := by decide +kernel
theorem dX7_fault_1 : decode cX7_fault 1 = .ok (.getfield 29, 3) := by decide +kernel
theorem dX7_fault_4 : decode cX7_fault 4 = .ok (.ireturn, 1) := by decide +kernel
theorem dX7_factor_0 : decode cX7_factor 0 = .ok (.iconst 2, 1) := by decide +kernel
theorem dX7_factor_1 : decode cX7_factor 1 = .ok (.aload_n 0, 1) := by decide +kernel
theorem dX7_factor_2 : decode cX7_factor 2 = .ok (.getfield 7, 3) := by decide +kernel
theorem dX7_factor_5 : decode cX7_factor 5 = .ok (.aload_n 0, 1) := by decide +kernel
theorem dX7_factor_6 : decode cX7_factor 6 = .ok (.getfield 13, 3) := by decide +kernel
theorem dX7_factor_9 : decode cX7_factor 9 = .ok (.iload_n 1, 1) := by decide +kernel
theorem dX7_factor_10 : decode cX7_factor 10 = .ok (.iaload, 1) := by decide +kernel
theorem dX7_factor_11 : decode cX7_factor 11 = .ok (.iaload, 1) := by decide +kernel
theorem dX7_factor_12 : decode cX7_factor 12 = .ok (.aload_n 0, 1) := by decide +kernel
theorem dX7_factor_13 : decode cX7_factor 13 = .ok (.getfield 7, 3) := by decide +kernel
theorem dX7_factor_16 : decode cX7_factor 16 = .ok (.aload_n 0, 1) := by decide +kernel
theorem dX7_factor_17 : decode cX7_factor 17 = .ok (.getfield 16, 3) := by decide +kernel
theorem dX7_factor_20 : decode cX7_factor 20 = .ok (.iload_n 1, 1) := by decide +kernel
theorem dX7_factor_21 : decode cX7_factor 21 = .ok (.iaload, 1) := by decide +kernel
theorem dX7_factor_22 : decode cX7_factor 22 = .ok (.iaload, 1) := by decide +kernel
theorem dX7_factor_23 : decode cX7_factor 23 = .ok (.iadd, 1) := by decide +kernel
theorem dX7_factor_24 : decode cX7_factor 24 = .ok (.iconst 4, 1) := by decide +kernel
theorem dX7_factor_25 : decode cX7_factor 25 = .ok (.idiv, 1) := by decide +kernel
theorem dX7_factor_26 : decode cX7_factor 26 = .ok (.iadd, 1) := by decide +kernel
theorem dX7_factor_27 : decode cX7_factor 27 = .ok (.ireturn, 1) := by decide +kernel
set_option maxRecDepth 20000 in
theorem ggX7_heightBy_X7_factor : GoodIn wsX7_heightBy wsX7_factor := goodIn_r _ [5, 6, 7, 8, 9, 10, 11, 12, 13, 14, 15, 16, 17, 18, 19, 20, 21, 22, 23, 24, 25, 26, 27, 28, 29, 30, 31, 32, 33, 34, 35, 36, 37, 38, 39, 40, 41, 42, 43, 44, 45, 46] (by decide +kernel) (by decide +kernel)
set_option maxRecDepth 20000 in
theorem gX7_heightBy_X7_factor : GoodIn wsX7_heightBy (wsV RX7 184 RX7 yX7_factor wsX7_factor) := goodIn_app (goodIn_of _ (by decide +kernel)) ggX7_heightBy_X7_factor
theorem dX7_heightBy_0 : decode cX7_heightBy 0 = .ok (.iload_n 2, 1) := by decide +kernel
theorem dX7_heightBy_1 : decode cX7_heightBy 1 = .ok (.bipush 99, 2) := by decide +kernel
theorem dX7_heightBy_3 : decode cX7_heightBy 3 = .ok (.if_icmp .ge 7, 3) := by decide +kernel
theorem dX7_heightBy_6 : decode cX7_heightBy 6 = .ok (.iload_n 2, 1) := by decide +kernel
theorem dX7_heightBy_7 : decode cX7_heightBy 7 = .ok (.goto 5, 3) := by decide +kernel
theorem dX7_heightBy_10 : decode cX7_heightBy 10 = .ok (.bipush 99, 2) := by decide +kernel
theorem dX7_heightBy_12 : decode cX7_heightBy 12 = .ok (.istore_n 3, 1) := by decide +kernel
theorem dX7_heightBy_13 : decode cX7_heightBy 13 = .ok (.iload_n 3, 1) := by decide +kernel
theorem dX7_heightBy_14 : decode cX7_heightBy 14 = .ok (.aload_n 0, 1) := by decide +kernel
theorem dX7_heightBy_15 : decode cX7_heightBy 15 = .ok (.iload_n 1, 1) := by decide +kernel
theorem dX7_heightBy_16 : decode cX7_heightBy 16 = .ok (.invokevirtual 184, 3) := by decide +kernel
theorem dX7_heightBy_19 : decode cX7_heightBy 19 = .ok (.imul, 1) := by decide +kernel
theorem dX7_heightBy_20 : decode cX7_heightBy 20 = .ok (.istore 4, 2) := by decide +kernel
theorem dX7_heightBy_22 : decode cX7_heightBy 22 = .ok (.iload 4, 2) := by decide +kernel
theorem dX7_heightBy_24 : decode cX7_heightBy 24 = .ok (.bipush 99, 2) := by decide +kernel
theorem dX7_heightBy_26 : decode cX7_heightBy 26 = .ok (.if_icmp .ge 8, 3) := by decide +kernel
theorem dX7_heightBy_29 : decode cX7_heightBy 29 = .ok (.iload 4, 2) := by decide +kernel
theorem dX7_heightBy_31 : decode cX7_heightBy 31 = .ok (.goto 5, 3) := by decide +kernel
theorem dX7_heightBy_34 : decode cX7_heightBy 34 = .ok (.bipush 99, 2) := by decide +kernel
theorem dX7_heightBy_36 : decode cX7_heightBy 36 = .ok (.ireturn, 1) := by decide +kernel
set_option maxRecDepth 20000 in
theorem ggX7_isShut_X7_heightBy : GoodIn wsX7_isShut wsX7_heightBy := goodIn_r _ [6, 7, 8, 9, 5, 10, 11, 12, 13, 14, 15, 16, 17, 18, 19, 20, 21, 22, 23, 24, 25, 26, 27, 28, 29, 30, 31, 32, 33, 34, 35, 36, 37, 38, 39, 40, 41, 42, 43, 44, 45, 46, 47, 48, 49, 50, 51] (by decide +kernel) (by decide +kernel)
set_option maxRecDepth 20000 in
theorem gX7_isShut_X7_heightBy : GoodIn wsX7_isShut (wsV RX7 188 RX7 yX7_heightBy wsX7_heightBy) := goodIn_app (goodIn_of _ (by decide +kernel)) ggX7_isShut_X7_heightBy
theorem dX7_isShut_0 : decode cX7_isShut 0 = .ok (.aload_n 0, 1) := by decide +kernel
theorem dX7_isShut_1 : decode cX7_isShut 1 = .ok (.getfield 23, 3) := by decide +kernel
theorem dX7_isShut_4 : decode cX7_isShut 4 = .ok (.iload_n 1, 1) := by decide +kernel
theorem dX7_isShut_5 : decode cX7_isShut 5 = .ok (.iaload, 1) := by decide +kernel
theorem dX7_isShut_6 : decode cX7_isShut 6 = .ok (.ifCond .lt 38, 3) := by decide +kernel
theorem dX7_isShut_9 : decode cX7_isShut 9 = .ok (.aload_n 0, 1) := by decide +kernel
theorem dX7_isShut_10 : decode cX7_isShut 10 = .ok (.getfield 23, 3) := by decide +kernel
theorem dX7_isShut_13 : decode cX7_isShut 13 = .ok (.bipush 80, 2) := by decide +kernel
theorem dX7_isShut_15 : decode cX7_isShut 15 = .ok (.iload_n 1, 1) := by decide +kernel
theorem dX7_isShut_16 : decode cX7_isShut 16 = .ok (.iadd, 1) := by decide +kernel
theorem dX7_isShut_17 : decode cX7_isShut 17 = .ok (.iaload, 1) := by decide +kernel
theorem dX7_isShut_18 : decode cX7_isShut 18 = .ok (.ifCond .ne 26, 3) := by decide +kernel
theorem dX7_isShut_21 : decode cX7_isShut 21 = .ok (.aload_n 0, 1) := by decide +kernel
theorem dX7_isShut_22 : decode cX7_isShut 22 = .ok (.iload_n 1, 1) := by decide +kernel
theorem dX7_isShut_23 : decode cX7_isShut 23 = .ok (.aload_n 0, 1) := by decide +kernel
theorem dX7_isShut_24 : decode cX7_isShut 24 = .ok (.getfield 23, 3) := by decide +kernel
theorem dX7_isShut_27 : decode cX7_isShut 27 = .ok (.bipush 40, 2) := by decide +kernel
theorem dX7_isShut_29 : decode cX7_isShut 29 = .ok (.iload_n 1, 1) := by decide +kernel
theorem dX7_isShut_30 : decode cX7_isShut 30 = .ok (.iadd, 1) := by decide +kernel
theorem dX7_isShut_31 : decode cX7_isShut 31 = .ok (.iaload, 1) := by decide +kernel
theorem dX7_isShut_32 : decode cX7_isShut 32 = .ok (.invokevirtual 188, 3) := by decide +kernel
theorem dX7_isShut_35 : decode cX7_isShut 35 = .ok (.bipush 12, 2) := by decide +kernel
theorem dX7_isShut_37 : decode cX7_isShut 37 = .ok (.if_icmp .lt 7, 3) := by decide +kernel
theorem dX7_isShut_40 : decode cX7_isShut 40 = .ok (.iconst 1, 1) := by decide +kernel
theorem dX7_isShut_41 : decode cX7_isShut 41 = .ok (.goto 4, 3) := by decide +kernel
theorem dX7_isShut_44 : decode cX7_isShut 44 = .ok (.iconst 0, 1) := by decide +kernel
theorem dX7_isShut_45 : decode cX7_isShut 45 = .ok (.ireturn, 1) := by decide +kernel
theorem dX7_isRim_0 : decode cX7_isRim 0 = .ok (.iload_n 1, 1) := by decide +kernel
theorem dX7_isRim_1 : decode cX7_isRim 1 = .ok (.aload_n 0, 1) := by decide +kernel
theorem dX7_isRim_2 : decode cX7_isRim 2 = .ok (.getfield 160, 3) := by decide +kernel
theorem dX7_isRim_5 : decode cX7_isRim 5 = .ok (.irem, 1) := by decide +kernel
theorem dX7_isRim_6 : decode cX7_isRim 6 = .ok (.istore_n 2, 1) := by decide +kernel
theorem dX7_isRim_7 : decode cX7_isRim 7 = .ok (.iload_n 1, 1) := by decide +kernel
theorem dX7_isRim_8 : decode cX7_isRim 8 = .ok (.aload_n 0, 1) := by decide +kernel
theorem dX7_isRim_9 : decode cX7_isRim 9 = .ok (.getfield 160, 3) := by decide +kernel
theorem dX7_isRim_12 : decode cX7_isRim 12 = .ok (.idiv, 1) := by decide +kernel
theorem dX7_isRim_13 : decode cX7_isRim 13 = .ok (.istore_n 3, 1) := by decide +kernel
theorem dX7_isRim_14 : decode cX7_isRim 14 = .ok (.iload_n 2, 1) := by decide +kernel
theorem dX7_isRim_15 : decode cX7_isRim 15 = .ok (.ifCond .eq 27, 3) := by decide +kernel
theorem dX7_isRim_18 : decode cX7_isRim 18 = .ok (.iload_n 3, 1) := by decide +kernel
theorem dX7_isRim_19 : decode cX7_isRim 19 = .ok (.ifCond .eq 23, 3) := by decide +kernel
theorem dX7_isRim_22 : decode cX7_isRim 22 = .ok (.iload_n 2, 1) := by decide +kernel
theorem dX7_isRim_23 : decode cX7_isRim 23 = .ok (.aload_n 0, 1) := by decide +kernel
theorem dX7_isRim_24 : decode cX7_isRim 24 = .ok (.getfield 160, 3) := by decide +kernel
theorem dX7_isRim_27 : decode cX7_isRim 27 = .ok (.iconst 1, 1) := by decide +kernel
theorem dX7_isRim_28 : decode cX7_isRim 28 = .ok (.isub, 1) := by decide +kernel
theorem dX7_isRim_29 : decode cX7_isRim 29 = .ok (.if_icmp .eq 13, 3) := by decide +kernel
theorem dX7_isRim_32 : decode cX7_isRim 32 = .ok (.iload_n 3, 1) := by decide +kernel
theorem dX7_isRim_33 : decode cX7_isRim 33 = .ok (.aload_n 0, 1) := by decide +kernel
theorem dX7_isRim_34 : decode cX7_isRim 34 = .ok (.getfield 163, 3) := by decide +kernel
theorem dX7_isRim_37 : decode cX7_isRim 37 = .ok (.iconst 1, 1) := by decide +kernel
theorem dX7_isRim_38 : decode cX7_isRim 38 = .ok (.isub, 1) := by decide +kernel
theorem dX7_isRim_39 : decode cX7_isRim 39 = .ok (.if_icmp .ne 7, 3) := by decide +kernel
theorem dX7_isRim_42 : decode cX7_isRim 42 = .ok (.iconst 1, 1) := by decide +kernel
theorem dX7_isRim_43 : decode cX7_isRim 43 = .ok (.goto 4, 3) := by decide +kernel
theorem dX7_isRim_46 : decode cX7_isRim 46 = .ok (.iconst 0, 1) := by decide +kernel
theorem dX7_isRim_47 : decode cX7_isRim 47 = .ok (.ireturn, 1) := by decide +kernel
set_option maxRecDepth 20000 in
theorem ggX7_landOf_X7_has : GoodIn wsX7_landOf wsX7_has := goodIn_r _ [7] (by decide +kernel) (by decide +kernel)
set_option maxRecDepth 20000 in
theorem gX7_landOf_X7_has : GoodIn wsX7_landOf (va_wsS RX7 135 yX7_has wsX7_has) := goodIn_app (goodIn_of _ (by decide +kernel)) ggX7_landOf_X7_has
set_option maxRecDepth 20000 in
theorem ggX7_landOf_X7_isShut : GoodIn wsX7_landOf wsX7_isShut := goodIn_r _ [11, 12, 13, 14, 15, 6, 16, 17, 18, 19, 20, 21, 2, 3, 22, 23, 24, 25, 26, 27, 28, 29, 30, 31, 32, 33, 34, 35, 36, 37, 38, 39, 40, 41, 42, 43, 44, 45, 46, 47, 48, 49, 50, 51, 52, 53, 54, 55, 56, 57, 58, 59] (by decide +kernel) (by decide +kernel)
set_option maxRecDepth 20000 in
theorem gX7_landOf_X7_isShut : GoodIn wsX7_landOf (wsV RX7 191 RX7 yX7_isShut wsX7_isShut) := goodIn_app (goodIn_of _ (by decide +kernel)) ggX7_landOf_X7_isShut
theorem dX7_landOf_0 : decode cX7_landOf 0 = .ok (.iconst 1, 1) := by decide +kernel
theorem dX7_landOf_1 : decode cX7_landOf 1 = .ok (.iload_n 1, 1) := by decide +kernel
theorem dX7_landOf_2 : decode cX7_landOf 2 = .ok (.ishl, 1) := by decide +kernel
theorem dX7_landOf_3 : decode cX7_landOf 3 = .ok (.istore_n 2, 1) := by decide +kernel
theorem dX7_landOf_4 : decode cX7_landOf 4 = .ok (.iconst 1, 1) := by decide +kernel
theorem dX7_landOf_5 : decode cX7_landOf 5 = .ok (.istore_n 3, 1) := by decide +kernel
theorem dX7_landOf_6 : decode cX7_landOf 6 = .ok (.iload_n 3, 1) := by decide +kernel
theorem dX7_landOf_7 : decode cX7_landOf 7 = .ok (.ifCond .eq 84, 3) := by decide +kernel
theorem dX7_landOf_10 : decode cX7_landOf 10 = .ok (.iconst 0, 1) := by decide +kernel
theorem dX7_landOf_11 : decode cX7_landOf 11 = .ok (.istore_n 3, 1) := by decide +kernel
theorem dX7_landOf_12 : decode cX7_landOf 12 = .ok (.iconst 0, 1) := by decide +kernel
theorem dX7_landOf_13 : decode cX7_landOf 13 = .ok (.istore 4, 2) := by decide +kernel
theorem dX7_landOf_15 : decode cX7_landOf 15 = .ok (.iload 4, 2) := by decide +kernel
theorem dX7_landOf_17 : decode cX7_landOf 17 = .ok (.aload_n 0, 1) := by decide +kernel
theorem dX7_landOf_18 : decode cX7_landOf 18 = .ok (.getfield 91, 3) := by decide +kernel
theorem dX7_landOf_21 : decode cX7_landOf 21 = .ok (.if_icmp .ge 67, 3) := by decide +kernel
theorem dX7_landOf_24 : decode cX7_landOf 24 = .ok (.iload_n 2, 1) := by decide +kernel
theorem dX7_landOf_25 : decode cX7_landOf 25 = .ok (.aload_n 0, 1) := by decide +kernel
theorem dX7_landOf_26 : decode cX7_landOf 26 = .ok (.getfield 13, 3) := by decide +kernel
theorem dX7_landOf_29 : decode cX7_landOf 29 = .ok (.iload 4, 2) := by decide +kernel
theorem dX7_landOf_31 : decode cX7_landOf 31 = .ok (.iaload, 1) := by decide +kernel
theorem dX7_landOf_32 : decode cX7_landOf 32 = .ok (.invokestatic 135, 3) := by decide +kernel
theorem dX7_landOf_35 : decode cX7_landOf 35 = .ok (.iload_n 2, 1) := by decide +kernel
theorem dX7_landOf_36 : decode cX7_landOf 36 = .ok (.aload_n 0, 1) := by decide +kernel
theorem dX7_landOf_37 : decode cX7_landOf 37 = .ok (.getfield 16, 3) := by decide +kernel
theorem dX7_landOf_40 : decode cX7_landOf 40 = .ok (.iload 4, 2) := by decide +kernel
theorem dX7_landOf_42 : decode cX7_landOf 42 = .ok (.iaload, 1) := by decide +kernel
theorem dX7_landOf_43 : decode cX7_landOf 43 = .ok (.invokestatic 135, 3) := by decide +kernel
theorem dX7_landOf_46 : decode cX7_landOf 46 = .ok (.if_icmp .eq 36, 3) := by decide +kernel
theorem dX7_landOf_49 : decode cX7_landOf 49 = .ok (.aload_n 0, 1) := by decide +kernel
theorem dX7_landOf_50 : decode cX7_landOf 50 = .ok (.iload 4, 2) := by decide +kernel
theorem dX7_landOf_52 : decode cX7_landOf 52 = .ok (.invokevirtual 191, 3) := by decide +kernel
theorem dX7_landOf_55 : decode cX7_landOf 55 = .ok (.ifCond .ne 27, 3) := by decide +kernel
theorem dX7_landOf_58 : decode cX7_landOf 58 = .ok (.iload_n 2, 1) := by decide +kernel
theorem dX7_landOf_59 : decode cX7_landOf 59 = .ok (.iconst 1, 1) := by decide +kernel
theorem dX7_landOf_60 : decode cX7_landOf 60 = .ok (.aload_n 0, 1) := by decide +kernel
theorem dX7_landOf_61 : decode cX7_landOf 61 = .ok (.getfield 13, 3) := by decide +kernel
theorem dX7_landOf_64 : decode cX7_landOf 64 = .ok (.iload 4, 2) := by decide +kernel
theorem dX7_landOf_66 : decode cX7_landOf 66 = .ok (.iaload, 1) := by decide +kernel
theorem dX7_landOf_67 : decode cX7_landOf 67 = .ok (.ishl, 1) := by decide +kernel
theorem dX7_landOf_68 : decode cX7_landOf 68 = .ok (.iconst 1, 1) := by decide +kernel
theorem dX7_landOf_69 : decode cX7_landOf 69 = .ok (.aload_n 0, 1) := by decide +kernel
theorem dX7_landOf_70 : decode cX7_landOf 70 = .ok (.getfield 16, 3) := by decide +kernel
theorem dX7_landOf_73 : decode cX7_landOf 73 = .ok (.iload 4, 2) := by decide +kernel
theorem dX7_landOf_75 : decode cX7_landOf 75 = .ok (.iaload, 1) := by decide +kernel
theorem dX7_landOf_76 : decode cX7_landOf 76 = .ok (.ishl, 1) := by decide +kernel
theorem dX7_landOf_77 : decode cX7_landOf 77 = .ok (.ior, 1) := by decide +kernel
theorem dX7_landOf_78 : decode cX7_landOf 78 = .ok (.ior, 1) := by decide +kernel
theorem dX7_landOf_79 : decode cX7_landOf 79 = .ok (.istore_n 2, 1) := by decide +kernel
theorem dX7_landOf_80 : decode cX7_landOf 80 = .ok (.iconst 1, 1) := by decide +kernel
theorem dX7_landOf_81 : decode cX7_landOf 81 = .ok (.istore_n 3, 1) := by decide +kernel
theorem dX7_landOf_82 : decode cX7_landOf 82 = .ok (.iinc 4 1, 3) := by decide +kernel
theorem dX7_landOf_85 : decode cX7_landOf 85 = .ok (.goto (-70), 3) := by decide +kernel
theorem dX7_landOf_88 : decode cX7_landOf 88 = .ok (.goto (-82), 3) := by decide +kernel
theorem dX7_landOf_91 : decode cX7_landOf 91 = .ok (.iload_n 2, 1) := by decide +kernel
theorem dX7_landOf_92 : decode cX7_landOf 92 = .ok (.ireturn, 1) := by decide +kernel
set_option maxRecDepth 20000 in
theorem ggX7_shutInBy_X7_has : GoodIn wsX7_shutInBy wsX7_has := goodIn_r _ [9] (by decide +kernel) (by decide +kernel)
set_option maxRecDepth 20000 in
theorem gX7_shutInBy_X7_has : GoodIn wsX7_shutInBy (va_wsS RX7 135 yX7_has wsX7_has) := goodIn_app (goodIn_of _ (by decide +kernel)) ggX7_shutInBy_X7_has
set_option maxRecDepth 20000 in
theorem ggX7_shutInBy_X7_isRim : GoodIn wsX7_shutInBy wsX7_isRim := goodIn_r _ [13, 14, 15, 16, 17, 18, 19, 20, 21, 22, 23, 24, 25, 26, 27, 28, 29, 30, 31, 32, 33, 34, 35, 36, 37, 38, 39, 40, 41, 42, 43, 44, 45, 46, 47, 48, 49, 50, 51, 52, 53] (by decide +kernel) (by decide +kernel)
set_option maxRecDepth 20000 in
theorem gX7_shutInBy_X7_isRim : GoodIn wsX7_shutInBy (wsV RX7 195 RX7 yX7_isRim wsX7_isRim) := goodIn_app (goodIn_of _ (by decide +kernel)) ggX7_shutInBy_X7_isRim
theorem dX7_shutInBy_0 : decode cX7_shutInBy 0 = .ok (.iconst 0, 1) := by decide +kernel
theorem dX7_shutInBy_1 : decode cX7_shutInBy 1 = .ok (.istore_n 2, 1) := by decide +kernel
theorem dX7_shutInBy_2 : decode cX7_shutInBy 2 = .ok (.iload_n 2, 1) := by decide +kernel
theorem dX7_shutInBy_3 : decode cX7_shutInBy 3 = .ok (.aload_n 0, 1) := by decide +kernel
theorem dX7_shutInBy_4 : decode cX7_shutInBy 4 = .ok (.getfield 84, 3) := by decide +kernel
theorem dX7_shutInBy_7 : decode cX7_shutInBy 7 = .ok (.if_icmp .ge 27, 3) := by decide +kernel
theorem dX7_shutInBy_10 : decode cX7_shutInBy 10 = .ok (.iload_n 1, 1) := by decide +kernel
theorem dX7_shutInBy_11 : decode cX7_shutInBy 11 = .ok (.iload_n 2, 1) := by decide +kernel
theorem dX7_shutInBy_12 : decode cX7_shutInBy 12 = .ok (.invokestatic 135, 3) := by decide +kernel
theorem dX7_shutInBy_15 : decode cX7_shutInBy 15 = .ok (.ifCond .eq 13, 3) := by decide +kernel
theorem dX7_shutInBy_18 : decode cX7_shutInBy 18 = .ok (.aload_n 0, 1) := by decide +kernel
theorem dX7_shutInBy_19 : decode cX7_shutInBy 19 = .ok (.iload_n 2, 1) := by decide +kernel
theorem dX7_shutInBy_20 : decode cX7_shutInBy 20 = .ok (.invokevirtual 195, 3) := by decide +kernel
theorem dX7_shutInBy_23 : decode cX7_shutInBy 23 = .ok (.ifCond .eq 5, 3) := by decide +kernel
theorem dX7_shutInBy_26 : decode cX7_shutInBy 26 = .ok (.iconst (-1), 1) := by decide +kernel
theorem dX7_shutInBy_27 : decode cX7_shutInBy 27 = .ok (.ireturn, 1) := by decide +kernel
theorem dX7_shutInBy_28 : decode cX7_shutInBy 28 = .ok (.iinc 2 1, 3) := by decide +kernel
theorem dX7_shutInBy_31 : decode cX7_shutInBy 31 = .ok (.goto (-29), 3) := by decide +kernel
theorem dX7_shutInBy_34 : decode cX7_shutInBy 34 = .ok (.iconst (-1), 1) := by decide +kernel
theorem dX7_shutInBy_35 : decode cX7_shutInBy 35 = .ok (.istore_n 2, 1) := by decide +kernel
theorem dX7_shutInBy_36 : decode cX7_shutInBy 36 = .ok (.iconst 0, 1) := by decide +kernel
theorem dX7_shutInBy_37 : decode cX7_shutInBy 37 = .ok (.istore_n 3, 1) := by decide +kernel
theorem dX7_shutInBy_38 : decode cX7_shutInBy 38 = .ok (.iload_n 3, 1) := by decide +kernel
theorem dX7_shutInBy_39 : decode cX7_shutInBy 39 = .ok (.aload_n 0, 1) := by decide +kernel
theorem dX7_shutInBy_40 : decode cX7_shutInBy 40 = .ok (.getfield 91, 3) := by decide +kernel
theorem dX7_shutInBy_43 : decode cX7_shutInBy 43 = .ok (.if_icmp .ge 55, 3) := by decide +kernel
theorem dX7_shutInBy_46 : decode cX7_shutInBy 46 = .ok (.iload_n 1, 1) := by decide +kernel
theorem dX7_shutInBy_47 : decode cX7_shutInBy 47 = .ok (.aload_n 0, 1) := by decide +kernel
theorem dX7_shutInBy_48 : decode cX7_shutInBy 48 = .ok (.getfield 13, 3) := by decide +kernel
theorem dX7_shutInBy_51 : decode cX7_shutInBy 51 = .ok (.iload_n 3, 1) := by decide +kernel
theorem dX7_shutInBy_52 : decode cX7_shutInBy 52 = .ok (.iaload, 1) := by decide +kernel
theorem dX7_shutInBy_53 : decode cX7_shutInBy 53 = .ok (.invokestatic 135, 3) := by decide +kernel
theorem dX7_shutInBy_56 : decode cX7_shutInBy 56 = .ok (.iload_n 1, 1) := by decide +kernel
theorem dX7_shutInBy_57 : decode cX7_shutInBy 57 = .ok (.aload_n 0, 1) := by decide +kernel
theorem dX7_shutInBy_58 : decode cX7_shutInBy 58 = .ok (.getfield 16, 3) := by decide +kernel
theorem dX7_shutInBy_61 : decode cX7_shutInBy 61 = .ok (.iload_n 3, 1) := by decide +kernel
theorem dX7_shutInBy_62 : decode cX7_shutInBy 62 = .ok (.iaload, 1) := by decide +kernel
theorem dX7_shutInBy_63 : decode cX7_shutInBy 63 = .ok (.invokestatic 135, 3) := by decide +kernel
theorem dX7_shutInBy_66 : decode cX7_shutInBy 66 = .ok (.if_icmp .eq 26, 3) := by decide +kernel
theorem dX7_shutInBy_69 : decode cX7_shutInBy 69 = .ok (.iload_n 2, 1) := by decide +kernel
theorem dX7_shutInBy_70 : decode cX7_shutInBy 70 = .ok (.ifCond .lt 15, 3) := by decide +kernel
theorem dX7_shutInBy_73 : decode cX7_shutInBy 73 = .ok (.aload_n 0, 1) := by decide +kernel
theorem dX7_shutInBy_74 : decode cX7_shutInBy 74 = .ok (.getfield 23, 3) := by decide +kernel
theorem dX7_shutInBy_77 : decode cX7_shutInBy 77 = .ok (.iload_n 3, 1) := by decide +kernel
theorem dX7_shutInBy_78 : decode cX7_shutInBy 78 = .ok (.iaload, 1) := by decide +kernel
theorem dX7_shutInBy_79 : decode cX7_shutInBy 79 = .ok (.iload_n 2, 1) := by decide +kernel
theorem dX7_shutInBy_80 : decode cX7_shutInBy 80 = .ok (.if_icmp .eq 5, 3) := by decide +kernel
theorem dX7_shutInBy_83 : decode cX7_shutInBy 83 = .ok (.iconst (-1), 1) := by decide +kernel
theorem dX7_shutInBy_84 : decode cX7_shutInBy 84 = .ok (.ireturn, 1) := by decide +kernel
theorem dX7_shutInBy_85 : decode cX7_shutInBy 85 = .ok (.aload_n 0, 1) := by decide +kernel
theorem dX7_shutInBy_86 : decode cX7_shutInBy 86 = .ok (.getfield 23, 3) := by decide +kernel
theorem dX7_shutInBy_89 : decode cX7_shutInBy 89 = .ok (.iload_n 3, 1) := by decide +kernel
theorem dX7_shutInBy_90 : decode cX7_shutInBy 90 = .ok (.iaload, 1) := by decide +kernel
theorem dX7_shutInBy_91 : decode cX7_shutInBy 91 = .ok (.istore_n 2, 1) := by decide +kernel
theorem dX7_shutInBy_92 : decode cX7_shutInBy 92 = .ok (.iinc 3 1, 3) := by decide +kernel
theorem dX7_shutInBy_95 : decode cX7_shutInBy 95 = .ok (.goto (-57), 3) := by decide +kernel
theorem dX7_shutInBy_98 : decode cX7_shutInBy 98 = .ok (.iload_n 2, 1) := by decide +kernel
theorem dX7_shutInBy_99 : decode cX7_shutInBy 99 = .ok (.ireturn, 1) := by decide +kernel
set_option maxRecDepth 20000 in
theorem ggX7_frontier_X7_has : GoodIn wsX7_frontier wsX7_has := goodIn_r _ [8] (by decide +kernel) (by decide +kernel)
set_option maxRecDepth 20000 in
theorem gX7_frontier_X7_has : GoodIn wsX7_frontier (va_wsS RX7 135 yX7_has wsX7_has) := goodIn_app (goodIn_of _ (by decide +kernel)) ggX7_frontier_X7_has
theorem dX7_frontier_0 : decode cX7_frontier 0 = .ok (.iconst 0, 1) := by decide +kernel
theorem dX7_frontier_1 : decode cX7_frontier 1 = .ok (.istore_n 1, 1) := by decide +kernel
theorem dX7_frontier_2 : decode cX7_frontier 2 = .ok (.iconst 0, 1) := by decide +kernel
theorem dX7_frontier_3 : decode cX7_frontier 3 = .ok (.istore_n 2, 1) := by decide +kernel
theorem dX7_frontier_4 : decode cX7_frontier 4 = .ok (.iload_n 2, 1) := by decide +kernel
theorem dX7_frontier_5 : decode cX7_frontier 5 = .ok (.aload_n 0, 1) := by decide +kernel
theorem dX7_frontier_6 : decode cX7_frontier 6 = .ok (.getfield 91, 3) := by decide +kernel
theorem dX7_frontier_9 : decode cX7_frontier 9 = .ok (.if_icmp .ge 52, 3) := by decide +kernel
theorem dX7_frontier_12 : decode cX7_frontier 12 = .ok (.iload_n 1, 1) := by decide +kernel
theorem dX7_frontier_13 : decode cX7_frontier 13 = .ok (.aload_n 0, 1) := by decide +kernel
theorem dX7_frontier_14 : decode cX7_frontier 14 = .ok (.getfield 23, 3) := by decide +kernel
theorem dX7_frontier_17 : decode cX7_frontier 17 = .ok (.bipush 120, 2) := by decide +kernel
theorem dX7_frontier_19 : decode cX7_frontier 19 = .ok (.iaload, 1) := by decide +kernel
theorem dX7_frontier_20 : decode cX7_frontier 20 = .ok (.aload_n 0, 1) := by decide +kernel
theorem dX7_frontier_21 : decode cX7_frontier 21 = .ok (.getfield 13, 3) := by decide +kernel
theorem dX7_frontier_24 : decode cX7_frontier 24 = .ok (.iload_n 2, 1) := by decide +kernel
theorem dX7_frontier_25 : decode cX7_frontier 25 = .ok (.iaload, 1) := by decide +kernel
theorem dX7_frontier_26 : decode cX7_frontier 26 = .ok (.invokestatic 135, 3) := by decide +kernel
theorem dX7_frontier_29 : decode cX7_frontier 29 = .ok (.aload_n 0, 1) := by decide +kernel
theorem dX7_frontier_30 : decode cX7_frontier 30 = .ok (.getfield 23, 3) := by decide +kernel
theorem dX7_frontier_33 : decode cX7_frontier 33 = .ok (.bipush 120, 2) := by decide +kernel
theorem dX7_frontier_35 : decode cX7_frontier 35 = .ok (.iaload, 1) := by decide +kernel
theorem dX7_frontier_36 : decode cX7_frontier 36 = .ok (.aload_n 0, 1) := by decide +kernel
theorem dX7_frontier_37 : decode cX7_frontier 37 = .ok (.getfield 16, 3) := by decide +kernel
theorem dX7_frontier_40 : decode cX7_frontier 40 = .ok (.iload_n 2, 1) := by decide +kernel
theorem dX7_frontier_41 : decode cX7_frontier 41 = .ok (.iaload, 1) := by decide +kernel
theorem dX7_frontier_42 : decode cX7_frontier 42 = .ok (.invokestatic 135, 3) := by decide +kernel
theorem dX7_frontier_45 : decode cX7_frontier 45 = .ok (.if_icmp .eq 7, 3) := by decide +kernel
theorem dX7_frontier_48 : decode cX7_frontier 48 = .ok (.iconst 1, 1) := by decide +kernel
theorem dX7_frontier_49 : decode cX7_frontier 49 = .ok (.goto 4, 3) := by decide +kernel
theorem dX7_frontier_52 : decode cX7_frontier 52 = .ok (.iconst 0, 1) := by decide +kernel
theorem dX7_frontier_53 : decode cX7_frontier 53 = .ok (.iadd, 1) := by decide +kernel
theorem dX7_frontier_54 : decode cX7_frontier 54 = .ok (.istore_n 1, 1) := by decide +kernel
theorem dX7_frontier_55 : decode cX7_frontier 55 = .ok (.iinc 2 1, 3) := by decide +kernel
theorem dX7_frontier_58 : decode cX7_frontier 58 = .ok (.goto (-54), 3) := by decide +kernel
theorem dX7_frontier_61 : decode cX7_frontier 61 = .ok (.iload_n 1, 1) := by decide +kernel
theorem dX7_frontier_62 : decode cX7_frontier 62 = .ok (.ireturn, 1) := by decide +kernel
theorem dX7_hedges_0 : decode cX7_hedges 0 = .ok (.iconst 0, 1) := by decide +kernel
theorem dX7_hedges_1 : decode cX7_hedges 1 = .ok (.istore_n 1, 1) := by decide +kernel
theorem dX7_hedges_2 : decode cX7_hedges 2 = .ok (.iconst 0, 1) := by decide +kernel
theorem dX7_hedges_3 : decode cX7_hedges 3 = .ok (.istore_n 2, 1) := by decide +kernel
theorem dX7_hedges_4 : decode cX7_hedges 4 = .ok (.iload_n 2, 1) := by decide +kernel
theorem dX7_hedges_5 : decode cX7_hedges 5 = .ok (.aload_n 0, 1) := by decide +kernel
theorem dX7_hedges_6 : decode cX7_hedges 6 = .ok (.getfield 91, 3) := by decide +kernel
theorem dX7_hedges_9 : decode cX7_hedges 9 = .ok (.if_icmp .ge 26, 3) := by decide +kernel
theorem dX7_hedges_12 : decode cX7_hedges 12 = .ok (.iload_n 1, 1) := by decide +kernel
theorem dX7_hedges_13 : decode cX7_hedges 13 = .ok (.aload_n 0, 1) := by decide +kernel
theorem dX7_hedges_14 : decode cX7_hedges 14 = .ok (.getfield 23, 3) := by decide +kernel
theorem dX7_hedges_17 : decode cX7_hedges 17 = .ok (.iload_n 2, 1) := by decide +kernel
theorem dX7_hedges_18 : decode cX7_hedges 18 = .ok (.iaload, 1) := by decide +kernel
theorem dX7_hedges_19 : decode cX7_hedges 19 = .ok (.ifCond .lt 7, 3) := by decide +kernel
theorem dX7_hedges_22 : decode cX7_hedges 22 = .ok (.iconst 1, 1) := by decide +kernel
theorem dX7_hedges_23 : decode cX7_hedges 23 = .ok (.goto 4, 3) := by decide +kernel
theorem dX7_hedges_26 : decode cX7_hedges 26 = .ok (.iconst 0, 1) := by decide +kernel
theorem dX7_hedges_27 : decode cX7_hedges 27 = .ok (.iadd, 1) := by decide +kernel
theorem dX7_hedges_28 : decode cX7_hedges 28 = .ok (.istore_n 1, 1) := by decide +kernel
theorem dX7_hedges_29 : decode cX7_hedges 29 = .ok (.iinc 2 1, 3) := by decide +kernel
theorem dX7_hedges_32 : decode cX7_hedges 32 = .ok (.goto (-28), 3) := by decide +kernel
theorem dX7_hedges_35 : decode cX7_hedges 35 = .ok (.iload_n 1, 1) := by decide +kernel
theorem dX7_hedges_36 : decode cX7_hedges 36 = .ok (.ireturn, 1) := by decide +kernel
set_option maxRecDepth 20000 in
theorem ggX7_told_X7_hedges : GoodIn wsX7_told wsX7_hedges := goodIn_r _ [15, 4, 6, 28, 29, 30, 31, 32, 33, 34, 35, 36, 37, 38, 39, 40, 41, 42, 43, 44, 45, 46, 47, 48, 49, 50, 51, 52, 53, 54, 55, 56, 57, 58, 59, 60, 61, 62, 63, 64, 65] (by decide +kernel) (by decide +kernel)
set_option maxRecDepth 20000 in
theorem gX7_told_X7_hedges : GoodIn wsX7_told (wsV RX7 198 RX7 yX7_hedges wsX7_hedges) := goodIn_app (goodIn_of _ (by decide +kernel)) ggX7_told_X7_hedges
set_option maxRecDepth 20000 in
theorem ggX7_told_X7_bits : GoodIn wsX7_told wsX7_bits := goodIn_r _ [18] (by decide +kernel) (by decide +kernel)
set_option maxRecDepth 20000 in
theorem gX7_told_X7_bits : GoodIn wsX7_told (va_wsS RX7 201 yX7_bits wsX7_bits) := goodIn_app (goodIn_of _ (by decide +kernel)) ggX7_told_X7_bits
set_option maxRecDepth 20000 in
theorem ggX7_told_X7_frontier : GoodIn wsX7_told wsX7_frontier := goodIn_r _ [22, 4, 6, 23, 24, 25, 26, 14, 27, 28, 29, 30, 31, 32, 33, 34, 35, 36, 37, 38, 39, 40, 41, 42, 43, 44, 45, 46, 47, 48, 49, 50, 51, 52, 53, 54, 55, 56, 57, 58, 59, 60, 61, 62, 63, 64, 65] (by decide +kernel) (by decide +kernel)
set_option maxRecDepth 20000 in
theorem gX7_told_X7_frontier : GoodIn wsX7_told (wsV RX7 204 RX7 yX7_frontier wsX7_frontier) := goodIn_app (goodIn_of _ (by decide +kernel)) ggX7_told_X7_frontier
theorem dX7_told_0 : decode cX7_told 0 = .ok (.iload_n 1, 1) := by decide +kernel
theorem dX7_told_1 : decode cX7_told 1 = .ok (.tableswitch 152 0 12 #[67, 72, 77, 82, 87, 92, 100, 105, 121, 132, 137, 142, 147], 67) := by decide +kernel
theorem dX7_told_68 : decode cX7_told 68 = .ok (.aload_n 0, 1) := by decide +kernel
theorem dX7_told_69 : decode cX7_told 69 = .ok (.getfield 160, 3) := by decide +kernel
theorem dX7_told_72 : decode cX7_told 72 = .ok (.ireturn, 1) := by decide +kernel
theorem dX7_told_73 : decode cX7_told 73 = .ok (.aload_n 0, 1) := by decide +kernel
theorem dX7_told_74 : decode cX7_told 74 = .ok (.getfield 163, 3) := by decide +kernel
theorem dX7_told_77 : decode cX7_told 77 = .ok (.ireturn, 1) := by decide +kernel
theorem dX7_told_78 : decode cX7_told 78 = .ok (.aload_n 0, 1) := by decide +kernel
theorem dX7_told_79 : decode cX7_told 79 = .ok (.getfield 84, 3) := by decide +kernel
theorem dX7_told_82 : decode cX7_told 82 = .ok (.ireturn, 1) := by decide +kernel
theorem dX7_told_83 : decode cX7_told 83 = .ok (.aload_n 0, 1) := by decide +kernel
theorem dX7_told_84 : decode cX7_told 84 = .ok (.getfield 91, 3) := by decide +kernel
theorem dX7_told_87 : decode cX7_told 87 = .ok (.ireturn, 1) := by decide +kernel
theorem dX7_told_88 : decode cX7_told 88 = .ok (.aload_n 0, 1) := by decide +kernel
theorem dX7_told_89 : decode cX7_told 89 = .ok (.getfield 97, 3) := by decide +kernel
theorem dX7_told_92 : decode cX7_told 92 = .ok (.ireturn, 1) := by decide +kernel
theorem dX7_told_93 : decode cX7_told 93 = .ok (.aload_n 0, 1) := by decide +kernel
theorem dX7_told_94 : decode cX7_told 94 = .ok (.getfield 23, 3) := by decide +kernel
theorem dX7_told_97 : decode cX7_told 97 = .ok (.bipush 121, 2) := by decide +kernel
theorem dX7_told_99 : decode cX7_told 99 = .ok (.iaload, 1) := by decide +kernel
theorem dX7_told_100 : decode cX7_told 100 = .ok (.ireturn, 1) := by decide +kernel
theorem dX7_told_101 : decode cX7_told 101 = .ok (.aload_n 0, 1) := by decide +kernel
theorem dX7_told_102 : decode cX7_told 102 = .ok (.invokevirtual 198, 3) := by decide +kernel
theorem dX7_told_105 : decode cX7_told 105 = .ok (.ireturn, 1) := by decide +kernel
theorem dX7_told_106 : decode cX7_told 106 = .ok (.aload_n 0, 1) := by decide +kernel
theorem dX7_told_107 : decode cX7_told 107 = .ok (.getfield 84, 3) := by decide +kernel
theorem dX7_told_110 : decode cX7_told 110 = .ok (.aload_n 0, 1) := by decide +kernel
theorem dX7_told_111 : decode cX7_told 111 = .ok (.getfield 23, 3) := by decide +kernel
theorem dX7_told_114 : decode cX7_told 114 = .ok (.bipush 120, 2) := by decide +kernel
theorem dX7_told_116 : decode cX7_told 116 = .ok (.iaload, 1) := by decide +kernel
theorem dX7_told_117 : decode cX7_told 117 = .ok (.invokestatic 201, 3) := by decide +kernel
theorem dX7_told_120 : decode cX7_told 120 = .ok (.isub, 1) := by decide +kernel
theorem dX7_told_121 : decode cX7_told 121 = .ok (.ireturn, 1) := by decide +kernel
theorem dX7_told_122 : decode cX7_told 122 = .ok (.aload_n 0, 1) := by decide +kernel
theorem dX7_told_123 : decode cX7_told 123 = .ok (.getfield 23, 3) := by decide +kernel
theorem dX7_told_126 : decode cX7_told 126 = .ok (.bipush 120, 2) := by decide +kernel
