theorem dX4_readGround_19 : decode cX4_readGround 19 = .ok (.invokevirtual 78, 3) := by decide +kernel
theorem dX4_readGround_22 : decode cX4_readGround 22 = .ok (.istore_n 2, 1) := by decide +kernel
theorem dX4_readGround_23 : decode cX4_readGround 23 = .ok (.aload_n 0, 1) := by decide +kernel
theorem dX4_readGround_24 : decode cX4_readGround 24 = .ok (.iconst 2, 1) := by decide +kernel
theorem dX4_readGround_25 : decode cX4_readGround 25 = .ok (.iconst 5, 1) := by decide +kernel
theorem dX4_readGround_26 : decode cX4_readGround 26 = .ok (.invokevirtual 78, 3) := by decide +kernel
theorem dX4_readGround_29 : decode cX4_readGround 29 = .ok (.istore_n 3, 1) := by decide +kernel
theorem dX4_readGround_30 : decode cX4_readGround 30 = .ok (.aload_n 0, 1) := by decide +kernel
theorem dX4_readGround_31 : decode cX4_readGround 31 = .ok (.iconst 0, 1) := by decide +kernel
theorem dX4_readGround_32 : decode cX4_readGround 32 = .ok (.bipush 9, 2) := by decide +kernel
theorem dX4_readGround_34 : decode cX4_readGround 34 = .ok (.invokevirtual 78, 3) := by decide +kernel
theorem dX4_readGround_37 : decode cX4_readGround 37 = .ok (.istore 4, 2) := by decide +kernel
theorem dX4_readGround_39 : decode cX4_readGround 39 = .ok (.aload_n 0, 1) := by decide +kernel
theorem dX4_readGround_40 : decode cX4_readGround 40 = .ok (.getfield 37, 3) := by decide +kernel
theorem dX4_readGround_43 : decode cX4_readGround 43 = .ok (.ifCond .ne 14, 3) := by decide +kernel
theorem dX4_readGround_46 : decode cX4_readGround 46 = .ok (.aload_n 0, 1) := by decide +kernel
theorem dX4_readGround_47 : decode cX4_readGround 47 = .ok (.getfield 18, 3) := by decide +kernel
theorem dX4_readGround_50 : decode cX4_readGround 50 = .ok (.iload_n 2, 1) := by decide +kernel
theorem dX4_readGround_51 : decode cX4_readGround 51 = .ok (.iload_n 3, 1) := by decide +kernel
theorem dX4_readGround_52 : decode cX4_readGround 52 = .ok (.iload 4, 2) := by decide +kernel
theorem dX4_readGround_54 : decode cX4_readGround 54 = .ok (.invokevirtual 82, 3) := by decide +kernel
theorem dX4_readGround_57 : decode cX4_readGround 57 = .ok (.return_, 1) := by decide +kernel
set_option maxRecDepth 20000 in
theorem ggX4_readSoil_X4_readNumber : GoodIn wsX4_readSoil wsX4_readNumber := goodIn_r _ [9, 3, 10, 11, 12, 13, 14, 15, 16, 17, 18, 19, 20, 8, 21, 22, 23, 24, 25, 26, 27, 28, 29, 30, 31, 32, 33, 34, 35, 36, 37] (by decide +kernel) (by decide +kernel)
set_option maxRecDepth 20000 in
theorem gX4_readSoil_X4_readNumber : GoodIn wsX4_readSoil (wsV RX4 78 RX4 yX4_readNumber wsX4_readNumber) := goodIn_app (goodIn_of _ (by decide +kernel)) ggX4_readSoil_X4_readNumber
theorem dX4_readSoil_0 : decode cX4_readSoil 0 = .ok (.aload_n 0, 1) := by decide +kernel
theorem dX4_readSoil_1 : decode cX4_readSoil 1 = .ok (.iconst 0, 1) := by decide +kernel
theorem dX4_readSoil_2 : decode cX4_readSoil 2 = .ok (.aload_n 0, 1) := by decide +kernel
theorem dX4_readSoil_3 : decode cX4_readSoil 3 = .ok (.getfield 18, 3) := by decide +kernel
theorem dX4_readSoil_6 : decode cX4_readSoil 6 = .ok (.getfield 52, 3) := by decide +kernel
theorem dX4_readSoil_9 : decode cX4_readSoil 9 = .ok (.iconst 1, 1) := by decide +kernel
theorem dX4_readSoil_10 : decode cX4_readSoil 10 = .ok (.isub, 1) := by decide +kernel
theorem dX4_readSoil_11 : decode cX4_readSoil 11 = .ok (.invokevirtual 78, 3) := by decide +kernel
theorem dX4_readSoil_14 : decode cX4_readSoil 14 = .ok (.istore_n 1, 1) := by decide +kernel
theorem dX4_readSoil_15 : decode cX4_readSoil 15 = .ok (.aload_n 0, 1) := by decide +kernel
theorem dX4_readSoil_16 : decode cX4_readSoil 16 = .ok (.iconst 0, 1) := by decide +kernel
theorem dX4_readSoil_17 : decode cX4_readSoil 17 = .ok (.bipush 9, 2) := by decide +kernel
theorem dX4_readSoil_19 : decode cX4_readSoil 19 = .ok (.invokevirtual 78, 3) := by decide +kernel
theorem dX4_readSoil_22 : decode cX4_readSoil 22 = .ok (.istore_n 2, 1) := by decide +kernel
theorem dX4_readSoil_23 : decode cX4_readSoil 23 = .ok (.aload_n 0, 1) := by decide +kernel
theorem dX4_readSoil_24 : decode cX4_readSoil 24 = .ok (.getfield 37, 3) := by decide +kernel
theorem dX4_readSoil_27 : decode cX4_readSoil 27 = .ok (.ifCond .ne 13, 3) := by decide +kernel
theorem dX4_readSoil_30 : decode cX4_readSoil 30 = .ok (.aload_n 0, 1) := by decide +kernel
theorem dX4_readSoil_31 : decode cX4_readSoil 31 = .ok (.getfield 18, 3) := by decide +kernel
theorem dX4_readSoil_34 : decode cX4_readSoil 34 = .ok (.getfield 86, 3) := by decide +kernel
theorem dX4_readSoil_37 : decode cX4_readSoil 37 = .ok (.iload_n 1, 1) := by decide +kernel
theorem dX4_readSoil_38 : decode cX4_readSoil 38 = .ok (.iload_n 2, 1) := by decide +kernel
theorem dX4_readSoil_39 : decode cX4_readSoil 39 = .ok (.iastore, 1) := by decide +kernel
theorem dX4_readSoil_40 : decode cX4_readSoil 40 = .ok (.return_, 1) := by decide +kernel
set_option maxRecDepth 20000 in
theorem ggX4_readOwned_X4_readNumber : GoodIn wsX4_readOwned wsX4_readNumber := goodIn_r _ [11, 3, 12, 5, 13, 14, 15, 16, 17, 18, 19, 20, 21, 10, 22, 23, 24, 25, 26, 27, 28, 29, 30, 37, 38, 39, 40, 41, 42, 43, 44] (by decide +kernel) (by decide +kernel)
set_option maxRecDepth 20000 in
theorem gX4_readOwned_X4_readNumber : GoodIn wsX4_readOwned (wsV RX4 78 RX4 yX4_readNumber wsX4_readNumber) := goodIn_app (goodIn_of _ (by decide +kernel)) ggX4_readOwned_X4_readNumber
set_option maxRecDepth 20000 in
theorem ggX4_readOwned_X5_ownerOf : GoodIn wsX4_readOwned wsX5_ownerOf := goodIn_r _ [35, 36, 58, 59, 60, 61, 62, 63] (by decide +kernel) (by decide +kernel)
set_option maxRecDepth 20000 in
theorem gX4_readOwned_X5_ownerOf : GoodIn wsX4_readOwned (wsV RX4 89 RX5 yX5_ownerOf wsX5_ownerOf) := goodIn_app (goodIn_of _ (by decide +kernel)) ggX4_readOwned_X5_ownerOf
set_option maxRecDepth 20000 in
theorem ggX4_readOwned_X4_fail : GoodIn wsX4_readOwned wsX4_fail := goodIn_r _ [29, 3, 30, 37, 38, 39, 40, 41, 42, 43, 44] (by decide +kernel) (by decide +kernel)
set_option maxRecDepth 20000 in
theorem gX4_readOwned_X4_fail : GoodIn wsX4_readOwned (wsV RX4 55 RX4 yX4_fail wsX4_fail) := goodIn_app (goodIn_of _ (by decide +kernel)) ggX4_readOwned_X4_fail
theorem dX4_readOwned_0 : decode cX4_readOwned 0 = .ok (.aload_n 0, 1) := by decide +kernel
theorem dX4_readOwned_1 : decode cX4_readOwned 1 = .ok (.iconst 0, 1) := by decide +kernel
theorem dX4_readOwned_2 : decode cX4_readOwned 2 = .ok (.aload_n 0, 1) := by decide +kernel
theorem dX4_readOwned_3 : decode cX4_readOwned 3 = .ok (.getfield 18, 3) := by decide +kernel
theorem dX4_readOwned_6 : decode cX4_readOwned 6 = .ok (.getfield 52, 3) := by decide +kernel
theorem dX4_readOwned_9 : decode cX4_readOwned 9 = .ok (.iconst 1, 1) := by decide +kernel
theorem dX4_readOwned_10 : decode cX4_readOwned 10 = .ok (.isub, 1) := by decide +kernel
theorem dX4_readOwned_11 : decode cX4_readOwned 11 = .ok (.invokevirtual 78, 3) := by decide +kernel
theorem dX4_readOwned_14 : decode cX4_readOwned 14 = .ok (.istore_n 1, 1) := by decide +kernel
theorem dX4_readOwned_15 : decode cX4_readOwned 15 = .ok (.aload_n 0, 1) := by decide +kernel
theorem dX4_readOwned_16 : decode cX4_readOwned 16 = .ok (.getfield 37, 3) := by decide +kernel
theorem dX4_readOwned_19 : decode cX4_readOwned 19 = .ok (.ifCond .ne 24, 3) := by decide +kernel
theorem dX4_readOwned_22 : decode cX4_readOwned 22 = .ok (.aload_n 0, 1) := by decide +kernel
theorem dX4_readOwned_23 : decode cX4_readOwned 23 = .ok (.getfield 25, 3) := by decide +kernel
theorem dX4_readOwned_26 : decode cX4_readOwned 26 = .ok (.iload_n 1, 1) := by decide +kernel
theorem dX4_readOwned_27 : decode cX4_readOwned 27 = .ok (.invokevirtual 89, 3) := by decide +kernel
theorem dX4_readOwned_30 : decode cX4_readOwned 30 = .ok (.iconst 1, 1) := by decide +kernel
theorem dX4_readOwned_31 : decode cX4_readOwned 31 = .ok (.if_icmp .ne 12, 3) := by decide +kernel
theorem dX4_readOwned_34 : decode cX4_readOwned 34 = .ok (.aload_n 0, 1) := by decide +kernel
theorem dX4_readOwned_35 : decode cX4_readOwned 35 = .ok (.iconst 4, 1) := by decide +kernel
theorem dX4_readOwned_36 : decode cX4_readOwned 36 = .ok (.aload_n 0, 1) := by decide +kernel
theorem dX4_readOwned_37 : decode cX4_readOwned 37 = .ok (.getfield 93, 3) := by decide +kernel
theorem dX4_readOwned_40 : decode cX4_readOwned 40 = .ok (.invokevirtual 55, 3) := by decide +kernel
theorem dX4_readOwned_43 : decode cX4_readOwned 43 = .ok (.aload_n 0, 1) := by decide +kernel
theorem dX4_readOwned_44 : decode cX4_readOwned 44 = .ok (.getfield 37, 3) := by decide +kernel
theorem dX4_readOwned_47 : decode cX4_readOwned 47 = .ok (.ifCond .ne 18, 3) := by decide +kernel
theorem dX4_readOwned_50 : decode cX4_readOwned 50 = .ok (.aload_n 0, 1) := by decide +kernel
theorem dX4_readOwned_51 : decode cX4_readOwned 51 = .ok (.getfield 25, 3) := by decide +kernel
theorem dX4_readOwned_54 : decode cX4_readOwned 54 = .ok (.dup, 1) := by decide +kernel
theorem dX4_readOwned_55 : decode cX4_readOwned 55 = .ok (.getfield 96, 3) := by decide +kernel
theorem dX4_readOwned_58 : decode cX4_readOwned 58 = .ok (.iconst 1, 1) := by decide +kernel
theorem dX4_readOwned_59 : decode cX4_readOwned 59 = .ok (.iload_n 1, 1) := by decide +kernel
theorem dX4_readOwned_60 : decode cX4_readOwned 60 = .ok (.ishl, 1) := by decide +kernel
theorem dX4_readOwned_61 : decode cX4_readOwned 61 = .ok (.ior, 1) := by decide +kernel
theorem dX4_readOwned_62 : decode cX4_readOwned 62 = .ok (.putfield 96, 3) := by decide +kernel
theorem dX4_readOwned_65 : decode cX4_readOwned 65 = .ok (.return_, 1) := by decide +kernel
set_option maxRecDepth 20000 in
theorem ggX4_readPath_X4_readFreeEdge : GoodIn wsX4_readPath wsX4_readFreeEdge := goodIn_r _ [9, 2, 10, 1, 3, 11, 12, 4, 13, 14, 15, 16, 8, 17, 18, 19, 20, 21, 22, 23, 24, 25, 26, 27, 28, 29, 30, 31, 32, 33, 34, 35, 36, 37, 38, 39, 40, 41, 42, 43, 44, 45, 46, 47, 48, 49, 50, 51, 52, 53, 54, 55, 56, 57, 58, 59, 60, 61, 62, 63] (by decide +kernel) (by decide +kernel)
set_option maxRecDepth 20000 in
theorem gX4_readPath_X4_readFreeEdge : GoodIn wsX4_readPath (wsV RX4 99 RX4 yX4_readFreeEdge wsX4_readFreeEdge) := goodIn_app (goodIn_of _ (by decide +kernel)) ggX4_readPath_X4_readFreeEdge
theorem dX4_readPath_0 : decode cX4_readPath 0 = .ok (.aload_n 0, 1) := by decide +kernel
theorem dX4_readPath_1 : decode cX4_readPath 1 = .ok (.invokevirtual 99, 3) := by decide +kernel
theorem dX4_readPath_4 : decode cX4_readPath 4 = .ok (.istore_n 1, 1) := by decide +kernel
theorem dX4_readPath_5 : decode cX4_readPath 5 = .ok (.aload_n 0, 1) := by decide +kernel
theorem dX4_readPath_6 : decode cX4_readPath 6 = .ok (.getfield 37, 3) := by decide +kernel
theorem dX4_readPath_9 : decode cX4_readPath 9 = .ok (.ifCond .ne 24, 3) := by decide +kernel
theorem dX4_readPath_12 : decode cX4_readPath 12 = .ok (.aload_n 0, 1) := by decide +kernel
theorem dX4_readPath_13 : decode cX4_readPath 13 = .ok (.getfield 18, 3) := by decide +kernel
theorem dX4_readPath_16 : decode cX4_readPath 16 = .ok (.dup, 1) := by decide +kernel
theorem dX4_readPath_17 : decode cX4_readPath 17 = .ok (.getfield 103, 3) := by decide +kernel
theorem dX4_readPath_20 : decode cX4_readPath 20 = .ok (.aload_n 0, 1) := by decide +kernel
theorem dX4_readPath_21 : decode cX4_readPath 21 = .ok (.getfield 18, 3) := by decide +kernel
theorem dX4_readPath_24 : decode cX4_readPath 24 = .ok (.getfield 107, 3) := by decide +kernel
theorem dX4_readPath_27 : decode cX4_readPath 27 = .ok (.iload_n 1, 1) := by decide +kernel
theorem dX4_readPath_28 : decode cX4_readPath 28 = .ok (.laload, 1) := by decide +kernel
theorem dX4_readPath_29 : decode cX4_readPath 29 = .ok (.lor, 1) := by decide +kernel
theorem dX4_readPath_30 : decode cX4_readPath 30 = .ok (.putfield 103, 3) := by decide +kernel
theorem dX4_readPath_33 : decode cX4_readPath 33 = .ok (.return_, 1) := by decide +kernel
set_option maxRecDepth 20000 in
theorem ggX4_readHedge_X4_readFreeEdge : GoodIn wsX4_readHedge wsX4_readFreeEdge := goodIn_r _ [9, 3, 10, 1, 11, 2, 12, 4, 13, 14, 15, 16, 8, 17, 18, 19, 20, 21, 22, 23, 24, 25, 26, 27, 28, 29, 30, 31, 32, 33, 34, 35, 36, 46, 47, 48, 49, 50, 51, 52, 53, 54, 55, 56, 57, 58, 59, 60, 61, 62, 63, 64, 65, 66, 67, 68, 69, 70, 71, 72] (by decide +kernel) (by decide +kernel)
set_option maxRecDepth 20000 in
theorem gX4_readHedge_X4_readFreeEdge : GoodIn wsX4_readHedge (wsV RX4 99 RX4 yX4_readFreeEdge wsX4_readFreeEdge) := goodIn_app (goodIn_of _ (by decide +kernel)) ggX4_readHedge_X4_readFreeEdge
set_option maxRecDepth 20000 in
theorem ggX4_readHedge_X4_readNumber : GoodIn wsX4_readHedge wsX4_readNumber := goodIn_r _ [17, 1, 18, 13, 19, 20, 21, 22, 23, 24, 25, 26, 27, 8, 28, 29, 30, 31, 32, 33, 34, 35, 36, 46, 47, 48, 49, 50, 51, 52, 53] (by decide +kernel) (by decide +kernel)
set_option maxRecDepth 20000 in
theorem gX4_readHedge_X4_readNumber : GoodIn wsX4_readHedge (wsV RX4 78 RX4 yX4_readNumber wsX4_readNumber) := goodIn_app (goodIn_of _ (by decide +kernel)) ggX4_readHedge_X4_readNumber
set_option maxRecDepth 20000 in
theorem ggX4_readHedge_X5_setHedge : GoodIn wsX4_readHedge wsX5_setHedge := goodIn_r _ [41, 42, 43, 44, 45, 67, 68, 69, 70, 71, 72] (by decide +kernel) (by decide +kernel)
set_option maxRecDepth 20000 in
theorem gX4_readHedge_X5_setHedge : GoodIn wsX4_readHedge (wsV RX4 111 RX5 yX5_setHedge wsX5_setHedge) := goodIn_app (goodIn_of _ (by decide +kernel)) ggX4_readHedge_X5_setHedge
theorem dX4_readHedge_0 : decode cX4_readHedge 0 = .ok (.aload_n 0, 1) := by decide +kernel
theorem dX4_readHedge_1 : decode cX4_readHedge 1 = .ok (.invokevirtual 99, 3) := by decide +kernel
theorem dX4_readHedge_4 : decode cX4_readHedge 4 = .ok (.istore_n 1, 1) := by decide +kernel
theorem dX4_readHedge_5 : decode cX4_readHedge 5 = .ok (.aload_n 0, 1) := by decide +kernel
theorem dX4_readHedge_6 : decode cX4_readHedge 6 = .ok (.iconst 0, 1) := by decide +kernel
theorem dX4_readHedge_7 : decode cX4_readHedge 7 = .ok (.iconst 1, 1) := by decide +kernel
theorem dX4_readHedge_8 : decode cX4_readHedge 8 = .ok (.invokevirtual 78, 3) := by decide +kernel
theorem dX4_readHedge_11 : decode cX4_readHedge 11 = .ok (.istore_n 2, 1) := by decide +kernel
theorem dX4_readHedge_12 : decode cX4_readHedge 12 = .ok (.aload_n 0, 1) := by decide +kernel
theorem dX4_readHedge_13 : decode cX4_readHedge 13 = .ok (.iconst 1, 1) := by decide +kernel
theorem dX4_readHedge_14 : decode cX4_readHedge 14 = .ok (.bipush 99, 2) := by decide +kernel
theorem dX4_readHedge_16 : decode cX4_readHedge 16 = .ok (.invokevirtual 78, 3) := by decide +kernel
theorem dX4_readHedge_19 : decode cX4_readHedge 19 = .ok (.istore_n 3, 1) := by decide +kernel
theorem dX4_readHedge_20 : decode cX4_readHedge 20 = .ok (.aload_n 0, 1) := by decide +kernel
theorem dX4_readHedge_21 : decode cX4_readHedge 21 = .ok (.getfield 37, 3) := by decide +kernel
theorem dX4_readHedge_24 : decode cX4_readHedge 24 = .ok (.ifCond .ne 22, 3) := by decide +kernel
theorem dX4_readHedge_27 : decode cX4_readHedge 27 = .ok (.aload_n 0, 1) := by decide +kernel
theorem dX4_readHedge_28 : decode cX4_readHedge 28 = .ok (.getfield 25, 3) := by decide +kernel
theorem dX4_readHedge_31 : decode cX4_readHedge 31 = .ok (.iload_n 1, 1) := by decide +kernel
theorem dX4_readHedge_32 : decode cX4_readHedge 32 = .ok (.aload_n 0, 1) := by decide +kernel
theorem dX4_readHedge_33 : decode cX4_readHedge 33 = .ok (.getfield 18, 3) := by decide +kernel
theorem dX4_readHedge_36 : decode cX4_readHedge 36 = .ok (.getfield 107, 3) := by decide +kernel
theorem dX4_readHedge_39 : decode cX4_readHedge 39 = .ok (.iload_n 1, 1) := by decide +kernel
theorem dX4_readHedge_40 : decode cX4_readHedge 40 = .ok (.laload, 1) := by decide +kernel
theorem dX4_readHedge_41 : decode cX4_readHedge 41 = .ok (.iload_n 2, 1) := by decide +kernel
theorem dX4_readHedge_42 : decode cX4_readHedge 42 = .ok (.iload_n 3, 1) := by decide +kernel
theorem dX4_readHedge_43 : decode cX4_readHedge 43 = .ok (.invokevirtual 111, 3) := by decide +kernel
theorem dX4_readHedge_46 : decode cX4_readHedge 46 = .ok (.return_, 1) := by decide +kernel
set_option maxRecDepth 20000 in
theorem ggX4_readFreeEdge_X4_readNumber : GoodIn wsX4_readFreeEdge wsX4_readNumber := goodIn_r _ [13, 3, 14, 8, 15, 16, 17, 18, 19, 20, 21, 22, 23, 12, 24, 25, 26, 27, 28, 29, 30, 31, 32, 33, 34, 35, 36, 37, 38, 39, 40] (by decide +kernel) (by decide +kernel)
set_option maxRecDepth 20000 in
theorem gX4_readFreeEdge_X4_readNumber : GoodIn wsX4_readFreeEdge (wsV RX4 78 RX4 yX4_readNumber wsX4_readNumber) := goodIn_app (goodIn_of _ (by decide +kernel)) ggX4_readFreeEdge_X4_readNumber
set_option maxRecDepth 20000 in
theorem ggX4_readFreeEdge_X4_fail : GoodIn wsX4_readFreeEdge wsX4_fail := goodIn_r _ [31, 3, 32, 33, 34, 35, 36, 37, 38, 39, 40] (by decide +kernel) (by decide +kernel)
set_option maxRecDepth 20000 in
theorem gX4_readFreeEdge_X4_fail : GoodIn wsX4_readFreeEdge (wsV RX4 55 RX4 yX4_fail wsX4_fail) := goodIn_app (goodIn_of _ (by decide +kernel)) ggX4_readFreeEdge_X4_fail
theorem dX4_readFreeEdge_0 : decode cX4_readFreeEdge 0 = .ok (.aload_n 0, 1) := by decide +kernel
theorem dX4_readFreeEdge_1 : decode cX4_readFreeEdge 1 = .ok (.iconst 0, 1) := by decide +kernel
theorem dX4_readFreeEdge_2 : decode cX4_readFreeEdge 2 = .ok (.aload_n 0, 1) := by decide +kernel
theorem dX4_readFreeEdge_3 : decode cX4_readFreeEdge 3 = .ok (.getfield 18, 3) := by decide +kernel
theorem dX4_readFreeEdge_6 : decode cX4_readFreeEdge 6 = .ok (.getfield 115, 3) := by decide +kernel
theorem dX4_readFreeEdge_9 : decode cX4_readFreeEdge 9 = .ok (.iconst 1, 1) := by decide +kernel
theorem dX4_readFreeEdge_10 : decode cX4_readFreeEdge 10 = .ok (.isub, 1) := by decide +kernel
theorem dX4_readFreeEdge_11 : decode cX4_readFreeEdge 11 = .ok (.invokevirtual 78, 3) := by decide +kernel
theorem dX4_readFreeEdge_14 : decode cX4_readFreeEdge 14 = .ok (.istore_n 1, 1) := by decide +kernel
theorem dX4_readFreeEdge_15 : decode cX4_readFreeEdge 15 = .ok (.aload_n 0, 1) := by decide +kernel
theorem dX4_readFreeEdge_16 : decode cX4_readFreeEdge 16 = .ok (.getfield 37, 3) := by decide +kernel
theorem dX4_readFreeEdge_19 : decode cX4_readFreeEdge 19 = .ok (.ifCond .ne 42, 3) := by decide +kernel
theorem dX4_readFreeEdge_22 : decode cX4_readFreeEdge 22 = .ok (.aload_n 0, 1) := by decide +kernel
theorem dX4_readFreeEdge_23 : decode cX4_readFreeEdge 23 = .ok (.getfield 18, 3) := by decide +kernel
theorem dX4_readFreeEdge_26 : decode cX4_readFreeEdge 26 = .ok (.getfield 103, 3) := by decide +kernel
theorem dX4_readFreeEdge_29 : decode cX4_readFreeEdge 29 = .ok (.aload_n 0, 1) := by decide +kernel
theorem dX4_readFreeEdge_30 : decode cX4_readFreeEdge 30 = .ok (.getfield 25, 3) := by decide +kernel
theorem dX4_readFreeEdge_33 : decode cX4_readFreeEdge 33 = .ok (.getfield 118, 3) := by decide +kernel
theorem dX4_readFreeEdge_36 : decode cX4_readFreeEdge 36 = .ok (.lor, 1) := by decide +kernel
theorem dX4_readFreeEdge_37 : decode cX4_readFreeEdge 37 = .ok (.aload_n 0, 1) := by decide +kernel
theorem dX4_readFreeEdge_38 : decode cX4_readFreeEdge 38 = .ok (.getfield 18, 3) := by decide +kernel
theorem dX4_readFreeEdge_41 : decode cX4_readFreeEdge 41 = .ok (.getfield 107, 3) := by decide +kernel
theorem dX4_readFreeEdge_44 : decode cX4_readFreeEdge 44 = .ok (.iload_n 1, 1) := by decide +kernel
theorem dX4_readFreeEdge_45 : decode cX4_readFreeEdge 45 = .ok (.laload, 1) := by decide +kernel
theorem dX4_readFreeEdge_46 : decode cX4_readFreeEdge 46 = .ok (.land, 1) := by decide +kernel
theorem dX4_readFreeEdge_47 : decode cX4_readFreeEdge 47 = .ok (.lconst 0, 1) := by decide +kernel
theorem dX4_readFreeEdge_48 : decode cX4_readFreeEdge 48 = .ok (.lcmp, 1) := by decide +kernel
theorem dX4_readFreeEdge_49 : decode cX4_readFreeEdge 49 = .ok (.ifCond .eq 12, 3) := by decide +kernel
theorem dX4_readFreeEdge_52 : decode cX4_readFreeEdge 52 = .ok (.aload_n 0, 1) := by decide +kernel
theorem dX4_readFreeEdge_53 : decode cX4_readFreeEdge 53 = .ok (.iconst 4, 1) := by decide +kernel
theorem dX4_readFreeEdge_54 : decode cX4_readFreeEdge 54 = .ok (.aload_n 0, 1) := by decide +kernel
theorem dX4_readFreeEdge_55 : decode cX4_readFreeEdge 55 = .ok (.getfield 93, 3) := by decide +kernel
theorem dX4_readFreeEdge_58 : decode cX4_readFreeEdge 58 = .ok (.invokevirtual 55, 3) := by decide +kernel
theorem dX4_readFreeEdge_61 : decode cX4_readFreeEdge 61 = .ok (.iload_n 1, 1) := by decide +kernel
theorem dX4_readFreeEdge_62 : decode cX4_readFreeEdge 62 = .ok (.ireturn, 1) := by decide +kernel
set_option maxRecDepth 20000 in
theorem ggX4_readNumber_X4_skipBlanks : GoodIn wsX4_readNumber wsX4_skipBlanks := goodIn_r _ [14, 2, 4, 5, 23, 24, 25, 26, 27, 28, 29, 30] (by decide +kernel) (by decide +kernel)
set_option maxRecDepth 20000 in
theorem gX4_readNumber_X4_skipBlanks : GoodIn wsX4_readNumber (wsV RX4 43 RX4 yX4_skipBlanks wsX4_skipBlanks) := goodIn_app (goodIn_of _ (by decide +kernel)) ggX4_readNumber_X4_skipBlanks
set_option maxRecDepth 20000 in
theorem ggX4_readNumber_X4_isFigure : GoodIn wsX4_readNumber wsX4_isFigure := goodIn_r _ [17] (by decide +kernel) (by decide +kernel)
set_option maxRecDepth 20000 in
theorem gX4_readNumber_X4_isFigure : GoodIn wsX4_readNumber (va_wsS RX4 121 yX4_isFigure wsX4_isFigure) := goodIn_app (goodIn_of _ (by decide +kernel)) ggX4_readNumber_X4_isFigure
set_option maxRecDepth 20000 in
theorem ggX4_readNumber_X4_fail : GoodIn wsX4_readNumber wsX4_fail := goodIn_r _ [21, 1, 22, 23, 24, 25, 26, 27, 28, 29, 30] (by decide +kernel) (by decide +kernel)
set_option maxRecDepth 20000 in
theorem gX4_readNumber_X4_fail : GoodIn wsX4_readNumber (wsV RX4 55 RX4 yX4_fail wsX4_fail) := goodIn_app (goodIn_of _ (by decide +kernel)) ggX4_readNumber_X4_fail
theorem dX4_readNumber_0 : decode cX4_readNumber 0 = .ok (.aload_n 0, 1) := by decide +kernel
theorem dX4_readNumber_1 : decode cX4_readNumber 1 = .ok (.getfield 37, 3) := by decide +kernel
theorem dX4_readNumber_4 : decode cX4_readNumber 4 = .ok (.ifCond .eq 5, 3) := by decide +kernel
theorem dX4_readNumber_7 : decode cX4_readNumber 7 = .ok (.iload_n 1, 1) := by decide +kernel
theorem dX4_readNumber_8 : decode cX4_readNumber 8 = .ok (.ireturn, 1) := by decide +kernel
theorem dX4_readNumber_9 : decode cX4_readNumber 9 = .ok (.aload_n 0, 1) := by decide +kernel
theorem dX4_readNumber_10 : decode cX4_readNumber 10 = .ok (.invokevirtual 43, 3) := by decide +kernel
theorem dX4_readNumber_13 : decode cX4_readNumber 13 = .ok (.aload_n 0, 1) := by decide +kernel
theorem dX4_readNumber_14 : decode cX4_readNumber 14 = .ok (.aload_n 0, 1) := by decide +kernel
theorem dX4_readNumber_15 : decode cX4_readNumber 15 = .ok (.getfield 33, 3) := by decide +kernel
theorem dX4_readNumber_18 : decode cX4_readNumber 18 = .ok (.putfield 93, 3) := by decide +kernel
theorem dX4_readNumber_21 : decode cX4_readNumber 21 = .ok (.iconst 0, 1) := by decide +kernel
theorem dX4_readNumber_22 : decode cX4_readNumber 22 = .ok (.istore_n 3, 1) := by decide +kernel
theorem dX4_readNumber_23 : decode cX4_readNumber 23 = .ok (.aload_n 0, 1) := by decide +kernel
theorem dX4_readNumber_24 : decode cX4_readNumber 24 = .ok (.getfield 33, 3) := by decide +kernel
theorem dX4_readNumber_27 : decode cX4_readNumber 27 = .ok (.aload_n 0, 1) := by decide +kernel
theorem dX4_readNumber_28 : decode cX4_readNumber 28 = .ok (.getfield 46, 3) := by decide +kernel
theorem dX4_readNumber_31 : decode cX4_readNumber 31 = .ok (.if_icmp .ge 55, 3) := by decide +kernel
theorem dX4_readNumber_34 : decode cX4_readNumber 34 = .ok (.aload_n 0, 1) := by decide +kernel
theorem dX4_readNumber_35 : decode cX4_readNumber 35 = .ok (.getfield 9, 3) := by decide +kernel
theorem dX4_readNumber_38 : decode cX4_readNumber 38 = .ok (.aload_n 0, 1) := by decide +kernel
theorem dX4_readNumber_39 : decode cX4_readNumber 39 = .ok (.getfield 33, 3) := by decide +kernel
theorem dX4_readNumber_42 : decode cX4_readNumber 42 = .ok (.iaload, 1) := by decide +kernel
theorem dX4_readNumber_43 : decode cX4_readNumber 43 = .ok (.invokestatic 121, 3) := by decide +kernel
theorem dX4_readNumber_46 : decode cX4_readNumber 46 = .ok (.ifCond .eq 40, 3) := by decide +kernel
theorem dX4_readNumber_49 : decode cX4_readNumber 49 = .ok (.sipush 1000, 3) := by decide +kernel
theorem dX4_readNumber_52 : decode cX4_readNumber 52 = .ok (.iload_n 3, 1) := by decide +kernel
theorem dX4_readNumber_53 : decode cX4_readNumber 53 = .ok (.bipush 10, 2) := by decide +kernel
theorem dX4_readNumber_55 : decode cX4_readNumber 55 = .ok (.imul, 1) := by decide +kernel
theorem dX4_readNumber_56 : decode cX4_readNumber 56 = .ok (.aload_n 0, 1) := by decide +kernel
theorem dX4_readNumber_57 : decode cX4_readNumber 57 = .ok (.getfield 9, 3) := by decide +kernel
theorem dX4_readNumber_60 : decode cX4_readNumber 60 = .ok (.aload_n 0, 1) := by decide +kernel
theorem dX4_readNumber_61 : decode cX4_readNumber 61 = .ok (.getfield 33, 3) := by decide +kernel
theorem dX4_readNumber_64 : decode cX4_readNumber 64 = .ok (.iaload, 1) := by decide +kernel
theorem dX4_readNumber_65 : decode cX4_readNumber 65 = .ok (.iadd, 1) := by decide +kernel
theorem dX4_readNumber_66 : decode cX4_readNumber 66 = .ok (.bipush 48, 2) := by decide +kernel
theorem dX4_readNumber_68 : decode cX4_readNumber 68 = .ok (.isub, 1) := by decide +kernel
theorem dX4_readNumber_69 : decode cX4_readNumber 69 = .ok (.invokestatic 125, 3) := by decide +kernel
theorem dX4_readNumber_72 : decode cX4_readNumber 72 = .ok (.istore_n 3, 1) := by decide +kernel
theorem dX4_readNumber_73 : decode cX4_readNumber 73 = .ok (.aload_n 0, 1) := by decide +kernel
theorem dX4_readNumber_74 : decode cX4_readNumber 74 = .ok (.dup, 1) := by decide +kernel
theorem dX4_readNumber_75 : decode cX4_readNumber 75 = .ok (.getfield 33, 3) := by decide +kernel
theorem dX4_readNumber_78 : decode cX4_readNumber 78 = .ok (.iconst 1, 1) := by decide +kernel
theorem dX4_readNumber_79 : decode cX4_readNumber 79 = .ok (.iadd, 1) := by decide +kernel
theorem dX4_readNumber_80 : decode cX4_readNumber 80 = .ok (.putfield 33, 3) := by decide +kernel
theorem dX4_readNumber_83 : decode cX4_readNumber 83 = .ok (.goto (-60), 3) := by decide +kernel
theorem dX4_readNumber_86 : decode cX4_readNumber 86 = .ok (.aload_n 0, 1) := by decide +kernel
theorem dX4_readNumber_87 : decode cX4_readNumber 87 = .ok (.getfield 33, 3) := by decide +kernel
theorem dX4_readNumber_90 : decode cX4_readNumber 90 = .ok (.aload_n 0, 1) := by decide +kernel
theorem dX4_readNumber_91 : decode cX4_readNumber 91 = .ok (.getfield 93, 3) := by decide +kernel
theorem dX4_readNumber_94 : decode cX4_readNumber 94 = .ok (.if_icmp .ne 15, 3) := by decide +kernel
theorem dX4_readNumber_97 : decode cX4_readNumber 97 = .ok (.aload_n 0, 1) := by decide +kernel
theorem dX4_readNumber_98 : decode cX4_readNumber 98 = .ok (.iconst 1, 1) := by decide +kernel
theorem dX4_readNumber_99 : decode cX4_readNumber 99 = .ok (.aload_n 0, 1) := by decide +kernel
theorem dX4_readNumber_100 : decode cX4_readNumber 100 = .ok (.getfield 33, 3) := by decide +kernel
theorem dX4_readNumber_103 : decode cX4_readNumber 103 = .ok (.invokevirtual 55, 3) := by decide +kernel
theorem dX4_readNumber_106 : decode cX4_readNumber 106 = .ok (.goto 35, 3) := by decide +kernel
theorem dX4_readNumber_109 : decode cX4_readNumber 109 = .ok (.aload_n 0, 1) := by decide +kernel
theorem dX4_readNumber_110 : decode cX4_readNumber 110 = .ok (.getfield 33, 3) := by decide +kernel
theorem dX4_readNumber_113 : decode cX4_readNumber 113 = .ok (.aload_n 0, 1) := by decide +kernel
theorem dX4_readNumber_114 : decode cX4_readNumber 114 = .ok (.getfield 93, 3) := by decide +kernel
theorem dX4_readNumber_117 : decode cX4_readNumber 117 = .ok (.isub, 1) := by decide +kernel
theorem dX4_readNumber_118 : decode cX4_readNumber 118 = .ok (.iconst 3, 1) := by decide +kernel
theorem dX4_readNumber_119 : decode cX4_readNumber 119 = .ok (.if_icmp .gt 13, 3) := by decide +kernel
theorem dX4_readNumber_122 : decode cX4_readNumber 122 = .ok (.iload_n 3, 1) := by decide +kernel
theorem dX4_readNumber_123 : decode cX4_readNumber 123 = .ok (.iload_n 1, 1) := by decide +kernel
theorem dX4_readNumber_124 : decode cX4_readNumber 124 = .ok (.if_icmp .lt 8, 3) := by decide +kernel
theorem dX4_readNumber_127 : decode cX4_readNumber 127 = .ok (.iload_n 3, 1) := by decide +kernel
theorem dX4_readNumber_128 : decode cX4_readNumber 128 = .ok (.iload_n 2, 1) := by decide +kernel
theorem dX4_readNumber_129 : decode cX4_readNumber 129 = .ok (.if_icmp .le 12, 3) := by decide +kernel
theorem dX4_readNumber_132 : decode cX4_readNumber 132 = .ok (.aload_n 0, 1) := by decide +kernel
theorem dX4_readNumber_133 : decode cX4_readNumber 133 = .ok (.iconst 2, 1) := by decide +kernel
theorem dX4_readNumber_134 : decode cX4_readNumber 134 = .ok (.aload_n 0, 1) := by decide +kernel
theorem dX4_readNumber_135 : decode cX4_readNumber 135 = .ok (.getfield 93, 3) := by decide +kernel
theorem dX4_readNumber_138 : decode cX4_readNumber 138 = .ok (.invokevirtual 55, 3) := by decide +kernel
theorem dX4_readNumber_141 : decode cX4_readNumber 141 = .ok (.iload_n 3, 1) := by decide +kernel
theorem dX4_readNumber_142 : decode cX4_readNumber 142 = .ok (.ireturn, 1) := by decide +kernel
set_option maxRecDepth 20000 in
theorem ggX4_readEnd_X4_skipBlanks : GoodIn wsX4_readEnd wsX4_skipBlanks := goodIn_r _ [8, 1, 2, 3, 15, 16, 17, 18, 19, 20, 21, 22] (by decide +kernel) (by decide +kernel)
set_option maxRecDepth 20000 in
theorem gX4_readEnd_X4_skipBlanks : GoodIn wsX4_readEnd (wsV RX4 43 RX4 yX4_skipBlanks wsX4_skipBlanks) := goodIn_app (goodIn_of _ (by decide +kernel)) ggX4_readEnd_X4_skipBlanks
set_option maxRecDepth 20000 in
theorem ggX4_readEnd_X4_fail : GoodIn wsX4_readEnd wsX4_fail := goodIn_r _ [12, 13, 14, 15, 16, 17, 18, 19, 20, 21, 22] (by decide +kernel) (by decide +kernel)
set_option maxRecDepth 20000 in
theorem gX4_readEnd_X4_fail : GoodIn wsX4_readEnd (wsV RX4 55 RX4 yX4_fail wsX4_fail) := goodIn_app (goodIn_of _ (by decide +kernel)) ggX4_readEnd_X4_fail
theorem dX4_readEnd_0 : decode cX4_readEnd 0 = .ok (.aload_n 0, 1) := by decide +kernel
theorem dX4_readEnd_1 : decode cX4_readEnd 1 = .ok (.invokevirtual 43, 3) := by decide +kernel
theorem dX4_readEnd_4 : decode cX4_readEnd 4 = .ok (.aload_n 0, 1) := by decide +kernel
theorem dX4_readEnd_5 : decode cX4_readEnd 5 = .ok (.getfield 33, 3) := by decide +kernel
theorem dX4_readEnd_8 : decode cX4_readEnd 8 = .ok (.aload_n 0, 1) := by decide +kernel
theorem dX4_readEnd_9 : decode cX4_readEnd 9 = .ok (.getfield 46, 3) := by decide +kernel
theorem dX4_readEnd_12 : decode cX4_readEnd 12 = .ok (.if_icmp .ge 30, 3) := by decide +kernel
theorem dX4_readEnd_15 : decode cX4_readEnd 15 = .ok (.aload_n 0, 1) := by decide +kernel
theorem dX4_readEnd_16 : decode cX4_readEnd 16 = .ok (.getfield 9, 3) := by decide +kernel
theorem dX4_readEnd_19 : decode cX4_readEnd 19 = .ok (.aload_n 0, 1) := by decide +kernel
theorem dX4_readEnd_20 : decode cX4_readEnd 20 = .ok (.getfield 33, 3) := by decide +kernel
theorem dX4_readEnd_23 : decode cX4_readEnd 23 = .ok (.iaload, 1) := by decide +kernel
theorem dX4_readEnd_24 : decode cX4_readEnd 24 = .ok (.bipush 59, 2) := by decide +kernel
theorem dX4_readEnd_26 : decode cX4_readEnd 26 = .ok (.if_icmp .ne 16, 3) := by decide +kernel
theorem dX4_readEnd_29 : decode cX4_readEnd 29 = .ok (.aload_n 0, 1) := by decide +kernel
theorem dX4_readEnd_30 : decode cX4_readEnd 30 = .ok (.dup, 1) := by decide +kernel
theorem dX4_readEnd_31 : decode cX4_readEnd 31 = .ok (.getfield 33, 3) := by decide +kernel
theorem dX4_readEnd_34 : decode cX4_readEnd 34 = .ok (.iconst 1, 1) := by decide +kernel
theorem dX4_readEnd_35 : decode cX4_readEnd 35 = .ok (.iadd, 1) := by decide +kernel
theorem dX4_readEnd_36 : decode cX4_readEnd 36 = .ok (.putfield 33, 3) := by decide +kernel
theorem dX4_readEnd_39 : decode cX4_readEnd 39 = .ok (.goto 12, 3) := by decide +kernel
theorem dX4_readEnd_42 : decode cX4_readEnd 42 = .ok (.aload_n 0, 1) := by decide +kernel
theorem dX4_readEnd_43 : decode cX4_readEnd 43 = .ok (.iconst 1, 1) := by decide +kernel
theorem dX4_readEnd_44 : decode cX4_readEnd 44 = .ok (.aload_n 0, 1) := by decide +kernel
theorem dX4_readEnd_45 : decode cX4_readEnd 45 = .ok (.getfield 33, 3) := by decide +kernel
theorem dX4_readEnd_48 : decode cX4_readEnd 48 = .ok (.invokevirtual 55, 3) := by decide +kernel
theorem dX4_readEnd_51 : decode cX4_readEnd 51 = .ok (.return_, 1) := by decide +kernel
theorem dX4_skipBlanks_0 : decode cX4_skipBlanks 0 = .ok (.aload_n 0, 1) := by decide +kernel
theorem dX4_skipBlanks_1 : decode cX4_skipBlanks 1 = .ok (.getfield 33, 3) := by decide +kernel
theorem dX4_skipBlanks_4 : decode cX4_skipBlanks 4 = .ok (.aload_n 0, 1) := by decide +kernel
theorem dX4_skipBlanks_5 : decode cX4_skipBlanks 5 = .ok (.getfield 46, 3) := by decide +kernel
theorem dX4_skipBlanks_8 : decode cX4_skipBlanks 8 = .ok (.if_icmp .ge 30, 3) := by decide +kernel
theorem dX4_skipBlanks_11 : decode cX4_skipBlanks 11 = .ok (.aload_n 0, 1) := by decide +kernel
theorem dX4_skipBlanks_12 : decode cX4_skipBlanks 12 = .ok (.getfield 9, 3) := by decide +kernel
theorem dX4_skipBlanks_15 : decode cX4_skipBlanks 15 = .ok (.aload_n 0, 1) := by decide +kernel
theorem dX4_skipBlanks_16 : decode cX4_skipBlanks 16 = .ok (.getfield 33, 3) := by decide +kernel
theorem dX4_skipBlanks_19 : decode cX4_skipBlanks 19 = .ok (.iaload, 1) := by decide +kernel
theorem dX4_skipBlanks_20 : decode cX4_skipBlanks 20 = .ok (.bipush 32, 2) := by decide +kernel
theorem dX4_skipBlanks_22 : decode cX4_skipBlanks 22 = .ok (.if_icmp .ne 16, 3) := by decide +kernel
theorem dX4_skipBlanks_25 : decode cX4_skipBlanks 25 = .ok (.aload_n 0, 1) := by decide +kernel
theorem dX4_skipBlanks_26 : decode cX4_skipBlanks 26 = .ok (.dup, 1) := by decide +kernel
theorem dX4_skipBlanks_27 : decode cX4_skipBlanks 27 = .ok (.getfield 33, 3) := by decide +kernel
theorem dX4_skipBlanks_30 : decode cX4_skipBlanks 30 = .ok (.iconst 1, 1) := by decide +kernel
theorem dX4_skipBlanks_31 : decode cX4_skipBlanks 31 = .ok (.iadd, 1) := by decide +kernel
theorem dX4_skipBlanks_32 : decode cX4_skipBlanks 32 = .ok (.putfield 33, 3) := by decide +kernel
theorem dX4_skipBlanks_35 : decode cX4_skipBlanks 35 = .ok (.goto (-35), 3) := by decide +kernel
theorem dX4_skipBlanks_38 : decode cX4_skipBlanks 38 = .ok (.return_, 1) := by decide +kernel
theorem dX4_isFigure_0 : decode cX4_isFigure 0 = .ok (.iload_n 0, 1) := by decide +kernel
theorem dX4_isFigure_1 : decode cX4_isFigure 1 = .ok (.bipush 48, 2) := by decide +kernel
theorem dX4_isFigure_3 : decode cX4_isFigure 3 = .ok (.if_icmp .lt 13, 3) := by decide +kernel
theorem dX4_isFigure_6 : decode cX4_isFigure 6 = .ok (.iload_n 0, 1) := by decide +kernel
theorem dX4_isFigure_7 : decode cX4_isFigure 7 = .ok (.bipush 57, 2) := by decide +kernel
theorem dX4_isFigure_9 : decode cX4_isFigure 9 = .ok (.if_icmp .gt 7, 3) := by decide +kernel
theorem dX4_isFigure_12 : decode cX4_isFigure 12 = .ok (.iconst 1, 1) := by decide +kernel
theorem dX4_isFigure_13 : decode cX4_isFigure 13 = .ok (.goto 4, 3) := by decide +kernel
theorem dX4_isFigure_16 : decode cX4_isFigure 16 = .ok (.iconst 0, 1) := by decide +kernel
theorem dX4_isFigure_17 : decode cX4_isFigure 17 = .ok (.ireturn, 1) := by decide +kernel
theorem dX4_fail_0 : decode cX4_fail 0 = .ok (.aload_n 0, 1) := by decide +kernel
theorem dX4_fail_1 : decode cX4_fail 1 = .ok (.getfield 37, 3) := by decide +kernel
theorem dX4_fail_4 : decode cX4_fail 4 = .ok (.ifCond .ne 13, 3) := by decide +kernel
theorem dX4_fail_7 : decode cX4_fail 7 = .ok (.aload_n 0, 1) := by decide +kernel
theorem dX4_fail_8 : decode cX4_fail 8 = .ok (.iload_n 1, 1) := by decide +kernel
theorem dX4_fail_9 : decode cX4_fail 9 = .ok (.putfield 37, 3) := by decide +kernel
theorem dX4_fail_12 : decode cX4_fail 12 = .ok (.aload_n 0, 1) := by decide +kernel
theorem dX4_fail_13 : decode cX4_fail 13 = .ok (.iload_n 2, 1) := by decide +kernel
theorem dX4_fail_14 : decode cX4_fail 14 = .ok (.putfield 40, 3) := by decide +kernel
theorem dX4_fail_17 : decode cX4_fail 17 = .ok (.return_, 1) := by decide +kernel
theorem dX5_init_0 : decode cX5_init 0 = .ok (.aload_n 0, 1) := by decide +kernel
theorem dX5_init_1 : decode cX5_init 1 = .ok (.invokespecial 3, 3) := by decide +kernel
theorem dX5_init_4 : decode cX5_init 4 = .ok (.aload_n 0, 1) := by decide +kernel
theorem dX5_init_5 : decode cX5_init 5 = .ok (.bipush 40, 2) := by decide +kernel
theorem dX5_init_7 : decode cX5_init 7 = .ok (.newarray .int, 2) := by decide +kernel
theorem dX5_init_9 : decode cX5_init 9 = .ok (.putfield 9, 3) := by decide +kernel
theorem dX5_init_12 : decode cX5_init 12 = .ok (.return_, 1) := by decide +kernel
theorem dX5_clear_0 : decode cX5_clear 0 = .ok (.aload_n 0, 1) := by decide +kernel
theorem dX5_clear_1 : decode cX5_clear 1 = .ok (.lconst 0, 1) := by decide +kernel
theorem dX5_clear_2 : decode cX5_clear 2 = .ok (.putfield 15, 3) := by decide +kernel
theorem dX5_clear_5 : decode cX5_clear 5 = .ok (.aload_n 0, 1) := by decide +kernel
theorem dX5_clear_6 : decode cX5_clear 6 = .ok (.lconst 0, 1) := by decide +kernel
theorem dX5_clear_7 : decode cX5_clear 7 = .ok (.putfield 19, 3) := by decide +kernel
theorem dX5_clear_10 : decode cX5_clear 10 = .ok (.aload_n 0, 1) := by decide +kernel
theorem dX5_clear_11 : decode cX5_clear 11 = .ok (.lconst 0, 1) := by decide +kernel
theorem dX5_clear_12 : decode cX5_clear 12 = .ok (.putfield 22, 3) := by decide +kernel
theorem dX5_clear_15 : decode cX5_clear 15 = .ok (.aload_n 0, 1) := by decide +kernel
theorem dX5_clear_16 : decode cX5_clear 16 = .ok (.iconst 0, 1) := by decide +kernel
theorem dX5_clear_17 : decode cX5_clear 17 = .ok (.putfield 25, 3) := by decide +kernel
theorem dX5_clear_20 : decode cX5_clear 20 = .ok (.aload_n 0, 1) := by decide +kernel
theorem dX5_clear_21 : decode cX5_clear 21 = .ok (.iconst 0, 1) := by decide +kernel
theorem dX5_clear_22 : decode cX5_clear 22 = .ok (.putfield 29, 3) := by decide +kernel
theorem dX5_clear_25 : decode cX5_clear 25 = .ok (.return_, 1) := by decide +kernel
theorem dX5_copyFrom_0 : decode cX5_copyFrom 0 = .ok (.aload_n 0, 1) := by decide +kernel
theorem dX5_copyFrom_1 : decode cX5_copyFrom 1 = .ok (.aload_n 1, 1) := by decide +kernel
theorem dX5_copyFrom_2 : decode cX5_copyFrom 2 = .ok (.getfield 15, 3) := by decide +kernel
theorem dX5_copyFrom_5 : decode cX5_copyFrom 5 = .ok (.putfield 15, 3) := by decide +kernel
theorem dX5_copyFrom_8 : decode cX5_copyFrom 8 = .ok (.aload_n 0, 1) := by decide +kernel
theorem dX5_copyFrom_9 : decode cX5_copyFrom 9 = .ok (.aload_n 1, 1) := by decide +kernel
theorem dX5_copyFrom_10 : decode cX5_copyFrom 10 = .ok (.getfield 19, 3) := by decide +kernel
theorem dX5_copyFrom_13 : decode cX5_copyFrom 13 = .ok (.putfield 19, 3) := by decide +kernel
theorem dX5_copyFrom_16 : decode cX5_copyFrom 16 = .ok (.aload_n 0, 1) := by decide +kernel
theorem dX5_copyFrom_17 : decode cX5_copyFrom 17 = .ok (.aload_n 1, 1) := by decide +kernel
theorem dX5_copyFrom_18 : decode cX5_copyFrom 18 = .ok (.getfield 22, 3) := by decide +kernel
theorem dX5_copyFrom_21 : decode cX5_copyFrom 21 = .ok (.putfield 22, 3) := by decide +kernel
theorem dX5_copyFrom_24 : decode cX5_copyFrom 24 = .ok (.aload_n 0, 1) := by decide +kernel
theorem dX5_copyFrom_25 : decode cX5_copyFrom 25 = .ok (.aload_n 1, 1) := by decide +kernel
theorem dX5_copyFrom_26 : decode cX5_copyFrom 26 = .ok (.getfield 25, 3) := by decide +kernel
theorem dX5_copyFrom_29 : decode cX5_copyFrom 29 = .ok (.putfield 25, 3) := by decide +kernel
theorem dX5_copyFrom_32 : decode cX5_copyFrom 32 = .ok (.aload_n 0, 1) := by decide +kernel
theorem dX5_copyFrom_33 : decode cX5_copyFrom 33 = .ok (.aload_n 1, 1) := by decide +kernel
theorem dX5_copyFrom_34 : decode cX5_copyFrom 34 = .ok (.getfield 29, 3) := by decide +kernel
theorem dX5_copyFrom_37 : decode cX5_copyFrom 37 = .ok (.putfield 29, 3) := by decide +kernel
theorem dX5_copyFrom_40 : decode cX5_copyFrom 40 = .ok (.aload_n 1, 1) := by decide +kernel
theorem dX5_copyFrom_41 : decode cX5_copyFrom 41 = .ok (.getfield 9, 3) := by decide +kernel
theorem dX5_copyFrom_44 : decode cX5_copyFrom 44 = .ok (.iconst 0, 1) := by decide +kernel
theorem dX5_copyFrom_45 : decode cX5_copyFrom 45 = .ok (.aload_n 0, 1) := by decide +kernel
theorem dX5_copyFrom_46 : decode cX5_copyFrom 46 = .ok (.getfield 9, 3) := by decide +kernel
theorem dX5_copyFrom_49 : decode cX5_copyFrom 49 = .ok (.iconst 0, 1) := by decide +kernel
theorem dX5_copyFrom_50 : decode cX5_copyFrom 50 = .ok (.bipush 40, 2) := by decide +kernel
theorem dX5_copyFrom_52 : decode cX5_copyFrom 52 = .ok (.invokestatic 32, 3) := by decide +kernel
theorem dX5_copyFrom_55 : decode cX5_copyFrom 55 = .ok (.return_, 1) := by decide +kernel
theorem dX5_ownerOf_0 : decode cX5_ownerOf 0 = .ok (.aload_n 0, 1) := by decide +kernel
theorem dX5_ownerOf_1 : decode cX5_ownerOf 1 = .ok (.getfield 25, 3) := by decide +kernel
theorem dX5_ownerOf_4 : decode cX5_ownerOf 4 = .ok (.iload_n 1, 1) := by decide +kernel
theorem dX5_ownerOf_5 : decode cX5_ownerOf 5 = .ok (.ishr, 1) := by decide +kernel
theorem dX5_ownerOf_6 : decode cX5_ownerOf 6 = .ok (.iconst 1, 1) := by decide +kernel
theorem dX5_ownerOf_7 : decode cX5_ownerOf 7 = .ok (.iand, 1) := by decide +kernel
theorem dX5_ownerOf_8 : decode cX5_ownerOf 8 = .ok (.ireturn, 1) := by decide +kernel
theorem dX5_setHedge_0 : decode cX5_setHedge 0 = .ok (.aload_n 0, 1) := by decide +kernel
theorem dX5_setHedge_1 : decode cX5_setHedge 1 = .ok (.dup, 1) := by decide +kernel
theorem dX5_setHedge_2 : decode cX5_setHedge 2 = .ok (.getfield 15, 3) := by decide +kernel
theorem dX5_setHedge_5 : decode cX5_setHedge 5 = .ok (.lload_n 2, 1) := by decide +kernel
theorem dX5_setHedge_6 : decode cX5_setHedge 6 = .ok (.lor, 1) := by decide +kernel
theorem dX5_setHedge_7 : decode cX5_setHedge 7 = .ok (.putfield 15, 3) := by decide +kernel
theorem dX5_setHedge_10 : decode cX5_setHedge 10 = .ok (.aload_n 0, 1) := by decide +kernel
theorem dX5_setHedge_11 : decode cX5_setHedge 11 = .ok (.iload 4, 2) := by decide +kernel
theorem dX5_setHedge_13 : decode cX5_setHedge 13 = .ok (.iconst 1, 1) := by decide +kernel
theorem dX5_setHedge_14 : decode cX5_setHedge 14 = .ok (.if_icmp .ne 12, 3) := by decide +kernel
theorem dX5_setHedge_17 : decode cX5_setHedge 17 = .ok (.aload_n 0, 1) := by decide +kernel
theorem dX5_setHedge_18 : decode cX5_setHedge 18 = .ok (.getfield 19, 3) := by decide +kernel
theorem dX5_setHedge_21 : decode cX5_setHedge 21 = .ok (.lload_n 2, 1) := by decide +kernel
theorem dX5_setHedge_22 : decode cX5_setHedge 22 = .ok (.lor, 1) := by decide +kernel
theorem dX5_setHedge_23 : decode cX5_setHedge 23 = .ok (.goto 13, 3) := by decide +kernel
theorem dX5_setHedge_26 : decode cX5_setHedge 26 = .ok (.aload_n 0, 1) := by decide +kernel
theorem dX5_setHedge_27 : decode cX5_setHedge 27 = .ok (.getfield 19, 3) := by decide +kernel
theorem dX5_setHedge_30 : decode cX5_setHedge 30 = .ok (.lload_n 2, 1) := by decide +kernel
theorem dX5_setHedge_31 : decode cX5_setHedge 31 = .ok (.ldc2_w 38, 3) := by decide +kernel
theorem dX5_setHedge_34 : decode cX5_setHedge 34 = .ok (.lxor, 1) := by decide +kernel
theorem dX5_setHedge_35 : decode cX5_setHedge 35 = .ok (.land, 1) := by decide +kernel
theorem dX5_setHedge_36 : decode cX5_setHedge 36 = .ok (.putfield 19, 3) := by decide +kernel
theorem dX5_setHedge_39 : decode cX5_setHedge 39 = .ok (.aload_n 0, 1) := by decide +kernel
theorem dX5_setHedge_40 : decode cX5_setHedge 40 = .ok (.getfield 9, 3) := by decide +kernel
theorem dX5_setHedge_43 : decode cX5_setHedge 43 = .ok (.iload_n 1, 1) := by decide +kernel
theorem dX5_setHedge_44 : decode cX5_setHedge 44 = .ok (.iload 5, 2) := by decide +kernel
theorem dX5_setHedge_46 : decode cX5_setHedge 46 = .ok (.iastore, 1) := by decide +kernel
theorem dX5_setHedge_47 : decode cX5_setHedge 47 = .ok (.return_, 1) := by decide +kernel
theorem dX5_removeHedge_0 : decode cX5_removeHedge 0 = .ok (.aload_n 0, 1) := by decide +kernel
theorem dX5_removeHedge_1 : decode cX5_removeHedge 1 = .ok (.dup, 1) := by decide +kernel
theorem dX5_removeHedge_2 : decode cX5_removeHedge 2 = .ok (.getfield 15, 3) := by decide +kernel
theorem dX5_removeHedge_5 : decode cX5_removeHedge 5 = .ok (.lload_n 1, 1) := by decide +kernel
theorem dX5_removeHedge_6 : decode cX5_removeHedge 6 = .ok (.ldc2_w 38, 3) := by decide +kernel
theorem dX5_removeHedge_9 : decode cX5_removeHedge 9 = .ok (.lxor, 1) := by decide +kernel
theorem dX5_removeHedge_10 : decode cX5_removeHedge 10 = .ok (.land, 1) := by decide +kernel
theorem dX5_removeHedge_11 : decode cX5_removeHedge 11 = .ok (.putfield 15, 3) := by decide +kernel
theorem dX5_removeHedge_14 : decode cX5_removeHedge 14 = .ok (.aload_n 0, 1) := by decide +kernel
theorem dX5_removeHedge_15 : decode cX5_removeHedge 15 = .ok (.dup, 1) := by decide +kernel
theorem dX5_removeHedge_16 : decode cX5_removeHedge 16 = .ok (.getfield 19, 3) := by decide +kernel
theorem dX5_removeHedge_19 : decode cX5_removeHedge 19 = .ok (.lload_n 1, 1) := by decide +kernel
theorem dX5_removeHedge_20 : decode cX5_removeHedge 20 = .ok (.ldc2_w 38, 3) := by decide +kernel
theorem dX5_removeHedge_23 : decode cX5_removeHedge 23 = .ok (.lxor, 1) := by decide +kernel
theorem dX5_removeHedge_24 : decode cX5_removeHedge 24 = .ok (.land, 1) := by decide +kernel
theorem dX5_removeHedge_25 : decode cX5_removeHedge 25 = .ok (.putfield 19, 3) := by decide +kernel
theorem dX5_removeHedge_28 : decode cX5_removeHedge 28 = .ok (.aload_n 0, 1) := by decide +kernel
theorem dX5_removeHedge_29 : decode cX5_removeHedge 29 = .ok (.dup, 1) := by decide +kernel
theorem dX5_removeHedge_30 : decode cX5_removeHedge 30 = .ok (.getfield 22, 3) := by decide +kernel
theorem dX5_removeHedge_33 : decode cX5_removeHedge 33 = .ok (.lload_n 1, 1) := by decide +kernel
theorem dX5_removeHedge_34 : decode cX5_removeHedge 34 = .ok (.ldc2_w 38, 3) := by decide +kernel
theorem dX5_removeHedge_37 : decode cX5_removeHedge 37 = .ok (.lxor, 1) := by decide +kernel
theorem dX5_removeHedge_38 : decode cX5_removeHedge 38 = .ok (.land, 1) := by decide +kernel
theorem dX5_removeHedge_39 : decode cX5_removeHedge 39 = .ok (.putfield 22, 3) := by decide +kernel
theorem dX5_removeHedge_42 : decode cX5_removeHedge 42 = .ok (.return_, 1) := by decide +kernel
theorem dX5_growOlder_0 : decode cX5_growOlder 0 = .ok (.iconst 0, 1) := by decide +kernel
theorem dX5_growOlder_1 : decode cX5_growOlder 1 = .ok (.istore_n 2, 1) := by decide +kernel
theorem dX5_growOlder_2 : decode cX5_growOlder 2 = .ok (.iload_n 2, 1) := by decide +kernel
theorem dX5_growOlder_3 : decode cX5_growOlder 3 = .ok (.aload_n 1, 1) := by decide +kernel
theorem dX5_growOlder_4 : decode cX5_growOlder 4 = .ok (.getfield 40, 3) := by decide +kernel
theorem dX5_growOlder_7 : decode cX5_growOlder 7 = .ok (.if_icmp .ge 44, 3) := by decide +kernel
theorem dX5_growOlder_10 : decode cX5_growOlder 10 = .ok (.aload_n 0, 1) := by decide +kernel
theorem dX5_growOlder_11 : decode cX5_growOlder 11 = .ok (.getfield 15, 3) := by decide +kernel
theorem dX5_growOlder_14 : decode cX5_growOlder 14 = .ok (.aload_n 1, 1) := by decide +kernel
theorem dX5_growOlder_15 : decode cX5_growOlder 15 = .ok (.getfield 45, 3) := by decide +kernel
theorem dX5_growOlder_18 : decode cX5_growOlder 18 = .ok (.iload_n 2, 1) := by decide +kernel
theorem dX5_growOlder_19 : decode cX5_growOlder 19 = .ok (.laload, 1) := by decide +kernel
theorem dX5_growOlder_20 : decode cX5_growOlder 20 = .ok (.land, 1) := by decide +kernel
theorem dX5_growOlder_21 : decode cX5_growOlder 21 = .ok (.lconst 0, 1) := by decide +kernel
theorem dX5_growOlder_22 : decode cX5_growOlder 22 = .ok (.lcmp, 1) := by decide +kernel
theorem dX5_growOlder_23 : decode cX5_growOlder 23 = .ok (.ifCond .eq 22, 3) := by decide +kernel
theorem dX5_growOlder_26 : decode cX5_growOlder 26 = .ok (.aload_n 0, 1) := by decide +kernel
theorem dX5_growOlder_27 : decode cX5_growOlder 27 = .ok (.getfield 9, 3) := by decide +kernel
theorem dX5_growOlder_30 : decode cX5_growOlder 30 = .ok (.iload_n 2, 1) := by decide +kernel
theorem dX5_growOlder_31 : decode cX5_growOlder 31 = .ok (.bipush 99, 2) := by decide +kernel
theorem dX5_growOlder_33 : decode cX5_growOlder 33 = .ok (.aload_n 0, 1) := by decide +kernel
theorem dX5_growOlder_34 : decode cX5_growOlder 34 = .ok (.getfield 9, 3) := by decide +kernel
theorem dX5_growOlder_37 : decode cX5_growOlder 37 = .ok (.iload_n 2, 1) := by decide +kernel
theorem dX5_growOlder_38 : decode cX5_growOlder 38 = .ok (.iaload, 1) := by decide +kernel
theorem dX5_growOlder_39 : decode cX5_growOlder 39 = .ok (.iconst 1, 1) := by decide +kernel
theorem dX5_growOlder_40 : decode cX5_growOlder 40 = .ok (.iadd, 1) := by decide +kernel
theorem dX5_growOlder_41 : decode cX5_growOlder 41 = .ok (.invokestatic 49, 3) := by decide +kernel
theorem dX5_growOlder_44 : decode cX5_growOlder 44 = .ok (.iastore, 1) := by decide +kernel
theorem dX5_growOlder_45 : decode cX5_growOlder 45 = .ok (.iinc 2 1, 3) := by decide +kernel
theorem dX5_growOlder_48 : decode cX5_growOlder 48 = .ok (.goto (-46), 3) := by decide +kernel
theorem dX5_growOlder_51 : decode cX5_growOlder 51 = .ok (.return_, 1) := by decide +kernel
set_option maxRecDepth 20000 in
theorem ggX5_tallHedges_X0_heightOn : GoodIn wsX5_tallHedges wsX0_heightOn := goodIn_r _ [9, 10, 11, 12, 13, 14, 15, 16, 8, 17, 18, 19, 20, 21, 22, 23, 24, 25, 26, 27, 28, 29, 30, 31, 32, 33] (by decide +kernel) (by decide +kernel)
set_option maxRecDepth 20000 in
theorem gX5_tallHedges_X0_heightOn : GoodIn wsX5_tallHedges (wsV RX5 55 RX0 yX0_heightOn wsX0_heightOn) := goodIn_app (goodIn_of _ (by decide +kernel)) ggX5_tallHedges_X0_heightOn
theorem dX5_tallHedges_0 : decode cX5_tallHedges 0 = .ok (.lconst 0, 1) := by decide +kernel
theorem dX5_tallHedges_1 : decode cX5_tallHedges 1 = .ok (.lstore_n 3, 1) := by decide +kernel
theorem dX5_tallHedges_2 : decode cX5_tallHedges 2 = .ok (.iconst 0, 1) := by decide +kernel
theorem dX5_tallHedges_3 : decode cX5_tallHedges 3 = .ok (.istore 5, 2) := by decide +kernel
theorem dX5_tallHedges_5 : decode cX5_tallHedges 5 = .ok (.iload 5, 2) := by decide +kernel
theorem dX5_tallHedges_7 : decode cX5_tallHedges 7 = .ok (.aload_n 1, 1) := by decide +kernel
theorem dX5_tallHedges_8 : decode cX5_tallHedges 8 = .ok (.getfield 40, 3) := by decide +kernel
theorem dX5_tallHedges_11 : decode cX5_tallHedges 11 = .ok (.if_icmp .ge 56, 3) := by decide +kernel
theorem dX5_tallHedges_14 : decode cX5_tallHedges 14 = .ok (.aload_n 0, 1) := by decide +kernel
theorem dX5_tallHedges_15 : decode cX5_tallHedges 15 = .ok (.getfield 15, 3) := by decide +kernel
theorem dX5_tallHedges_18 : decode cX5_tallHedges 18 = .ok (.aload_n 1, 1) := by decide +kernel
theorem dX5_tallHedges_19 : decode cX5_tallHedges 19 = .ok (.getfield 45, 3) := by decide +kernel
theorem dX5_tallHedges_22 : decode cX5_tallHedges 22 = .ok (.iload 5, 2) := by decide +kernel
theorem dX5_tallHedges_24 : decode cX5_tallHedges 24 = .ok (.laload, 1) := by decide +kernel
theorem dX5_tallHedges_25 : decode cX5_tallHedges 25 = .ok (.land, 1) := by decide +kernel
theorem dX5_tallHedges_26 : decode cX5_tallHedges 26 = .ok (.lconst 0, 1) := by decide +kernel
theorem dX5_tallHedges_27 : decode cX5_tallHedges 27 = .ok (.lcmp, 1) := by decide +kernel
theorem dX5_tallHedges_28 : decode cX5_tallHedges 28 = .ok (.ifCond .eq 33, 3) := by decide +kernel
theorem dX5_tallHedges_31 : decode cX5_tallHedges 31 = .ok (.aload_n 1, 1) := by decide +kernel
theorem dX5_tallHedges_32 : decode cX5_tallHedges 32 = .ok (.iload 5, 2) := by decide +kernel
theorem dX5_tallHedges_34 : decode cX5_tallHedges 34 = .ok (.aload_n 0, 1) := by decide +kernel
theorem dX5_tallHedges_35 : decode cX5_tallHedges 35 = .ok (.getfield 9, 3) := by decide +kernel
theorem dX5_tallHedges_38 : decode cX5_tallHedges 38 = .ok (.iload 5, 2) := by decide +kernel
theorem dX5_tallHedges_40 : decode cX5_tallHedges 40 = .ok (.iaload, 1) := by decide +kernel
theorem dX5_tallHedges_41 : decode cX5_tallHedges 41 = .ok (.iload_n 2, 1) := by decide +kernel
theorem dX5_tallHedges_42 : decode cX5_tallHedges 42 = .ok (.iadd, 1) := by decide +kernel
theorem dX5_tallHedges_43 : decode cX5_tallHedges 43 = .ok (.invokevirtual 55, 3) := by decide +kernel
theorem dX5_tallHedges_46 : decode cX5_tallHedges 46 = .ok (.bipush 12, 2) := by decide +kernel
theorem dX5_tallHedges_48 : decode cX5_tallHedges 48 = .ok (.if_icmp .lt 13, 3) := by decide +kernel
theorem dX5_tallHedges_51 : decode cX5_tallHedges 51 = .ok (.lload_n 3, 1) := by decide +kernel
theorem dX5_tallHedges_52 : decode cX5_tallHedges 52 = .ok (.aload_n 1, 1) := by decide +kernel
theorem dX5_tallHedges_53 : decode cX5_tallHedges 53 = .ok (.getfield 45, 3) := by decide +kernel
theorem dX5_tallHedges_56 : decode cX5_tallHedges 56 = .ok (.iload 5, 2) := by decide +kernel
theorem dX5_tallHedges_58 : decode cX5_tallHedges 58 = .ok (.laload, 1) := by decide +kernel
theorem dX5_tallHedges_59 : decode cX5_tallHedges 59 = .ok (.lor, 1) := by decide +kernel
theorem dX5_tallHedges_60 : decode cX5_tallHedges 60 = .ok (.lstore_n 3, 1) := by decide +kernel
theorem dX5_tallHedges_61 : decode cX5_tallHedges 61 = .ok (.iinc 5 1, 3) := by decide +kernel
theorem dX5_tallHedges_64 : decode cX5_tallHedges 64 = .ok (.goto (-59), 3) := by decide +kernel
theorem dX5_tallHedges_67 : decode cX5_tallHedges 67 = .ok (.lload_n 3, 1) := by decide +kernel
theorem dX5_tallHedges_68 : decode cX5_tallHedges 68 = .ok (.lreturn, 1) := by decide +kernel
set_option maxRecDepth 20000 in
theorem ggX5_shutEdges_X5_tallHedges : GoodIn wsX5_shutEdges wsX5_tallHedges := goodIn_r _ [7, 8, 9, 10, 11, 12, 13, 14, 15, 16, 17, 18, 19, 20, 21, 22, 23, 24, 25, 26, 27, 34, 35, 36, 37, 38, 39, 40, 41, 42, 43, 44, 45, 46, 28, 29, 30, 31, 32, 33] (by decide +kernel) (by decide +kernel)
set_option maxRecDepth 20000 in
theorem gX5_shutEdges_X5_tallHedges : GoodIn wsX5_shutEdges (wsV RX5 58 RX5 yX5_tallHedges wsX5_tallHedges) := goodIn_app (goodIn_of _ (by decide +kernel)) ggX5_shutEdges_X5_tallHedges
theorem dX5_shutEdges_0 : decode cX5_shutEdges 0 = .ok (.aload_n 0, 1) := by decide +kernel
theorem dX5_shutEdges_1 : decode cX5_shutEdges 1 = .ok (.aload_n 1, 1) := by decide +kernel
theorem dX5_shutEdges_2 : decode cX5_shutEdges 2 = .ok (.iconst 0, 1) := by decide +kernel
theorem dX5_shutEdges_3 : decode cX5_shutEdges 3 = .ok (.invokevirtual 58, 3) := by decide +kernel
theorem dX5_shutEdges_6 : decode cX5_shutEdges 6 = .ok (.aload_n 0, 1) := by decide +kernel
theorem dX5_shutEdges_7 : decode cX5_shutEdges 7 = .ok (.getfield 22, 3) := by decide +kernel
theorem dX5_shutEdges_10 : decode cX5_shutEdges 10 = .ok (.ldc2_w 38, 3) := by decide +kernel
theorem dX5_shutEdges_13 : decode cX5_shutEdges 13 = .ok (.lxor, 1) := by decide +kernel
theorem dX5_shutEdges_14 : decode cX5_shutEdges 14 = .ok (.land, 1) := by decide +kernel
theorem dX5_shutEdges_15 : decode cX5_shutEdges 15 = .ok (.lreturn, 1) := by decide +kernel
set_option maxRecDepth 20000 in
theorem ggX6_init_X4_init : GoodIn wsX6_init wsX4_init := goodIn_r _ [33, 34, 2, 3, 35, 36, 37, 9, 10, 38, 39, 13, 14, 40, 41, 42, 43, 44, 45, 46, 26, 47, 48, 49, 50, 51, 70, 71, 72, 73, 74, 75, 76, 77, 87, 88, 89, 90, 91, 92, 93, 94, 95, 96, 97, 98, 99, 100, 101, 102, 103, 104, 105] (by decide +kernel) (by decide +kernel)
set_option maxRecDepth 20000 in
theorem gX6_init_X4_init_n9 : GoodIn wsX6_init (wsX4_init) := ggX6_init_X4_init
set_option maxRecDepth 20000 in
theorem ggX6_init_X0_init : GoodIn wsX6_init wsX0_init := goodIn_r _ [42, 43, 2, 3, 35, 44, 45, 46, 26, 47, 87, 88, 89, 90, 91, 92, 93, 94, 95, 96, 97, 98, 99] (by decide +kernel) (by decide +kernel)
set_option maxRecDepth 20000 in
theorem gX6_init_X0_init_n18 : GoodIn wsX6_init (wsX0_init) := ggX6_init_X0_init
set_option maxRecDepth 20000 in
theorem ggX6_init_X5_init : GoodIn wsX6_init wsX5_init := goodIn_r _ [49, 50, 2, 3, 35, 51, 100, 101, 102, 103, 104, 105] (by decide +kernel) (by decide +kernel)
set_option maxRecDepth 20000 in
theorem gX6_init_X5_init_n25 : GoodIn wsX6_init (wsX5_init) := ggX6_init_X5_init
set_option maxRecDepth 20000 in
theorem ggX6_init_X3_init : GoodIn wsX6_init wsX3_init := goodIn_r _ [54, 55, 2, 3, 56, 57, 13, 14, 48, 49, 50, 35, 51, 106, 107, 108, 100, 101, 102, 103, 104, 105] (by decide +kernel) (by decide +kernel)
set_option maxRecDepth 20000 in
theorem gX6_init_X3_init : GoodIn wsX6_init (wsX3_init) := ggX6_init_X3_init
set_option maxRecDepth 20000 in
theorem ggX6_init_X2_init : GoodIn wsX6_init wsX2_init := goodIn_r _ [59, 60, 2, 3, 35, 61, 62, 63, 64, 109, 110, 111, 112, 113, 114] (by decide +kernel) (by decide +kernel)
set_option maxRecDepth 20000 in
theorem gX6_init_X2_init_n39 : GoodIn wsX6_init (wsX2_init) := ggX6_init_X2_init
set_option maxRecDepth 20000 in
theorem ggX6_init_X1_init : GoodIn wsX6_init wsX1_init := goodIn_r _ [66, 67, 2, 3, 68, 13, 14, 69, 48, 49, 50, 35, 51, 100, 101, 102, 103, 104, 105, 115, 116, 117] (by decide +kernel) (by decide +kernel)
set_option maxRecDepth 20000 in
theorem gX6_init_X1_init_n61 : GoodIn wsX6_init (wsX1_init) := ggX6_init_X1_init
theorem dX6_init_0 : decode cX6_init 0 = .ok (.aload_n 0, 1) := by decide +kernel
theorem dX6_init_1 : decode cX6_init 1 = .ok (.invokespecial 1, 3) := by decide +kernel
theorem dX6_init_4 : decode cX6_init 4 = .ok (.aload_n 0, 1) := by decide +kernel
theorem dX6_init_5 : decode cX6_init 5 = .ok (.new 7, 3) := by decide +kernel
theorem dX6_init_8 : decode cX6_init 8 = .ok (.dup, 1) := by decide +kernel
theorem dX6_init_9 : decode cX6_init 9 = .ok (.invokespecial 9, 3) := by decide +kernel
theorem dX6_init_12 : decode cX6_init 12 = .ok (.putfield 10, 3) := by decide +kernel
theorem dX6_init_15 : decode cX6_init 15 = .ok (.aload_n 0, 1) := by decide +kernel
theorem dX6_init_16 : decode cX6_init 16 = .ok (.new 16, 3) := by decide +kernel
theorem dX6_init_19 : decode cX6_init 19 = .ok (.dup, 1) := by decide +kernel
theorem dX6_init_20 : decode cX6_init 20 = .ok (.invokespecial 18, 3) := by decide +kernel
theorem dX6_init_23 : decode cX6_init 23 = .ok (.putfield 19, 3) := by decide +kernel
theorem dX6_init_26 : decode cX6_init 26 = .ok (.aload_n 0, 1) := by decide +kernel
theorem dX6_init_27 : decode cX6_init 27 = .ok (.new 23, 3) := by decide +kernel
theorem dX6_init_30 : decode cX6_init 30 = .ok (.dup, 1) := by decide +kernel
theorem dX6_init_31 : decode cX6_init 31 = .ok (.invokespecial 25, 3) := by decide +kernel
theorem dX6_init_34 : decode cX6_init 34 = .ok (.putfield 26, 3) := by decide +kernel
theorem dX6_init_37 : decode cX6_init 37 = .ok (.aload_n 0, 1) := by decide +kernel
theorem dX6_init_38 : decode cX6_init 38 = .ok (.new 30, 3) := by decide +kernel
theorem dX6_init_41 : decode cX6_init 41 = .ok (.dup, 1) := by decide +kernel
theorem dX6_init_42 : decode cX6_init 42 = .ok (.invokespecial 32, 3) := by decide +kernel
theorem dX6_init_45 : decode cX6_init 45 = .ok (.putfield 33, 3) := by decide +kernel
theorem dX6_init_48 : decode cX6_init 48 = .ok (.aload_n 0, 1) := by decide +kernel
theorem dX6_init_49 : decode cX6_init 49 = .ok (.new 37, 3) := by decide +kernel
theorem dX6_init_52 : decode cX6_init 52 = .ok (.dup, 1) := by decide +kernel
theorem dX6_init_53 : decode cX6_init 53 = .ok (.invokespecial 39, 3) := by decide +kernel
theorem dX6_init_56 : decode cX6_init 56 = .ok (.putfield 40, 3) := by decide +kernel
theorem dX6_init_59 : decode cX6_init 59 = .ok (.aload_n 0, 1) := by decide +kernel
theorem dX6_init_60 : decode cX6_init 60 = .ok (.iconst 2, 1) := by decide +kernel
theorem dX6_init_61 : decode cX6_init 61 = .ok (.anewarray 44, 3) := by decide +kernel
theorem dX6_init_64 : decode cX6_init 64 = .ok (.putfield 46, 3) := by decide +kernel
theorem dX6_init_67 : decode cX6_init 67 = .ok (.aload_n 0, 1) := by decide +kernel
theorem dX6_init_68 : decode cX6_init 68 = .ok (.bipush 7, 2) := by decide +kernel
theorem dX6_init_70 : decode cX6_init 70 = .ok (.newarray .long, 2) := by decide +kernel
theorem dX6_init_72 : decode cX6_init 72 = .ok (.putfield 50, 3) := by decide +kernel
theorem dX6_init_75 : decode cX6_init 75 = .ok (.aload_n 0, 1) := by decide +kernel
theorem dX6_init_76 : decode cX6_init 76 = .ok (.iconst (-1), 1) := by decide +kernel
theorem dX6_init_77 : decode cX6_init 77 = .ok (.putfield 54, 3) := by decide +kernel
theorem dX6_init_80 : decode cX6_init 80 = .ok (.aload_n 0, 1) := by decide +kernel
theorem dX6_init_81 : decode cX6_init 81 = .ok (.iconst 0, 1) := by decide +kernel
theorem dX6_init_82 : decode cX6_init 82 = .ok (.putfield 58, 3) := by decide +kernel
theorem dX6_init_85 : decode cX6_init 85 = .ok (.iconst 0, 1) := by decide +kernel
theorem dX6_init_86 : decode cX6_init 86 = .ok (.istore_n 1, 1) := by decide +kernel
theorem dX6_init_87 : decode cX6_init 87 = .ok (.iload_n 1, 1) := by decide +kernel
theorem dX6_init_88 : decode cX6_init 88 = .ok (.iconst 2, 1) := by decide +kernel
theorem dX6_init_89 : decode cX6_init 89 = .ok (.if_icmp .ge 22, 3) := by decide +kernel
theorem dX6_init_92 : decode cX6_init 92 = .ok (.aload_n 0, 1) := by decide +kernel
theorem dX6_init_93 : decode cX6_init 93 = .ok (.getfield 46, 3) := by decide +kernel
theorem dX6_init_96 : decode cX6_init 96 = .ok (.iload_n 1, 1) := by decide +kernel
theorem dX6_init_97 : decode cX6_init 97 = .ok (.new 44, 3) := by decide +kernel
theorem dX6_init_100 : decode cX6_init 100 = .ok (.dup, 1) := by decide +kernel
theorem dX6_init_101 : decode cX6_init 101 = .ok (.invokespecial 61, 3) := by decide +kernel
theorem dX6_init_104 : decode cX6_init 104 = .ok (.aastore, 1) := by decide +kernel
theorem dX6_init_105 : decode cX6_init 105 = .ok (.iinc 1 1, 3) := by decide +kernel
theorem dX6_init_108 : decode cX6_init 108 = .ok (.goto (-21), 3) := by decide +kernel
theorem dX6_init_111 : decode cX6_init 111 = .ok (.return_, 1) := by decide +kernel
theorem dX6_feed_0 : decode cX6_feed 0 = .ok (.iload_n 1, 1) := by decide +kernel
theorem dX6_feed_1 : decode cX6_feed 1 = .ok (.ifCond .lt 10, 3) := by decide +kernel
theorem dX6_feed_4 : decode cX6_feed 4 = .ok (.iload_n 1, 1) := by decide +kernel
theorem dX6_feed_5 : decode cX6_feed 5 = .ok (.sipush 255, 3) := by decide +kernel
theorem dX6_feed_8 : decode cX6_feed 8 = .ok (.if_icmp .le 6, 3) := by decide +kernel
theorem dX6_feed_11 : decode cX6_feed 11 = .ok (.ldc 62, 2) := by decide +kernel
theorem dX6_feed_13 : decode cX6_feed 13 = .ok (.ireturn, 1) := by decide +kernel
theorem dX6_feed_14 : decode cX6_feed 14 = .ok (.aload_n 0, 1) := by decide +kernel
theorem dX6_feed_15 : decode cX6_feed 15 = .ok (.getfield 10, 3) := by decide +kernel
theorem dX6_feed_18 : decode cX6_feed 18 = .ok (.getfield 63, 3) := by decide +kernel
theorem dX6_feed_21 : decode cX6_feed 21 = .ok (.sipush 240, 3) := by decide +kernel
theorem dX6_feed_24 : decode cX6_feed 24 = .ok (.if_icmp .lt 6, 3) := by decide +kernel
theorem dX6_feed_27 : decode cX6_feed 27 = .ok (.ldc 66, 2) := by decide +kernel
theorem dX6_feed_29 : decode cX6_feed 29 = .ok (.ireturn, 1) := by decide +kernel
theorem dX6_feed_30 : decode cX6_feed 30 = .ok (.aload_n 0, 1) := by decide +kernel
theorem dX6_feed_31 : decode cX6_feed 31 = .ok (.getfield 10, 3) := by decide +kernel
theorem dX6_feed_34 : decode cX6_feed 34 = .ok (.getfield 67, 3) := by decide +kernel
theorem dX6_feed_37 : decode cX6_feed 37 = .ok (.aload_n 0, 1) := by decide +kernel
theorem dX6_feed_38 : decode cX6_feed 38 = .ok (.getfield 10, 3) := by decide +kernel
theorem dX6_feed_41 : decode cX6_feed 41 = .ok (.getfield 63, 3) := by decide +kernel
theorem dX6_feed_44 : decode cX6_feed 44 = .ok (.iload_n 1, 1) := by decide +kernel
theorem dX6_feed_45 : decode cX6_feed 45 = .ok (.iastore, 1) := by decide +kernel
theorem dX6_feed_46 : decode cX6_feed 46 = .ok (.aload_n 0, 1) := by decide +kernel
theorem dX6_feed_47 : decode cX6_feed 47 = .ok (.getfield 10, 3) := by decide +kernel
theorem dX6_feed_50 : decode cX6_feed 50 = .ok (.dup, 1) := by decide +kernel
theorem dX6_feed_51 : decode cX6_feed 51 = .ok (.getfield 63, 3) := by decide +kernel
theorem dX6_feed_54 : decode cX6_feed 54 = .ok (.iconst 1, 1) := by decide +kernel
theorem dX6_feed_55 : decode cX6_feed 55 = .ok (.iadd, 1) := by decide +kernel
theorem dX6_feed_56 : decode cX6_feed 56 = .ok (.putfield 63, 3) := by decide +kernel
theorem dX6_feed_59 : decode cX6_feed 59 = .ok (.aload_n 0, 1) := by decide +kernel
theorem dX6_feed_60 : decode cX6_feed 60 = .ok (.getfield 10, 3) := by decide +kernel
theorem dX6_feed_63 : decode cX6_feed 63 = .ok (.getfield 63, 3) := by decide +kernel
theorem dX6_feed_66 : decode cX6_feed 66 = .ok (.ireturn, 1) := by decide +kernel
set_option maxRecDepth 20000 in
theorem ggX6_parish_X4_readText : GoodIn wsX6_parish wsX4_readText := goodIn_r _ [19, 20, 21, 22, 23, 24, 25, 26, 27, 28, 29, 30, 31, 32, 33, 34, 35, 36, 37, 38, 39, 40, 41, 42, 43, 44, 45, 46, 47, 48, 49, 50, 51, 52, 18, 53, 54, 55, 56, 57, 58, 59, 60, 61, 62, 63, 64, 65, 66, 67, 68, 69, 70, 71, 72, 73, 74, 75, 76, 77, 78, 79, 80, 81, 82, 83, 84, 85, 86, 87, 88, 89, 90, 91, 92, 93, 94, 95, 96, 97, 98, 99, 100, 101, 102, 103, 104, 105, 106, 107, 108, 109, 110, 111, 112, 113, 114, 115, 116, 117, 118, 119, 120, 121, 122, 123, 124, 125, 126, 127, 128, 129, 130, 131, 132, 133, 134, 135, 136, 172, 173, 174, 175, 176, 177, 178, 179, 183, 184, 185, 186, 187, 188, 189, 190, 191, 192, 193, 194, 195, 196, 197, 198, 199, 200, 201] (by decide +kernel) (by decide +kernel)
set_option maxRecDepth 20000 in
theorem gX6_parish_X4_readText : GoodIn wsX6_parish (wsV RX6 71 RX4 yX4_readText wsX4_readText) := goodIn_app (goodIn_of _ (by decide +kernel)) ggX6_parish_X4_readText
set_option maxRecDepth 20000 in
theorem ggX6_parish_X0_copyFrom : GoodIn wsX6_parish wsX0_copyFrom := goodIn_r _ [140, 31, 32, 33, 34, 35, 36, 37, 38, 39, 84, 141, 142, 143, 144, 94, 95, 96, 183, 184, 185, 186, 187, 188, 189, 190, 191, 192, 193, 194, 195] (by decide +kernel) (by decide +kernel)
set_option maxRecDepth 20000 in
theorem gX6_parish_X0_copyFrom : GoodIn wsX6_parish (wsV RX6 79 RX0 yX0_copyFrom wsX0_copyFrom) := goodIn_app (goodIn_of _ (by decide +kernel)) ggX6_parish_X0_copyFrom
set_option maxRecDepth 20000 in
theorem ggX6_parish_X5_copyFrom : GoodIn wsX6_parish wsX5_copyFrom := goodIn_r _ [148, 45, 46, 47, 48, 49, 132, 149, 142, 143, 144, 196, 197, 198, 199, 200, 201] (by decide +kernel) (by decide +kernel)
set_option maxRecDepth 20000 in
theorem gX6_parish_X5_copyFrom : GoodIn wsX6_parish (wsV RX6 86 RX5 yX5_copyFrom wsX5_copyFrom) := goodIn_app (goodIn_of _ (by decide +kernel)) ggX6_parish_X5_copyFrom
set_option maxRecDepth 20000 in
theorem ggX6_parish_X3_forget : GoodIn wsX6_parish wsX3_forget := goodIn_r _ [154, 155, 202, 203, 204] (by decide +kernel) (by decide +kernel)
set_option maxRecDepth 20000 in
theorem gX6_parish_X3_forget : GoodIn wsX6_parish (wsV RX6 89 RX3 yX3_forget wsX3_forget) := goodIn_app (goodIn_of _ (by decide +kernel)) ggX6_parish_X3_forget
set_option maxRecDepth 20000 in
theorem ggX6_parish_X2_forget : GoodIn wsX6_parish wsX2_forget := goodIn_r _ [160, 161, 162, 205, 206, 207, 208, 209, 210] (by decide +kernel) (by decide +kernel)
set_option maxRecDepth 20000 in
theorem gX6_parish_X2_forget : GoodIn wsX6_parish (wsV RX6 92 RX2 yX2_forget wsX2_forget) := goodIn_app (goodIn_of _ (by decide +kernel)) ggX6_parish_X2_forget
theorem dX6_parish_0 : decode cX6_parish 0 = .ok (.aload_n 0, 1) := by decide +kernel
theorem dX6_parish_1 : decode cX6_parish 1 = .ok (.getfield 10, 3) := by decide +kernel
theorem dX6_parish_4 : decode cX6_parish 4 = .ok (.invokevirtual 71, 3) := by decide +kernel
theorem dX6_parish_7 : decode cX6_parish 7 = .ok (.aload_n 0, 1) := by decide +kernel
theorem dX6_parish_8 : decode cX6_parish 8 = .ok (.getfield 10, 3) := by decide +kernel
theorem dX6_parish_11 : decode cX6_parish 11 = .ok (.iconst 0, 1) := by decide +kernel
theorem dX6_parish_12 : decode cX6_parish 12 = .ok (.putfield 63, 3) := by decide +kernel
theorem dX6_parish_15 : decode cX6_parish 15 = .ok (.aload_n 0, 1) := by decide +kernel
theorem dX6_parish_16 : decode cX6_parish 16 = .ok (.aload_n 0, 1) := by decide +kernel
theorem dX6_parish_17 : decode cX6_parish 17 = .ok (.getfield 10, 3) := by decide +kernel
theorem dX6_parish_20 : decode cX6_parish 20 = .ok (.getfield 74, 3) := by decide +kernel
theorem dX6_parish_23 : decode cX6_parish 23 = .ok (.putfield 54, 3) := by decide +kernel
theorem dX6_parish_26 : decode cX6_parish 26 = .ok (.aload_n 0, 1) := by decide +kernel
theorem dX6_parish_27 : decode cX6_parish 27 = .ok (.getfield 10, 3) := by decide +kernel
theorem dX6_parish_30 : decode cX6_parish 30 = .ok (.getfield 75, 3) := by decide +kernel
theorem dX6_parish_33 : decode cX6_parish 33 = .ok (.ifCond .eq 14, 3) := by decide +kernel
theorem dX6_parish_36 : decode cX6_parish 36 = .ok (.bipush (-10), 2) := by decide +kernel
theorem dX6_parish_38 : decode cX6_parish 38 = .ok (.aload_n 0, 1) := by decide +kernel
theorem dX6_parish_39 : decode cX6_parish 39 = .ok (.getfield 10, 3) := by decide +kernel
theorem dX6_parish_42 : decode cX6_parish 42 = .ok (.getfield 75, 3) := by decide +kernel
theorem dX6_parish_45 : decode cX6_parish 45 = .ok (.isub, 1) := by decide +kernel
theorem dX6_parish_46 : decode cX6_parish 46 = .ok (.ireturn, 1) := by decide +kernel
theorem dX6_parish_47 : decode cX6_parish 47 = .ok (.aload_n 0, 1) := by decide +kernel
theorem dX6_parish_48 : decode cX6_parish 48 = .ok (.getfield 19, 3) := by decide +kernel
theorem dX6_parish_51 : decode cX6_parish 51 = .ok (.aload_n 0, 1) := by decide +kernel
theorem dX6_parish_52 : decode cX6_parish 52 = .ok (.getfield 10, 3) := by decide +kernel
theorem dX6_parish_55 : decode cX6_parish 55 = .ok (.getfield 78, 3) := by decide +kernel
theorem dX6_parish_58 : decode cX6_parish 58 = .ok (.invokevirtual 79, 3) := by decide +kernel
theorem dX6_parish_61 : decode cX6_parish 61 = .ok (.aload_n 0, 1) := by decide +kernel
theorem dX6_parish_62 : decode cX6_parish 62 = .ok (.getfield 26, 3) := by decide +kernel
theorem dX6_parish_65 : decode cX6_parish 65 = .ok (.aload_n 0, 1) := by decide +kernel
theorem dX6_parish_66 : decode cX6_parish 66 = .ok (.getfield 10, 3) := by decide +kernel
theorem dX6_parish_69 : decode cX6_parish 69 = .ok (.getfield 83, 3) := by decide +kernel
theorem dX6_parish_72 : decode cX6_parish 72 = .ok (.invokevirtual 86, 3) := by decide +kernel
theorem dX6_parish_75 : decode cX6_parish 75 = .ok (.aload_n 0, 1) := by decide +kernel
theorem dX6_parish_76 : decode cX6_parish 76 = .ok (.getfield 33, 3) := by decide +kernel
theorem dX6_parish_79 : decode cX6_parish 79 = .ok (.invokevirtual 89, 3) := by decide +kernel
theorem dX6_parish_82 : decode cX6_parish 82 = .ok (.aload_n 0, 1) := by decide +kernel
theorem dX6_parish_83 : decode cX6_parish 83 = .ok (.getfield 40, 3) := by decide +kernel
theorem dX6_parish_86 : decode cX6_parish 86 = .ok (.invokevirtual 92, 3) := by decide +kernel
theorem dX6_parish_89 : decode cX6_parish 89 = .ok (.iconst 0, 1) := by decide +kernel
theorem dX6_parish_90 : decode cX6_parish 90 = .ok (.istore_n 1, 1) := by decide +kernel
theorem dX6_parish_91 : decode cX6_parish 91 = .ok (.iload_n 1, 1) := by decide +kernel
theorem dX6_parish_92 : decode cX6_parish 92 = .ok (.iconst 2, 1) := by decide +kernel
theorem dX6_parish_93 : decode cX6_parish 93 = .ok (.if_icmp .ge 19, 3) := by decide +kernel
theorem dX6_parish_96 : decode cX6_parish 96 = .ok (.aload_n 0, 1) := by decide +kernel
theorem dX6_parish_97 : decode cX6_parish 97 = .ok (.getfield 46, 3) := by decide +kernel
theorem dX6_parish_100 : decode cX6_parish 100 = .ok (.iload_n 1, 1) := by decide +kernel
theorem dX6_parish_101 : decode cX6_parish 101 = .ok (.aaload, 1) := by decide +kernel
theorem dX6_parish_102 : decode cX6_parish 102 = .ok (.iconst 0, 1) := by decide +kernel
theorem dX6_parish_103 : decode cX6_parish 103 = .ok (.putfield 93, 3) := by decide +kernel
theorem dX6_parish_106 : decode cX6_parish 106 = .ok (.iinc 1 1, 3) := by decide +kernel
theorem dX6_parish_109 : decode cX6_parish 109 = .ok (.goto (-18), 3) := by decide +kernel
theorem dX6_parish_112 : decode cX6_parish 112 = .ok (.aload_n 0, 1) := by decide +kernel
theorem dX6_parish_113 : decode cX6_parish 113 = .ok (.getfield 19, 3) := by decide +kernel
theorem dX6_parish_116 : decode cX6_parish 116 = .ok (.getfield 97, 3) := by decide +kernel
theorem dX6_parish_119 : decode cX6_parish 119 = .ok (.ireturn, 1) := by decide +kernel
theorem dX6_fault_0 : decode cX6_fault 0 = .ok (.aload_n 0, 1) := by decide +kernel
theorem dX6_fault_1 : decode cX6_fault 1 = .ok (.getfield 54, 3) := by decide +kernel
theorem dX6_fault_4 : decode cX6_fault 4 = .ok (.ireturn, 1) := by decide +kernel
set_option maxRecDepth 20000 in
theorem ggX6_told_J13_bitCount_95d88 : GoodIn wsX6_told wsJ13_bitCount_95d88 := goodIn_r _ [21, 22, 23, 24] (by decide +kernel) (by decide +kernel)
set_option maxRecDepth 20000 in
theorem gX6_told_J13_bitCount_95d88 : GoodIn wsX6_told (va_wsS RX6 116 yJ13_bitCount_95d88 wsJ13_bitCount_95d88) := goodIn_app (goodIn_of _ (by decide +kernel)) ggX6_told_J13_bitCount_95d88
set_option maxRecDepth 20000 in
theorem ggX6_told_J6_bitCount_0f7a4 : GoodIn wsX6_told wsJ6_bitCount_0f7a4 := goodIn_r _ [28, 29, 30, 31] (by decide +kernel) (by decide +kernel)
set_option maxRecDepth 20000 in
theorem gX6_told_J6_bitCount_0f7a4 : GoodIn wsX6_told (va_wsS RX6 125 yJ6_bitCount_0f7a4 wsJ6_bitCount_0f7a4) := goodIn_app (goodIn_of _ (by decide +kernel)) ggX6_told_J6_bitCount_0f7a4
set_option maxRecDepth 20000 in
theorem ggX6_told_X0_edgesRound : GoodIn wsX6_told wsX0_edgesRound := goodIn_r _ [36, 37, 38, 39, 49, 50, 51, 52, 53, 54, 55, 56, 57, 58, 59, 60, 61] (by decide +kernel) (by decide +kernel)
set_option maxRecDepth 20000 in
theorem gX6_told_X0_edgesRound : GoodIn wsX6_told (wsV RX6 130 RX0 yX0_edgesRound wsX0_edgesRound) := goodIn_app (goodIn_of _ (by decide +kernel)) ggX6_told_X0_edgesRound
theorem dX6_told_0 : decode cX6_told 0 = .ok (.iload_n 1, 1) := by decide +kernel
theorem dX6_told_1 : decode cX6_told 1 = .ok (.ifCond .lt 9, 3) := by decide +kernel
theorem dX6_told_4 : decode cX6_told 4 = .ok (.iload_n 1, 1) := by decide +kernel
theorem dX6_told_5 : decode cX6_told 5 = .ok (.bipush 12, 2) := by decide +kernel
theorem dX6_told_7 : decode cX6_told 7 = .ok (.if_icmp .le 6, 3) := by decide +kernel
theorem dX6_told_10 : decode cX6_told 10 = .ok (.ldc 62, 2) := by decide +kernel
theorem dX6_told_12 : decode cX6_told 12 = .ok (.ireturn, 1) := by decide +kernel
theorem dX6_told_13 : decode cX6_told 13 = .ok (.iload_n 1, 1) := by decide +kernel
theorem dX6_told_14 : decode cX6_told 14 = .ok (.tableswitch 185 0 11 #[62, 70, 78, 86, 94, 102, 110, 121, 140, 151, 169, 177], 62) := by decide +kernel
theorem dX6_told_76 : decode cX6_told 76 = .ok (.aload_n 0, 1) := by decide +kernel
theorem dX6_told_77 : decode cX6_told 77 = .ok (.getfield 19, 3) := by decide +kernel
theorem dX6_told_80 : decode cX6_told 80 = .ok (.getfield 100, 3) := by decide +kernel
theorem dX6_told_83 : decode cX6_told 83 = .ok (.ireturn, 1) := by decide +kernel
theorem dX6_told_84 : decode cX6_told 84 = .ok (.aload_n 0, 1) := by decide +kernel
theorem dX6_told_85 : decode cX6_told 85 = .ok (.getfield 19, 3) := by decide +kernel
theorem dX6_told_88 : decode cX6_told 88 = .ok (.getfield 103, 3) := by decide +kernel
theorem dX6_told_91 : decode cX6_told 91 = .ok (.ireturn, 1) := by decide +kernel
theorem dX6_told_92 : decode cX6_told 92 = .ok (.aload_n 0, 1) := by decide +kernel
theorem dX6_told_93 : decode cX6_told 93 = .ok (.getfield 19, 3) := by decide +kernel
theorem dX6_told_96 : decode cX6_told 96 = .ok (.getfield 97, 3) := by decide +kernel
theorem dX6_told_99 : decode cX6_told 99 = .ok (.ireturn, 1) := by decide +kernel
theorem dX6_told_100 : decode cX6_told 100 = .ok (.aload_n 0, 1) := by decide +kernel
theorem dX6_told_101 : decode cX6_told 101 = .ok (.getfield 19, 3) := by decide +kernel
theorem dX6_told_104 : decode cX6_told 104 = .ok (.getfield 106, 3) := by decide +kernel
theorem dX6_told_107 : decode cX6_told 107 = .ok (.ireturn, 1) := by decide +kernel
theorem dX6_told_108 : decode cX6_told 108 = .ok (.aload_n 0, 1) := by decide +kernel
theorem dX6_told_109 : decode cX6_told 109 = .ok (.getfield 10, 3) := by decide +kernel
theorem dX6_told_112 : decode cX6_told 112 = .ok (.getfield 63, 3) := by decide +kernel
theorem dX6_told_115 : decode cX6_told 115 = .ok (.ireturn, 1) := by decide +kernel
theorem dX6_told_116 : decode cX6_told 116 = .ok (.aload_n 0, 1) := by decide +kernel
theorem dX6_told_117 : decode cX6_told 117 = .ok (.getfield 26, 3) := by decide +kernel
theorem dX6_told_120 : decode cX6_told 120 = .ok (.getfield 109, 3) := by decide +kernel
theorem dX6_told_123 : decode cX6_told 123 = .ok (.ireturn, 1) := by decide +kernel
theorem dX6_told_124 : decode cX6_told 124 = .ok (.aload_n 0, 1) := by decide +kernel
theorem dX6_told_125 : decode cX6_told 125 = .ok (.getfield 26, 3) := by decide +kernel
theorem dX6_told_128 : decode cX6_told 128 = .ok (.getfield 112, 3) := by decide +kernel
theorem dX6_told_131 : decode cX6_told 131 = .ok (.invokestatic 116, 3) := by decide +kernel
theorem dX6_told_134 : decode cX6_told 134 = .ok (.ireturn, 1) := by decide +kernel
theorem dX6_told_135 : decode cX6_told 135 = .ok (.aload_n 0, 1) := by decide +kernel
theorem dX6_told_136 : decode cX6_told 136 = .ok (.getfield 19, 3) := by decide +kernel
theorem dX6_told_139 : decode cX6_told 139 = .ok (.getfield 97, 3) := by decide +kernel
theorem dX6_told_142 : decode cX6_told 142 = .ok (.aload_n 0, 1) := by decide +kernel
theorem dX6_told_143 : decode cX6_told 143 = .ok (.getfield 26, 3) := by decide +kernel
theorem dX6_told_146 : decode cX6_told 146 = .ok (.getfield 122, 3) := by decide +kernel
theorem dX6_told_149 : decode cX6_told 149 = .ok (.invokestatic 125, 3) := by decide +kernel
theorem dX6_told_152 : decode cX6_told 152 = .ok (.isub, 1) := by decide +kernel
theorem dX6_told_153 : decode cX6_told 153 = .ok (.ireturn, 1) := by decide +kernel
theorem dX6_told_154 : decode cX6_told 154 = .ok (.aload_n 0, 1) := by decide +kernel
theorem dX6_told_155 : decode cX6_told 155 = .ok (.getfield 26, 3) := by decide +kernel
theorem dX6_told_158 : decode cX6_told 158 = .ok (.getfield 122, 3) := by decide +kernel
theorem dX6_told_161 : decode cX6_told 161 = .ok (.invokestatic 125, 3) := by decide +kernel
theorem dX6_told_164 : decode cX6_told 164 = .ok (.ireturn, 1) := by decide +kernel
theorem dX6_told_165 : decode cX6_told 165 = .ok (.aload_n 0, 1) := by decide +kernel
theorem dX6_told_166 : decode cX6_told 166 = .ok (.getfield 19, 3) := by decide +kernel
theorem dX6_told_169 : decode cX6_told 169 = .ok (.aload_n 0, 1) := by decide +kernel
theorem dX6_told_170 : decode cX6_told 170 = .ok (.getfield 26, 3) := by decide +kernel
theorem dX6_told_173 : decode cX6_told 173 = .ok (.getfield 122, 3) := by decide +kernel
theorem dX6_told_176 : decode cX6_told 176 = .ok (.invokevirtual 130, 3) := by decide +kernel
theorem dX6_told_179 : decode cX6_told 179 = .ok (.invokestatic 116, 3) := by decide +kernel
theorem dX6_told_182 : decode cX6_told 182 = .ok (.ireturn, 1) := by decide +kernel
theorem dX6_told_183 : decode cX6_told 183 = .ok (.aload_n 0, 1) := by decide +kernel
theorem dX6_told_184 : decode cX6_told 184 = .ok (.getfield 40, 3) := by decide +kernel
theorem dX6_told_187 : decode cX6_told 187 = .ok (.getfield 134, 3) := by decide +kernel
theorem dX6_told_190 : decode cX6_told 190 = .ok (.ireturn, 1) := by decide +kernel
theorem dX6_told_191 : decode cX6_told 191 = .ok (.aload_n 0, 1) := by decide +kernel
theorem dX6_told_192 : decode cX6_told 192 = .ok (.getfield 40, 3) := by decide +kernel
theorem dX6_told_195 : decode cX6_told 195 = .ok (.getfield 137, 3) := by decide +kernel
theorem dX6_told_198 : decode cX6_told 198 = .ok (.ireturn, 1) := by decide +kernel
theorem dX6_told_199 : decode cX6_told 199 = .ok (.aload_n 0, 1) := by decide +kernel
theorem dX6_told_200 : decode cX6_told 200 = .ok (.getfield 33, 3) := by decide +kernel
theorem dX6_told_203 : decode cX6_told 203 = .ok (.getfield 140, 3) := by decide +kernel
theorem dX6_told_206 : decode cX6_told 206 = .ok (.ireturn, 1) := by decide +kernel
set_option maxRecDepth 20000 in
theorem ggX6_field_X0_hasField : GoodIn wsX6_field wsX0_hasField := goodIn_r _ [11, 12, 85, 86, 87, 88, 89, 90, 91, 92, 93, 94, 95, 96, 97] (by decide +kernel) (by decide +kernel)
set_option maxRecDepth 20000 in
theorem gX6_field_X0_hasField : GoodIn wsX6_field (wsV RX6 143 RX0 yX0_hasField wsX0_hasField) := goodIn_app (goodIn_of _ (by decide +kernel)) ggX6_field_X0_hasField
set_option maxRecDepth 20000 in
theorem ggX6_field_X5_ownerOf : GoodIn wsX6_field wsX5_ownerOf := goodIn_r _ [17, 18, 98, 99, 100, 101, 102, 103] (by decide +kernel) (by decide +kernel)
set_option maxRecDepth 20000 in
theorem gX6_field_X5_ownerOf : GoodIn wsX6_field (wsV RX6 151 RX5 yX5_ownerOf wsX5_ownerOf) := goodIn_app (goodIn_of _ (by decide +kernel)) ggX6_field_X5_ownerOf
set_option maxRecDepth 20000 in
theorem ggX6_field_X5_shutEdges : GoodIn wsX6_field wsX5_shutEdges := goodIn_r _ [22, 23, 24, 25, 26, 27, 16, 28, 29, 30, 31, 32, 33, 34, 35, 10, 36, 37, 38, 39, 40, 41, 42, 43, 44, 45, 46, 47, 98, 99, 100, 101, 102, 103, 85, 86, 87, 88, 89, 90, 91, 92, 93, 94, 95, 96, 97] (by decide +kernel) (by decide +kernel)
set_option maxRecDepth 20000 in
theorem gX6_field_X5_shutEdges : GoodIn wsX6_field (wsV RX6 154 RX5 yX5_shutEdges wsX5_shutEdges) := goodIn_app (goodIn_of _ (by decide +kernel)) ggX6_field_X5_shutEdges
set_option maxRecDepth 20000 in
theorem ggX6_field_X0_landFrom : GoodIn wsX6_field wsX0_landFrom := goodIn_r _ [51, 52, 53, 54, 10, 55, 56, 57, 58, 85, 86, 87, 88, 89, 90, 91, 92, 93, 94, 95, 96, 97] (by decide +kernel) (by decide +kernel)
set_option maxRecDepth 20000 in
theorem gX6_field_X0_landFrom : GoodIn wsX6_field (wsV RX6 158 RX0 yX0_landFrom wsX0_landFrom) := goodIn_app (goodIn_of _ (by decide +kernel)) ggX6_field_X0_landFrom
set_option maxRecDepth 20000 in
theorem ggX6_field_J6_bitCount_0f7a4 : GoodIn wsX6_field wsJ6_bitCount_0f7a4 := goodIn_r _ [62, 63, 64, 65] (by decide +kernel) (by decide +kernel)
set_option maxRecDepth 20000 in
theorem gX6_field_J6_bitCount_0f7a4 : GoodIn wsX6_field (va_wsS RX6 125 yJ6_bitCount_0f7a4 wsJ6_bitCount_0f7a4) := goodIn_app (goodIn_of _ (by decide +kernel)) ggX6_field_J6_bitCount_0f7a4
set_option maxRecDepth 20000 in
theorem ggX6_field_X0_shutInBy : GoodIn wsX6_field wsX0_shutInBy := goodIn_r _ [69, 70, 71, 72, 73, 74, 10, 75, 56, 58, 57, 85, 86, 87, 88, 89, 90, 91, 92, 93, 94, 95, 96, 97] (by decide +kernel) (by decide +kernel)
set_option maxRecDepth 20000 in
theorem gX6_field_X0_shutInBy : GoodIn wsX6_field (wsV RX6 165 RX0 yX0_shutInBy wsX0_shutInBy) := goodIn_app (goodIn_of _ (by decide +kernel)) ggX6_field_X0_shutInBy
theorem dX6_field_0 : decode cX6_field 0 = .ok (.aload_n 0, 1) := by decide +kernel
theorem dX6_field_1 : decode cX6_field 1 = .ok (.getfield 19, 3) := by decide +kernel
theorem dX6_field_4 : decode cX6_field 4 = .ok (.iload_n 1, 1) := by decide +kernel
theorem dX6_field_5 : decode cX6_field 5 = .ok (.invokevirtual 143, 3) := by decide +kernel
theorem dX6_field_8 : decode cX6_field 8 = .ok (.ifCond .ne 6, 3) := by decide +kernel
theorem dX6_field_11 : decode cX6_field 11 = .ok (.ldc 147, 2) := by decide +kernel
theorem dX6_field_13 : decode cX6_field 13 = .ok (.ireturn, 1) := by decide +kernel
theorem dX6_field_14 : decode cX6_field 14 = .ok (.iload_n 2, 1) := by decide +kernel
theorem dX6_field_15 : decode cX6_field 15 = .ok (.ifCond .lt 8, 3) := by decide +kernel
theorem dX6_field_18 : decode cX6_field 18 = .ok (.iload_n 2, 1) := by decide +kernel
theorem dX6_field_19 : decode cX6_field 19 = .ok (.iconst 3, 1) := by decide +kernel
theorem dX6_field_20 : decode cX6_field 20 = .ok (.if_icmp .le 6, 3) := by decide +kernel
theorem dX6_field_23 : decode cX6_field 23 = .ok (.ldc 62, 2) := by decide +kernel
theorem dX6_field_25 : decode cX6_field 25 = .ok (.ireturn, 1) := by decide +kernel
theorem dX6_field_26 : decode cX6_field 26 = .ok (.iload_n 2, 1) := by decide +kernel
theorem dX6_field_27 : decode cX6_field 27 = .ok (.tableswitch 69 0 2 #[25, 35, 44], 25) := by decide +kernel
theorem dX6_field_52 : decode cX6_field 52 = .ok (.aload_n 0, 1) := by decide +kernel
theorem dX6_field_53 : decode cX6_field 53 = .ok (.getfield 19, 3) := by decide +kernel
theorem dX6_field_56 : decode cX6_field 56 = .ok (.getfield 148, 3) := by decide +kernel
theorem dX6_field_59 : decode cX6_field 59 = .ok (.iload_n 1, 1) := by decide +kernel
theorem dX6_field_60 : decode cX6_field 60 = .ok (.iaload, 1) := by decide +kernel
theorem dX6_field_61 : decode cX6_field 61 = .ok (.ireturn, 1) := by decide +kernel
theorem dX6_field_62 : decode cX6_field 62 = .ok (.aload_n 0, 1) := by decide +kernel
theorem dX6_field_63 : decode cX6_field 63 = .ok (.getfield 26, 3) := by decide +kernel
theorem dX6_field_66 : decode cX6_field 66 = .ok (.iload_n 1, 1) := by decide +kernel
theorem dX6_field_67 : decode cX6_field 67 = .ok (.invokevirtual 151, 3) := by decide +kernel
theorem dX6_field_70 : decode cX6_field 70 = .ok (.ireturn, 1) := by decide +kernel
theorem dX6_field_71 : decode cX6_field 71 = .ok (.aload_n 0, 1) := by decide +kernel
theorem dX6_field_72 : decode cX6_field 72 = .ok (.getfield 19, 3) := by decide +kernel
theorem dX6_field_75 : decode cX6_field 75 = .ok (.iconst 1, 1) := by decide +kernel
theorem dX6_field_76 : decode cX6_field 76 = .ok (.iload_n 1, 1) := by decide +kernel
theorem dX6_field_77 : decode cX6_field 77 = .ok (.ishl, 1) := by decide +kernel
theorem dX6_field_78 : decode cX6_field 78 = .ok (.aload_n 0, 1) := by decide +kernel
theorem dX6_field_79 : decode cX6_field 79 = .ok (.getfield 26, 3) := by decide +kernel
theorem dX6_field_82 : decode cX6_field 82 = .ok (.aload_n 0, 1) := by decide +kernel
theorem dX6_field_83 : decode cX6_field 83 = .ok (.getfield 19, 3) := by decide +kernel
theorem dX6_field_86 : decode cX6_field 86 = .ok (.invokevirtual 154, 3) := by decide +kernel
theorem dX6_field_89 : decode cX6_field 89 = .ok (.invokevirtual 158, 3) := by decide +kernel
theorem dX6_field_92 : decode cX6_field 92 = .ok (.invokestatic 125, 3) := by decide +kernel
theorem dX6_field_95 : decode cX6_field 95 = .ok (.ireturn, 1) := by decide +kernel
theorem dX6_field_96 : decode cX6_field 96 = .ok (.aload_n 0, 1) := by decide +kernel
theorem dX6_field_97 : decode cX6_field 97 = .ok (.getfield 19, 3) := by decide +kernel
theorem dX6_field_100 : decode cX6_field 100 = .ok (.aload_n 0, 1) := by decide +kernel
theorem dX6_field_101 : decode cX6_field 101 = .ok (.getfield 19, 3) := by decide +kernel
theorem dX6_field_104 : decode cX6_field 104 = .ok (.iconst 1, 1) := by decide +kernel
theorem dX6_field_105 : decode cX6_field 105 = .ok (.iload_n 1, 1) := by decide +kernel
theorem dX6_field_106 : decode cX6_field 106 = .ok (.ishl, 1) := by decide +kernel
theorem dX6_field_107 : decode cX6_field 107 = .ok (.aload_n 0, 1) := by decide +kernel
theorem dX6_field_108 : decode cX6_field 108 = .ok (.getfield 26, 3) := by decide +kernel
theorem dX6_field_111 : decode cX6_field 111 = .ok (.aload_n 0, 1) := by decide +kernel
theorem dX6_field_112 : decode cX6_field 112 = .ok (.getfield 19, 3) := by decide +kernel
theorem dX6_field_115 : decode cX6_field 115 = .ok (.invokevirtual 154, 3) := by decide +kernel
theorem dX6_field_118 : decode cX6_field 118 = .ok (.invokevirtual 158, 3) := by decide +kernel
theorem dX6_field_121 : decode cX6_field 121 = .ok (.aload_n 0, 1) := by decide +kernel
theorem dX6_field_122 : decode cX6_field 122 = .ok (.getfield 26, 3) := by decide +kernel
theorem dX6_field_125 : decode cX6_field 125 = .ok (.getfield 162, 3) := by decide +kernel
theorem dX6_field_128 : decode cX6_field 128 = .ok (.invokevirtual 165, 3) := by decide +kernel
theorem dX6_field_131 : decode cX6_field 131 = .ok (.ireturn, 1) := by decide +kernel
set_option maxRecDepth 20000 in
theorem ggX6_edge_X0_hasEdge : GoodIn wsX6_edge wsX0_hasEdge := goodIn_r _ [17, 18, 63, 64, 65, 66, 67, 68, 69, 70, 71, 72, 73, 74, 75] (by decide +kernel) (by decide +kernel)
set_option maxRecDepth 20000 in
theorem gX6_edge_X0_hasEdge : GoodIn wsX6_edge (wsV RX6 168 RX0 yX0_hasEdge wsX0_hasEdge) := goodIn_app (goodIn_of _ (by decide +kernel)) ggX6_edge_X0_hasEdge
set_option maxRecDepth 20000 in
theorem ggX6_edge_X6_oneIf : GoodIn wsX6_edge wsX6_oneIf := goodIn_r _ [22] (by decide +kernel) (by decide +kernel)
set_option maxRecDepth 20000 in
theorem gX6_edge_X6_oneIf : GoodIn wsX6_edge (va_wsS RX6 180 yX6_oneIf wsX6_oneIf) := goodIn_app (goodIn_of _ (by decide +kernel)) ggX6_edge_X6_oneIf
set_option maxRecDepth 20000 in
theorem ggX6_edge_X0_heightOn : GoodIn wsX6_edge wsX0_heightOn := goodIn_r _ [26, 27, 28, 29, 30, 31, 32, 33, 16, 34, 35, 36, 37, 63, 64, 65, 66, 67, 68, 69, 70, 71, 72, 73, 74, 75] (by decide +kernel) (by decide +kernel)
set_option maxRecDepth 20000 in
theorem gX6_edge_X0_heightOn : GoodIn wsX6_edge (wsV RX6 187 RX0 yX0_heightOn wsX0_heightOn) := goodIn_app (goodIn_of _ (by decide +kernel)) ggX6_edge_X0_heightOn
set_option maxRecDepth 20000 in
theorem ggX6_edge_X5_shutEdges : GoodIn wsX6_edge wsX5_shutEdges := goodIn_r _ [42, 43, 44, 45, 46, 47, 41, 48, 49, 50, 51, 52, 53, 24, 25, 16, 26, 27, 28, 29, 30, 31, 32, 33, 34, 35, 36, 37, 76, 77, 78, 79, 80, 81, 63, 64, 65, 66, 67, 68, 69, 70, 71, 72, 73, 74, 75] (by decide +kernel) (by decide +kernel)
set_option maxRecDepth 20000 in
theorem gX6_edge_X5_shutEdges : GoodIn wsX6_edge (wsV RX6 154 RX5 yX5_shutEdges wsX5_shutEdges) := goodIn_app (goodIn_of _ (by decide +kernel)) ggX6_edge_X5_shutEdges
theorem dX6_edge_0 : decode cX6_edge 0 = .ok (.aload_n 0, 1) := by decide +kernel
theorem dX6_edge_1 : decode cX6_edge 1 = .ok (.getfield 19, 3) := by decide +kernel
theorem dX6_edge_4 : decode cX6_edge 4 = .ok (.iload_n 1, 1) := by decide +kernel
theorem dX6_edge_5 : decode cX6_edge 5 = .ok (.invokevirtual 168, 3) := by decide +kernel
theorem dX6_edge_8 : decode cX6_edge 8 = .ok (.ifCond .ne 6, 3) := by decide +kernel
theorem dX6_edge_11 : decode cX6_edge 11 = .ok (.ldc 147, 2) := by decide +kernel
theorem dX6_edge_13 : decode cX6_edge 13 = .ok (.ireturn, 1) := by decide +kernel
theorem dX6_edge_14 : decode cX6_edge 14 = .ok (.iload_n 2, 1) := by decide +kernel
theorem dX6_edge_15 : decode cX6_edge 15 = .ok (.ifCond .lt 9, 3) := by decide +kernel
theorem dX6_edge_18 : decode cX6_edge 18 = .ok (.iload_n 2, 1) := by decide +kernel
theorem dX6_edge_19 : decode cX6_edge 19 = .ok (.bipush 7, 2) := by decide +kernel
theorem dX6_edge_21 : decode cX6_edge 21 = .ok (.if_icmp .le 6, 3) := by decide +kernel
theorem dX6_edge_24 : decode cX6_edge 24 = .ok (.ldc 62, 2) := by decide +kernel
theorem dX6_edge_26 : decode cX6_edge 26 = .ok (.ireturn, 1) := by decide +kernel
theorem dX6_edge_27 : decode cX6_edge 27 = .ok (.aload_n 0, 1) := by decide +kernel
theorem dX6_edge_28 : decode cX6_edge 28 = .ok (.getfield 19, 3) := by decide +kernel
theorem dX6_edge_31 : decode cX6_edge 31 = .ok (.getfield 171, 3) := by decide +kernel
theorem dX6_edge_34 : decode cX6_edge 34 = .ok (.iload_n 1, 1) := by decide +kernel
theorem dX6_edge_35 : decode cX6_edge 35 = .ok (.laload, 1) := by decide +kernel
theorem dX6_edge_36 : decode cX6_edge 36 = .ok (.lstore_n 3, 1) := by decide +kernel
theorem dX6_edge_37 : decode cX6_edge 37 = .ok (.aload_n 0, 1) := by decide +kernel
theorem dX6_edge_38 : decode cX6_edge 38 = .ok (.getfield 26, 3) := by decide +kernel
theorem dX6_edge_41 : decode cX6_edge 41 = .ok (.getfield 112, 3) := by decide +kernel
theorem dX6_edge_44 : decode cX6_edge 44 = .ok (.lload_n 3, 1) := by decide +kernel
theorem dX6_edge_45 : decode cX6_edge 45 = .ok (.land, 1) := by decide +kernel
theorem dX6_edge_46 : decode cX6_edge 46 = .ok (.lconst 0, 1) := by decide +kernel
theorem dX6_edge_47 : decode cX6_edge 47 = .ok (.lcmp, 1) := by decide +kernel
theorem dX6_edge_48 : decode cX6_edge 48 = .ok (.ifCond .eq 7, 3) := by decide +kernel
theorem dX6_edge_51 : decode cX6_edge 51 = .ok (.iconst 1, 1) := by decide +kernel
theorem dX6_edge_52 : decode cX6_edge 52 = .ok (.goto 4, 3) := by decide +kernel
theorem dX6_edge_55 : decode cX6_edge 55 = .ok (.iconst 0, 1) := by decide +kernel
theorem dX6_edge_56 : decode cX6_edge 56 = .ok (.istore 5, 2) := by decide +kernel
theorem dX6_edge_58 : decode cX6_edge 58 = .ok (.iload_n 2, 1) := by decide +kernel
theorem dX6_edge_59 : decode cX6_edge 59 = .ok (.tableswitch 185 0 6 #[41, 51, 61, 93, 112, 139, 162], 41) := by decide +kernel
theorem dX6_edge_100 : decode cX6_edge 100 = .ok (.aload_n 0, 1) := by decide +kernel
theorem dX6_edge_101 : decode cX6_edge 101 = .ok (.getfield 19, 3) := by decide +kernel
theorem dX6_edge_104 : decode cX6_edge 104 = .ok (.getfield 174, 3) := by decide +kernel
theorem dX6_edge_107 : decode cX6_edge 107 = .ok (.iload_n 1, 1) := by decide +kernel
theorem dX6_edge_108 : decode cX6_edge 108 = .ok (.iaload, 1) := by decide +kernel
theorem dX6_edge_109 : decode cX6_edge 109 = .ok (.ireturn, 1) := by decide +kernel
theorem dX6_edge_110 : decode cX6_edge 110 = .ok (.aload_n 0, 1) := by decide +kernel
theorem dX6_edge_111 : decode cX6_edge 111 = .ok (.getfield 19, 3) := by decide +kernel
theorem dX6_edge_114 : decode cX6_edge 114 = .ok (.getfield 177, 3) := by decide +kernel
theorem dX6_edge_117 : decode cX6_edge 117 = .ok (.iload_n 1, 1) := by decide +kernel
theorem dX6_edge_118 : decode cX6_edge 118 = .ok (.iaload, 1) := by decide +kernel
theorem dX6_edge_119 : decode cX6_edge 119 = .ok (.ireturn, 1) := by decide +kernel
theorem dX6_edge_120 : decode cX6_edge 120 = .ok (.iload 5, 2) := by decide +kernel
theorem dX6_edge_122 : decode cX6_edge 122 = .ok (.ifCond .eq 28, 3) := by decide +kernel
theorem dX6_edge_125 : decode cX6_edge 125 = .ok (.aload_n 0, 1) := by decide +kernel
theorem dX6_edge_126 : decode cX6_edge 126 = .ok (.getfield 26, 3) := by decide +kernel
theorem dX6_edge_129 : decode cX6_edge 129 = .ok (.getfield 162, 3) := by decide +kernel
theorem dX6_edge_132 : decode cX6_edge 132 = .ok (.lload_n 3, 1) := by decide +kernel
theorem dX6_edge_133 : decode cX6_edge 133 = .ok (.land, 1) := by decide +kernel
theorem dX6_edge_134 : decode cX6_edge 134 = .ok (.lconst 0, 1) := by decide +kernel
theorem dX6_edge_135 : decode cX6_edge 135 = .ok (.lcmp, 1) := by decide +kernel
theorem dX6_edge_136 : decode cX6_edge 136 = .ok (.ifCond .eq 7, 3) := by decide +kernel
theorem dX6_edge_139 : decode cX6_edge 139 = .ok (.iconst 1, 1) := by decide +kernel
